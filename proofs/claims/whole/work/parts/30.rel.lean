/-! THE ABSTRACT STATE AND THE HEAP -/
abbrev aE : Type := Nat × Nat × (Nat → Nat)
/-- a value of the abstract machine as the machine has it: cells from E.1 on, the script, the texts -/
def rv (E : aE) : Value → Value
  | .ref a => .ref (E.1 + a)
  | .retAddr 0 => .ref E.2.1
  | .retAddr (k + 1) => .ref (E.2.2 k)
  | v => v
def rl (E : aE) (lv : aL) : aL := lv.map (fun q => (q.1, rv E q.2))
theorem rv_cat (E : aE) (v : Value) : (rv E v).category = v.category := by
  unfold rv; split <;> rfl
def nF (ci : Nat) : Nat := match vwCl[ci]? with
  | some q => q.2.2
  | none => 0
def fvW (bs : Nat) (ty : FieldType) (M : aM) (N : aN) (P : aP) (k j : Nat) : Value := match ty with
  | .int => .int (M k j)
  | .long => .long (N k j)
  | _ => match P k j with
    | none => .null
    | some a => .ref (bs + a)
def fsW (bs ci : Nat) (M : aM) (N : aN) (P : aP) (k : Nat) : List Value := (List.range (nF ci)).map (fun j => fvW bs (cTy ci j) M N P k j)
def ceW (cA : Nat → ClassId) (bs : Nat) (M : aM) (N : aN) (P : aP) (k : Nat) : va_E :=
  if (kindOf k).1 = 0 then .inr ((kindOf k).2, fsW bs (kindOf k).2 M N P k)
  else if (kindOf k).1 = 4 then .inl (cA 4, (kindOf k).2, .inr (.inl (N k)))
  else .inl (cA (kindOf k).1, (kindOf k).2, .inl (M k))
def wsW (cA : Nat → ClassId) (bs : Nat) (M : aM) (N : aN) (P : aP) (nx : Nat) : va_W := (List.range (min nx 44)).map (fun k => (bs + k, ceW cA bs M N P k))
def tysW (cA : Nat → ClassId) : List (ClassId × FieldType) := [(cA 1, .int), (cA 2, .byte), (cA 3, .boolean), (cA 4, .long)]
def relH (D : va_G) (cA : Nat → ClassId) (bs : Nat) (M : aM) (N : aN) (P : aP) (nx : Nat) (H : Heap) : Prop :=
  va_P D vwCl (wsW cA bs M N P nx) H
abbrev aA (bs : Nat) : Nat → Prop := fun q => bs ≤ q
theorem kind_lt {a t n : Nat} (h : kindOf a = (t, n)) (ht : t ≠ 9) : a < 44 := by
  rcases Nat.lt_or_ge a 44 with q | q
  · exact q
  · have : kindOf a = (9, 0) := by
      unfold kindOf
      rw [List.getD_eq_getElem?_getD, List.getElem?_eq_none (by simpa [kinds] using q)]
      rfl
    rw [this] at h
    exact absurd (congrArg Prod.fst h).symm ht
theorem kind_lt' {a t : Nat} (h : (kindOf a).1 = t) (ht : t ≠ 9) : a < 44 := kind_lt (n := (kindOf a).2) (by rw [← h]) ht
theorem kind_sz : ∀ a, a < 44 → (kindOf a).2 ≤ 1068 := by decide +kernel
theorem kind_cl : ∀ a, a < 44 → (kindOf a).1 = 0 → (kindOf a).2 < 8 := by decide +kernel
theorem nF_eq {ci : Nat} {q : vw_C} (h : vwCl[ci]? = some q) : nF ci = q.2.2 := by unfold nF; rw [h]
theorem wsW_get {cA : Nat → ClassId} {bs : Nat} {M : aM} {N : aN} {P : aP} {nx k : Nat} (h : k < nx) (h4 : k < 44) : (wsW cA bs M N P nx)[k]? = some (bs + k, ceW cA bs M N P k) := by
  unfold wsW
  rw [List.getElem?_map, List.getElem?_range (by omega)]
  rfl
theorem wsW_set {cA : Nat → ClassId} {bs : Nat} {M M' : aM} {N N' : aN} {P P' : aP} {nx k : Nat} {e : va_E} (he : e = ceW cA bs M' N' P' k) (h : ∀ i, i ≠ k → ceW cA bs M' N' P' i = ceW cA bs M N P i) : (wsW cA bs M N P nx).set k (bs + k, e) = wsW cA bs M' N' P' nx := by
  apply List.ext_getElem?
  intro i
  rw [List.getElem?_set]
  unfold wsW
  by_cases hi : i < min nx 44
  · rw [List.getElem?_map, List.getElem?_map, List.getElem?_range hi, List.length_map, List.length_range]
    by_cases hk : k = i
    · subst hk
      rw [if_pos rfl, if_pos hi, he]
      rfl
    · rw [if_neg hk]
      show some (bs + i, ceW cA bs M N P i) = some (bs + i, ceW cA bs M' N' P' i)
      rw [h i (fun q => hk q.symm)]
  · rw [List.getElem?_map, List.getElem?_map, List.getElem?_eq_none (by simpa using hi), List.length_map, List.length_range]
    by_cases hk : k = i
    · subst hk
      rw [if_pos rfl, if_neg hi]
      rfl
    · rw [if_neg hk]
      rfl
theorem wsW_D {cA : Nat → ClassId} {bs : Nat} {M : aM} {N : aN} {P : aP} {nx : Nat} : va_D (aA bs) (wsW cA bs M N P nx) := by
  have key : ∀ (i : Nat) (p : Nat × va_E), (wsW cA bs M N P nx)[i]? = some p → p.1 = bs + i := by
    intro i p h
    unfold wsW at h
    rw [List.getElem?_map] at h
    cases hi : (List.range (min nx 44))[i]? with
    | none => rw [hi] at h; cases h
    | some q =>
      rw [hi] at h
      have hq : q = i := by
        have := List.getElem?_eq_some_iff.mp hi
        obtain ⟨a, b⟩ := this
        rw [List.getElem_range] at b
        exact b.symm
      cases h
      show bs + q = bs + i
      rw [hq]
  refine ⟨fun i j p q hp hq e => ?_, fun k q h => ?_⟩
  · have := key i p hp
    have := key j q hq
    omega
  · rw [key k q h]
    exact Nat.le_add_right _ _
theorem wsW_push {cA : Nat → ClassId} {bs : Nat} {M M' : aM} {N N' : aN} {P P' : aP} {nx : Nat} {e : va_E} (hn : nx < 44) (he : e = ceW cA bs M' N' P' nx) (h : ∀ i, i < nx → ceW cA bs M' N' P' i = ceW cA bs M N P i) : wsW cA bs M N P nx ++ [(bs + nx, e)] = wsW cA bs M' N' P' (nx + 1) := by
  unfold wsW
  rw [Nat.min_eq_left (by omega), Nat.min_eq_left (by omega), List.range_succ, List.map_append, List.map_singleton, he]
  congr 1
  apply List.map_congr_left
  intro i hi
  rw [h i (List.mem_range.mp hi)]
theorem ceW_obj {cA : Nat → ClassId} {bs : Nat} {M : aM} {N : aN} {P : aP} {k ci : Nat} (h : kindOf k = (0, ci)) : ceW cA bs M N P k = .inr (ci, fsW bs ci M N P k) := by
  unfold ceW
  rw [if_pos (by rw [h]), h]
theorem ceW_row {cA : Nat → ClassId} {bs : Nat} {M : aM} {N : aN} {P : aP} {k t : Nat} (h : (kindOf k).1 = t) (h0 : t ≠ 0) (h4 : t ≠ 4) : ceW cA bs M N P k = .inl (cA t, (kindOf k).2, .inl (M k)) := by
  unfold ceW
  rw [if_neg (by rw [h]; exact h0), if_neg (by rw [h]; exact h4), h]
theorem ceW_long {cA : Nat → ClassId} {bs : Nat} {M : aM} {N : aN} {P : aP} {k : Nat} (h : (kindOf k).1 = 4) : ceW cA bs M N P k = .inl (cA 4, (kindOf k).2, .inr (.inl (N k))) := by
  unfold ceW
  rw [if_neg (by rw [h]; decide), if_pos h]
theorem fsW_get {bs ci : Nat} {M : aM} {N : aN} {P : aP} {k j : Nat} (h : j < nF ci) : (fsW bs ci M N P k)[j]? = some (fvW bs (cTy ci j) M N P k j) := by
  unfold fsW
  rw [List.getElem?_map, List.getElem?_range h]
  rfl
theorem fsW_len {bs ci : Nat} {M : aM} {N : aN} {P : aP} {k : Nat} : (fsW bs ci M N P k).length = nF ci := by
  unfold fsW
  rw [List.length_map, List.length_range]
theorem fsW_set {bs ci : Nat} {M M' : aM} {N N' : aN} {P P' : aP} {k j : Nat} {v : Value} (hv : v = fvW bs (cTy ci j) M' N' P' k j) (h : ∀ i, i ≠ j → fvW bs (cTy ci i) M' N' P' k i = fvW bs (cTy ci i) M N P k i) : (fsW bs ci M N P k).set j v = fsW bs ci M' N' P' k := by
  apply List.ext_getElem?
  intro i
  rw [List.getElem?_set, fsW_len]
  by_cases hi : i < nF ci
  · rw [fsW_get hi, fsW_get hi]
    by_cases hk : j = i
    · subst hk
      rw [if_pos rfl, if_pos hi, hv]
    · rw [if_neg hk, h i (fun q => hk q.symm)]
  · rw [List.getElem?_eq_none (by rw [fsW_len]; omega), List.getElem?_eq_none (l := fsW bs ci M' N' P' k) (by rw [fsW_len]; omega)]
    by_cases hk : j = i
    · subst hk
      rw [if_pos rfl, if_neg hi]
    · rw [if_neg hk]
/-- cells that a function leaves alone -/
theorem ceW_eq {cA : Nat → ClassId} {bs : Nat} {M M' : aM} {N N' : aN} {P P' : aP} {k : Nat} (hM : M' k = M k) (hN : N' k = N k) (hP : P' k = P k) : ceW cA bs M' N' P' k = ceW cA bs M N P k := by
  unfold ceW fsW fvW
  rw [hM, hN, hP]
theorem up_ne {α : Type} {f : Nat → α} {k j : Nat} {v : α} (h : j ≠ k) : va_up f k v j = f j := if_neg h
theorem up_eq {α : Type} {f : Nat → α} {k : Nat} {v : α} : va_up f k v k = v := if_pos rfl
theorem uM_ne {M : aM} {a k b : Nat} {v : Int32} (h : b ≠ a) : uM M a k v b = M b := up_ne h
theorem uN_ne {M : aN} {a k b : Nat} {v : Int64} (h : b ≠ a) : uN M a k v b = M b := up_ne h
theorem uP_ne {M : aP} {a k b : Nat} {v : Option Nat} (h : b ≠ a) : uP M a k v b = M b := up_ne h
theorem uM_eq {M : aM} {a k : Nat} {v : Int32} : uM M a k v a = va_up (M a) k v := up_eq
theorem uN_eq {M : aN} {a k : Nat} {v : Int64} : uN M a k v a = va_up (M a) k v := up_eq
theorem uP_eq {M : aP} {a k : Nat} {v : Option Nat} : uP M a k v a = va_up (M a) k v := up_eq
theorem lget_mem : ∀ {l : aL} {i : Nat} {v : Value}, lget l i = some v → (i, v) ∈ l
  | [], _, _, h => by cases h
  | q :: t, i, v, h => by
    unfold lget at h
    cases hq : q.1 == i with
    | true =>
      rw [hq] at h
      have e : q = (i, v) := by cases q; simp at hq h; rw [hq, h]
      rw [e]; exact List.mem_cons_self
    | false =>
      rw [hq] at h
      exact List.mem_cons_of_mem _ (lget_mem h)
theorem lh_get {E : aE} {ls : Array Slot} {n : Nat} {lv : aL} (h : lv_has ls n (rl E lv)) {i : Nat} {v : Value} (hg : lget lv i = some v) : ls[i]? = some (.val (rv E v)) :=
  h.2.2 (i, rv E v) (List.mem_map.mpr ⟨(i, v), lget_mem hg, rfl⟩)
theorem lh_nrm {E : aE} {ls : Array Slot} {n j pc : Nat} {lv : aL} (h : lv_has ls n (rl E lv)) : lv_has ls n (rl E (nrm j pc lv)) := by
  unfold nrm
  split
  · exact h
  · refine ⟨h.1, h.2.1, fun q hq => ?_⟩
    obtain ⟨p, hp, rfl⟩ := List.mem_map.mp hq
    obtain ⟨k, -, hk⟩ := List.mem_filterMap.mp hp
    cases hg : lget lv k with
    | none => rw [hg] at hk; cases hk
    | some v =>
      rw [hg] at hk
      cases hk
      exact lh_get h hg
theorem rl_lst1 {E : aE} {lv : aL} {i : Nat} {v : Value} : (i, rv E v) :: (rl E lv).filter (fun q => !(q.1 == i) && !(q.1 + 1 == i && q.2.category == 2)) = rl E (lst1 lv i v) := by
  unfold rl lst1
  rw [List.map_cons, List.filter_map]
  congr 2
  apply List.filter_congr
  intro q _
  show (!(q.1 == i) && !(q.1 + 1 == i && (rv E q.2).category == 2)) = _
  rw [rv_cat]
theorem rl_lst2 {E : aE} {lv : aL} {i : Nat} {v : Value} : (i, rv E v) :: (rl E lv).filter (fun q => !(q.1 == i) && (!(q.1 == i + 1) && !(q.1 + 1 == i && q.2.category == 2))) = rl E (lst2 lv i v) := by
  unfold rl lst2
  rw [List.map_cons, List.filter_map]
  congr 2
  apply List.filter_congr
  intro q _
  show (!(q.1 == i) && (!(q.1 == i + 1) && !(q.1 + 1 == i && (rv E q.2).category == 2))) = _
  rw [rv_cat]
theorem rv_args {E : aE} : ∀ (as : List Value) (k : Nat), lv_args k (as.map (rv E)) = rl E (lv_args k as)
  | [], _ => rfl
  | v :: t, k => by
    have := rv_args (E := E) t
    simp only [List.map_cons, lv_args, rl, rv_cat] at this ⊢
    rw [this]
theorem catS_eq {E : aE} : ∀ (st : List Value), ((st.map (rv E)).map fun v => v.category).sum = catS st
  | [] => rfl
  | v :: t => by
    simp only [List.map_cons, List.sum_cons, catS, rv_cat]
    rw [catS_eq t]
