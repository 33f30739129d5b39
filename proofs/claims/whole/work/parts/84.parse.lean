/-! LINES: the mathematics -/
def kwV (j : Nat) : Nat := if j = 0 then 394692 else if j = 1 then 10079909 else if j = 2 then 197748 else if j = 3 then 136356 else if j = 4 then 611717 else if j = 5 then 12343 else if j = 6 then 24395141 else 9910450
def kwI (v : Nat) : Nat := if v = 394692 then 0 else if v = 10079909 then 1 else if v = 197748 then 2 else if v = 136356 then 3 else if v = 611717 then 4 else if v = 12343 then 5 else if v = 24395141 then 6 else if v = 9910450 then 7 else 8
theorem kwI_le (v : Nat) : kwI v ≤ 8 := by
  unfold kwI
  repeat' split
  all_goals decide
theorem kwI_j : ∀ j, j < 8 → kwI (kwV j) = j := by decide
theorem kwV_lt : ∀ j, j < 8 → kwV j < 2 ^ 30 := by decide
theorem kwI_V {v j : Nat} (hj : j < 8) : kwI v = j ↔ v = kwV j := by
  constructor
  · intro h
    unfold kwI at h
    rcases (show j = 0 ∨ j = 1 ∨ j = 2 ∨ j = 3 ∨ j = 4 ∨ j = 5 ∨ j = 6 ∨ j = 7 by omega) with rfl | rfl | rfl | rfl | rfl | rfl | rfl | rfl
    all_goals
      unfold kwV
      repeat' split at h
      all_goals first | omega | (rename_i z; simpa using z) | skip
    all_goals simp_all
  · intro h; rw [h]; exact kwI_j j hj
/-- counts, row, deeds, names, answers told -/
abbrev PSt := (Nat → Nat) × (Nat → Nat) × (Nat → Nat) × List (Nat × Nat × Nat) × (Nat → Bool)
abbrev ER := Except Nat (PSt × Nat)
section PAR
variable (B : Nat → Nat) (n : Nat)
def isN (p : Nat) : Bool := tK B n p == 1 && kwI (tV B n p) == 8
def kwT (p : Nat) : Nat := if tK B n p = 1 then kwI (tV B n p) else 8
def lkA (E : List (Nat × Nat × Nat)) (w : Nat) : Bool := E.any (fun x => x.1 == w)
def lkF (E : List (Nat × Nat × Nat)) (k w : Nat) : Option Nat := (E.find? (fun x => x.1 == w && x.2.1 == k)).map (fun x => x.2.2)
def finM (S : PSt) (q : Nat) : ER := if tK B n q = 3 then .ok (S, tE B n q) else .error (8 * tP B n q + 1)
def nameM (E : List (Nat × Nat × Nat)) (q : Nat) (f : Nat → Nat → ER) : ER := if isN B n q = true then (if lkA E (tV B n q) = true then .error (8 * tP B n q + 2) else f (tV B n q) (tE B n q)) else .error (8 * tP B n q + 1)
def numM (hi q : Nat) (f : Nat → Nat → ER) : ER := if tK B n q = 2 then (if tV B n q ≤ hi then f (tV B n q) (tE B n q) else .error (8 * tP B n q + 4)) else .error (8 * tP B n q + 1)
def refM (E : List (Nat × Nat × Nat)) (k q : Nat) (f : Nat → Nat → ER) : ER := if isN B n q = true then (match lkF E k (tV B n q) with | none => .error (8 * tP B n q + 3) | some i => f i (tE B n q)) else .error (8 * tP B n q + 1)
def addN (S : PSt) (k w : Nat) (row nd : Nat → Nat) : PSt := (va_up S.1 k (S.1 k + 1), row, nd, S.2.2.2.1 ++ [(w, k, S.1 k)], S.2.2.2.2)
def landM (S : PSt) (q : Nat) : ER := nameM B n S.2.2.2.1 q fun w q1 => numM B n 4 q1 fun v q2 => finM B n (addN S 0 w (va_up S.2.1 (S.1 0) v) S.2.2.1) q2
def issueM (S : PSt) (q : Nat) : ER := nameM B n S.2.2.2.1 q fun w q1 => finM B n (addN S 1 w S.2.1 S.2.2.1) q1
def factM (S : PSt) (q : Nat) : ER := nameM B n S.2.2.2.1 q fun w q1 => refM B n S.2.2.2.1 0 q1 fun l q2 => finM B n (addN S 2 w (va_up S.2.1 (6 + S.1 2) l) S.2.2.1) q2
def deedL (S : PSt) (w : Nat) : Nat → Nat → Nat → ER
  | 0, _, _ => .error 0
  | m + 1, b, q => refM B n S.2.2.2.1 1 q fun i q1 => if b / 2 ^ i % 2 = 1 then .error (8 * tP B n q + 2) else if tK B n q1 = 1 then deedL S w m (b ||| 2 ^ i) q1 else finM B n (addN S 3 w S.2.1 (va_up S.2.2.1 (S.1 3) (b ||| 2 ^ i))) q1
def deedM (S : PSt) (q : Nat) : ER := nameM B n S.2.2.2.1 q fun w q1 => deedL B n S w 7 0 q1
def ruleM (S : PSt) (q : Nat) : ER := refM B n S.2.2.2.1 0 q fun l q1 => refM B n S.2.2.2.1 1 q1 fun i q2 => if S.2.1 (11 + (6 * l + i)) = 0 then (refM B n S.2.2.2.1 2 q2 fun f q3 => if kwT B n q3 = 6 then finM B n (S.1, va_up S.2.1 (11 + (6 * l + i)) (2 * f + 2), S.2.2) (tE B n q3) else if kwT B n q3 = 7 then finM B n (S.1, va_up S.2.1 (11 + (6 * l + i)) (2 * f + 1), S.2.2) (tE B n q3) else .error (8 * tP B n q3 + 1)) else .error (8 * tP B n q1 + 2)
def lawM (S : PSt) (q : Nat) : ER := refM B n S.2.2.2.1 0 q fun l q1 => refM B n S.2.2.2.1 1 q1 fun i q2 => if S.2.2.2.2 (6 * l + i) = true then .error (8 * tP B n q1 + 2) else numM B n 99 q2 fun v q3 => finM B n (S.1, va_up S.2.1 (47 + (6 * l + i)) v, S.2.2.1, S.2.2.2.1, va_up S.2.2.2.2 (6 * l + i) true) q3
def mxC (k : Nat) : Nat := if k < 2 then 6 else 5
def lineM (S : PSt) (p : Nat) : ER :=
  if 5 < kwT B n p then .error (8 * tP B n p + 1)
  else if kwT B n p < 4 ∧ mxC (kwT B n p) ≤ S.1 (kwT B n p) then .error (8 * tP B n p + 5)
  else if kwT B n p = 0 then landM B n S (tE B n p)
  else if kwT B n p = 1 then issueM B n S (tE B n p)
  else if kwT B n p = 2 then factM B n S (tE B n p)
  else if kwT B n p = 3 then deedM B n S (tE B n p)
  else if kwT B n p = 4 then ruleM B n S (tE B n p)
  else lawM B n S (tE B n p)
/-- all lines: what is told and how many, or a fault -/
def prsM : Nat → PSt → Nat → Nat → Except Nat (PSt × Nat)
  | 0, S, _, l => .ok (S, l)
  | m + 1, S, p, l => if tK B n p = 0 then .ok (S, l) else match lineM B n S p with
    | .error c => .error c
    | .ok (S', q) => prsM m S' q (l + 1)
def S0 : PSt := (fun _ => 0, row0, fun _ => 0, [], fun _ => false)
end PAR
/-- names in order -/
def EW (E : List (Nat × Nat × Nat)) (c : Nat → Nat) : Prop := (∀ x ∈ E, x.1 < 2 ^ 30 ∧ x.2.1 < 4 ∧ x.2.2 < c x.2.1) ∧ (∀ k, k < 4 → ∀ i, i < c k → ∃ w, (w, k, i) ∈ E) ∧ (E.map (fun x => x.1)).Nodup ∧ E.length = c 0 + c 1 + c 2 + c 3
theorem nd_in : ∀ {E : List (Nat × Nat × Nat)}, (E.map (fun x => x.1)).Nodup → ∀ x ∈ E, ∀ y ∈ E, x.1 = y.1 → x = y
  | [], _, x, hx, _, _, _ => by cases hx
  | a :: E, h, x, hx, y, hy, he => by
    rw [List.map_cons, List.nodup_cons] at h
    rcases List.mem_cons.mp hx with h1 | h1
    · rcases List.mem_cons.mp hy with h2 | h2
      · rw [h1, h2]
      · exfalso
        refine h.1 ?_
        rw [← h1, he]
        exact List.mem_map.mpr ⟨y, h2, rfl⟩
    · rcases List.mem_cons.mp hy with h2 | h2
      · exfalso
        refine h.1 ?_
        rw [← h2, ← he]
        exact List.mem_map.mpr ⟨x, h1, rfl⟩
      · exact nd_in h.2 x h1 y h2 he
theorem lkF_in {E : List (Nat × Nat × Nat)} (h : (E.map (fun x => x.1)).Nodup) {k w i : Nat} (hi : (w, k, i) ∈ E) : lkF E k w = some i := by
  unfold lkF
  cases hf : E.find? (fun x => x.1 == w && x.2.1 == k) with
  | none =>
    exfalso
    have := List.find?_eq_none.mp hf _ hi
    simp at this
  | some y =>
    have h1 := List.find?_some hf
    have h2 := List.mem_of_find?_eq_some hf
    have h3 : y.1 = w ∧ y.2.1 = k := by simpa using h1
    have h4 := nd_in h y h2 _ hi h3.1
    rw [h4]
    rfl
theorem lkF_no {E : List (Nat × Nat × Nat)} {k w : Nat} (h : ∀ i, ¬ (w, k, i) ∈ E) : lkF E k w = none := by
  unfold lkF
  cases hf : E.find? (fun x => x.1 == w && x.2.1 == k) with
  | none => rfl
  | some y =>
    exfalso
    have h1 := List.find?_some hf
    have h2 := List.mem_of_find?_eq_some hf
    have h3 : y.1 = w ∧ y.2.1 = k := by simpa using h1
    refine h y.2.2 ?_
    rw [← h3.1, ← h3.2]
    exact h2
theorem lkA_t {E : List (Nat × Nat × Nat)} {w : Nat} : lkA E w = true ↔ ∃ x ∈ E, x.1 = w := by
  unfold lkA
  rw [List.any_eq_true]
  simp
theorem EW.add {E : List (Nat × Nat × Nat)} {c : Nat → Nat} (h : EW E c) {k w : Nat} (hk : k < 4) (hw : w < 2 ^ 30) (hn : ¬ lkA E w = true) : EW (E ++ [(w, k, c k)]) (va_up c k (c k + 1)) := by
  obtain ⟨h1, h2, h3, h4⟩ := h
  refine ⟨fun x hx => ?_, fun k' hk' i hi => ?_, ?_, ?_⟩
  · rcases List.mem_append.mp hx with z | z
    · have g := h1 x z
      refine ⟨g.1, g.2.1, ?_⟩
      by_cases q : x.2.1 = k
      · rw [q, up_eq]; have := g.2.2; rw [q] at this; omega
      · rw [up_ne q]; exact g.2.2
    · rw [List.mem_singleton.mp z]
      refine ⟨hw, hk, ?_⟩
      show c k < va_up c k (c k + 1) k
      rw [up_eq]; omega
  · by_cases q : k' = k
    · subst q
      rw [up_eq] at hi
      by_cases y : i = c k'
      · exact ⟨w, List.mem_append.mpr (Or.inr (by rw [y]; exact List.mem_singleton.mpr rfl))⟩
      · obtain ⟨w', hw'⟩ := h2 k' hk' i (by omega)
        exact ⟨w', List.mem_append.mpr (Or.inl hw')⟩
    · rw [up_ne q] at hi
      obtain ⟨w', hw'⟩ := h2 k' hk' i hi
      exact ⟨w', List.mem_append.mpr (Or.inl hw')⟩
  · rw [List.map_append, List.nodup_append]
    refine ⟨h3, by simp, fun a ha b hb q => ?_⟩
    have hb2 : b = w := by simpa using hb
    obtain ⟨x, hx, hx2⟩ := List.mem_map.mp ha
    exact hn (lkA_t.mpr ⟨x, hx, by rw [hx2, q, hb2]⟩)
  · rw [List.length_append, List.length_singleton, h4]
    rcases (show k = 0 ∨ k = 1 ∨ k = 2 ∨ k = 3 by omega) with rfl | rfl | rfl | rfl
    · rw [up_eq, up_ne (by decide), up_ne (by decide), up_ne (by decide)]; omega
    · rw [up_eq, up_ne (by decide), up_ne (by decide), up_ne (by decide)]; omega
    · rw [up_eq, up_ne (by decide), up_ne (by decide), up_ne (by decide)]; omega
    · rw [up_eq, up_ne (by decide), up_ne (by decide), up_ne (by decide)]; omega
/-- what has been read stands in order -/
def PW (S : PSt) : Prop := wfC (S.1 0) (S.1 1) (S.1 2) (S.1 3) ∧ wfR (S.1 0) (S.1 1) (S.1 2) S.2.1 ∧ (∀ i, i < 6 → S.2.1 (83 + i) = i) ∧ (∀ k, k < S.1 3 → S.2.2.1 k < 64) ∧ EW S.2.2.2.1 S.1 ∧ ∀ j, 36 ≤ j → S.2.2.2.2 j = false
