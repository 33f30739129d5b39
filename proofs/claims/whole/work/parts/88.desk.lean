/-! DESK: what lines leave in order; read; desk -/
/-- a line's outcome is in order -/
def GD (n lo : Nat) (r : ER) : Prop := match r with
  | .error c => c ≤ 8 * n + 5
  | .ok (S, q) => PW S ∧ lo < q ∧ q ≤ n
section GDM
variable {B : Nat → Nat} {n lo : Nat} {S : PSt}
theorem GD_er {p k : Nat} (hp : p ≤ n) (hk : k ≤ 5) : GD n lo (.error (8 * tP B n p + k)) := by
  have := tP_ge (B := B) hp
  show 8 * tP B n p + k ≤ 8 * n + 5
  omega
theorem GD_fin {q : Nat} (hS : PW S) (hq : q ≤ n) (hl : lo ≤ q) : GD n lo (finM B n S q) := by
  unfold finM
  have h1 := tP_ge (B := B) hq
  have h2 := tE_ge (B := B) hq
  by_cases z : tK B n q = 3
  · rw [if_pos z]
    have h3 : ¬ tP B n q = n := fun y => by
      have := (tK_0 hq).mpr y
      omega
    refine ⟨hS, ?_, h2.2.1⟩
    have := h2.2.2 (by omega)
    omega
  · rw [if_neg z]; exact GD_er hq (by decide)
theorem GD_name {E : List (Nat × Nat × Nat)} {q : Nat} {f : Nat → Nat → ER} (hq : q ≤ n) (hl : lo ≤ q) (h : tV B n q < 2 ^ 30 → ¬ lkA E (tV B n q) = true → tE B n q ≤ n → lo ≤ tE B n q → GD n lo (f (tV B n q) (tE B n q))) : GD n lo (nameM B n E q f) := by
  have h1 := tP_ge (B := B) hq
  have h2 := tE_ge (B := B) hq
  unfold nameM
  by_cases z : isN B n q = true
  · rw [if_pos z]
    by_cases w : lkA E (tV B n q) = true
    · rw [if_pos w]; exact GD_er hq (by decide)
    · rw [if_neg w]; exact h (tV_w (isN_k.mp z).1) w h2.2.1 (by omega)
  · rw [if_neg z]; exact GD_er hq (by decide)
theorem GD_num {hi q : Nat} {f : Nat → Nat → ER} (hq : q ≤ n) (hl : lo ≤ q) (h : tV B n q ≤ hi → tE B n q ≤ n → lo ≤ tE B n q → GD n lo (f (tV B n q) (tE B n q))) : GD n lo (numM B n hi q f) := by
  have h1 := tP_ge (B := B) hq
  have h2 := tE_ge (B := B) hq
  unfold numM
  by_cases z : tK B n q = 2
  · rw [if_pos z]
    by_cases w : tV B n q ≤ hi
    · rw [if_pos w]; exact h w h2.2.1 (by omega)
    · rw [if_neg w]; exact GD_er hq (by decide)
  · rw [if_neg z]; exact GD_er hq (by decide)
theorem lkF_so {E : List (Nat × Nat × Nat)} {k w i : Nat} (h : lkF E k w = some i) : (w, k, i) ∈ E := by
  unfold lkF at h
  cases hf : E.find? (fun x => x.1 == w && x.2.1 == k) with
  | none => rw [hf] at h; cases h
  | some y =>
    rw [hf] at h
    have h0 : y.2.2 = i := by simpa using h
    have h1 := List.find?_some hf
    have h2 := List.mem_of_find?_eq_some hf
    have h3 : y.1 = w ∧ y.2.1 = k := by simpa using h1
    rw [← h0, ← h3.1, ← h3.2]
    exact h2
theorem GD_ref {E : List (Nat × Nat × Nat)} {k q : Nat} {f : Nat → Nat → ER} (hq : q ≤ n) (hl : lo ≤ q) (h : ∀ i, (tV B n q, k, i) ∈ E → tE B n q ≤ n → lo ≤ tE B n q → GD n lo (f i (tE B n q))) : GD n lo (refM B n E k q f) := by
  have h1 := tP_ge (B := B) hq
  have h2 := tE_ge (B := B) hq
  unfold refM
  by_cases z : isN B n q = true
  · rw [if_pos z]
    cases hf : lkF E k (tV B n q) with
    | none => exact GD_er hq (by decide)
    | some i => exact h i (lkF_so hf) h2.2.1 (by omega)
  · rw [if_neg z]; exact GD_er hq (by decide)
theorem PW.hd {row : Nat → Nat} {k v : Nat} (h : ∀ i, i < 6 → row (83 + i) = i) (hk : k < 83) : ∀ i, i < 6 → va_up row k v (83 + i) = i := fun i hi => by rw [up_ne (by omega)]; exact h i hi
theorem PW_land (h : PW S) (hl : S.1 0 < 6) {w v : Nat} (hw : w < 2 ^ 30) (hA : ¬ lkA S.2.2.2.1 w = true) (hv : v ≤ 4) : PW (addN S 0 w (va_up S.2.1 (S.1 0) v) S.2.2.1) := by
  obtain ⟨h1, h2, h3, h4, h5, h6⟩ := h
  have c6 := h1
  unfold wfC at c6
  refine ⟨?_, ?_, PW.hd h3 (by omega), ?_, h5.add (by decide) hw hA, h6⟩
  · show wfC (va_up S.1 0 (S.1 0 + 1) 0) (va_up S.1 0 (S.1 0 + 1) 1) (va_up S.1 0 (S.1 0 + 1) 2) (va_up S.1 0 (S.1 0 + 1) 3)
    rw [up_eq, c0u (by decide), c0u (by decide), c0u (by decide)]
    unfold wfC
    omega
  · show wfR (va_up S.1 0 (S.1 0 + 1) 0) (va_up S.1 0 (S.1 0 + 1) 1) (va_up S.1 0 (S.1 0 + 1) 2) _
    rw [up_eq, c0u (by decide), c0u (by decide)]
    have g := h2.th (l := S.1 0) (y := v) hl hv c6.2.2.1
    exact ⟨g.1, fun f hf => by show va_up S.2.1 (S.1 0) v (6 + f) < _; have := g.2.1 f hf; omega, g.2.2.1, g.2.2.2.1, g.2.2.2.2⟩
  · show ∀ k, k < va_up S.1 0 (S.1 0 + 1) 3 → S.2.2.1 k < 64
    rw [c0u (by decide)]
    exact h4
theorem PW_issue (h : PW S) (hl : S.1 1 < 6) {w : Nat} (hw : w < 2 ^ 30) (hA : ¬ lkA S.2.2.2.1 w = true) : PW (addN S 1 w S.2.1 S.2.2.1) := by
  obtain ⟨h1, h2, h3, h4, h5, h6⟩ := h
  have c6 := h1
  unfold wfC at c6
  refine ⟨?_, ?_, h3, ?_, h5.add (by decide) hw hA, h6⟩
  · show wfC (va_up S.1 1 (S.1 1 + 1) 0) (va_up S.1 1 (S.1 1 + 1) 1) (va_up S.1 1 (S.1 1 + 1) 2) (va_up S.1 1 (S.1 1 + 1) 3)
    rw [up_eq, c0u (by decide), c0u (by decide), c0u (by decide)]
    unfold wfC
    omega
  · show wfR (va_up S.1 1 (S.1 1 + 1) 0) (va_up S.1 1 (S.1 1 + 1) 1) (va_up S.1 1 (S.1 1 + 1) 2) _
    rw [up_eq, c0u (by decide), c0u (by decide)]
    exact ⟨h2.1, h2.2.1, h2.2.2.1, h2.2.2.2.1, fun i hi => by show S.2.1 (83 + i) < _; rw [h3 i (by omega)]; exact hi⟩
  · show ∀ k, k < va_up S.1 1 (S.1 1 + 1) 3 → S.2.2.1 k < 64
    rw [c0u (by decide)]
    exact h4
theorem PW_fact (h : PW S) (hl : S.1 2 < 5) {w l : Nat} (hw : w < 2 ^ 30) (hA : ¬ lkA S.2.2.2.1 w = true) (hv : l < S.1 0) : PW (addN S 2 w (va_up S.2.1 (6 + S.1 2) l) S.2.2.1) := by
  obtain ⟨h1, h2, h3, h4, h5, h6⟩ := h
  have c6 := h1
  unfold wfC at c6
  refine ⟨?_, ?_, PW.hd h3 (by omega), ?_, h5.add (by decide) hw hA, h6⟩
  · show wfC (va_up S.1 2 (S.1 2 + 1) 0) (va_up S.1 2 (S.1 2 + 1) 1) (va_up S.1 2 (S.1 2 + 1) 2) (va_up S.1 2 (S.1 2 + 1) 3)
    rw [up_eq, c0u (by decide), c0u (by decide), c0u (by decide)]
    unfold wfC
    omega
  · show wfR (va_up S.1 2 (S.1 2 + 1) 0) (va_up S.1 2 (S.1 2 + 1) 1) (va_up S.1 2 (S.1 2 + 1) 2) _
    rw [up_eq, c0u (by decide), c0u (by decide)]
    obtain ⟨g1, g2, g3, g4, g5⟩ := h2
    refine ⟨fun k hk => ?_, fun f hf => ?_, fun k a b => ?_, fun k a b => ?_, fun i hi => ?_⟩
    · show va_up S.2.1 (6 + S.1 2) l k ≤ 4
      rw [up_ne (by omega)]; exact g1 k hk
    · show va_up S.2.1 (6 + S.1 2) l (6 + f) < _
      by_cases q : f = S.1 2
      · rw [q, up_eq]; exact hv
      · rw [up_ne (by omega)]; exact g2 f (by omega)
    · show va_up S.2.1 (6 + S.1 2) l k ≤ _
      rw [up_ne (by omega)]; have := g3 k a b; omega
    · show va_up S.2.1 (6 + S.1 2) l k ≤ _
      rw [up_ne (by omega)]; exact g4 k a b
    · show va_up S.2.1 (6 + S.1 2) l (83 + i) < _
      rw [up_ne (by omega)]; exact g5 i hi
  · show ∀ k, k < va_up S.1 2 (S.1 2 + 1) 3 → S.2.2.1 k < 64
    rw [c0u (by decide)]
    exact h4
theorem PW_deed (h : PW S) (hl : S.1 3 < 5) {w b : Nat} (hw : w < 2 ^ 30) (hA : ¬ lkA S.2.2.2.1 w = true) (hv : b < 64) : PW (addN S 3 w S.2.1 (va_up S.2.2.1 (S.1 3) b)) := by
  obtain ⟨h1, h2, h3, h4, h5, h6⟩ := h
  have c6 := h1
  unfold wfC at c6
  refine ⟨?_, ?_, h3, ?_, h5.add (by decide) hw hA, h6⟩
  · show wfC (va_up S.1 3 (S.1 3 + 1) 0) (va_up S.1 3 (S.1 3 + 1) 1) (va_up S.1 3 (S.1 3 + 1) 2) (va_up S.1 3 (S.1 3 + 1) 3)
    rw [up_eq, c0u (by decide), c0u (by decide), c0u (by decide)]
    unfold wfC
    omega
  · show wfR (va_up S.1 3 (S.1 3 + 1) 0) (va_up S.1 3 (S.1 3 + 1) 1) (va_up S.1 3 (S.1 3 + 1) 2) _
    rw [c0u (by decide), c0u (by decide), c0u (by decide)]
    exact h2
  · show ∀ k, k < va_up S.1 3 (S.1 3 + 1) 3 → va_up S.2.2.1 (S.1 3) b k < 64
    rw [up_eq]
    intro k hk
    by_cases q : k = S.1 3
    · rw [q, up_eq]; exact hv
    · rw [up_ne q]; exact h4 k (by omega)
theorem PW_row (h : PW S) {row : Nat → Nat} {ls : Nat → Bool} (h2 : wfR (S.1 0) (S.1 1) (S.1 2) row) (h3 : ∀ i, i < 6 → row (83 + i) = i) (h6 : ∀ j, 36 ≤ j → ls j = false) : PW (S.1, row, S.2.2.1, S.2.2.2.1, ls) := ⟨h.1, h2, h3, h.2.2.2.1, h.2.2.2.2.1, h6⟩
theorem GD_deed (h : PW S) (hl : S.1 3 < 5) {w : Nat} (hw : w < 2 ^ 30) (hA : ¬ lkA S.2.2.2.1 w = true) : ∀ m b q, b < 64 → q ≤ n → lo ≤ q → GD n lo (deedL B n S w m b q)
  | 0, b, q, _, _, _ => Nat.zero_le _
  | m + 1, b, q, hb, hq, hlo => by
    have c6 := h.1
    unfold wfC at c6
    unfold deedL
    refine GD_ref hq hlo (fun i hi hq1 hl1 => ?_)
    have hi6 : i < S.1 1 := (h.2.2.2.2.1.1 _ hi).2.2
    have hb2 := or64_lt i (by omega) b hb
    by_cases z : b / 2 ^ i % 2 = 1
    · rw [if_pos z]; exact GD_er hq (by decide)
    · rw [if_neg z]
      by_cases y : tK B n (tE B n q) = 1
      · rw [if_pos y]; exact GD_deed h hl hw hA m _ _ hb2 hq1 hl1
      · rw [if_neg y]; exact GD_fin (PW_deed h hl hw hA hb2) hq1 hl1
theorem GD_line (h : PW S) {p : Nat} (hp : p ≤ n) : GD n (tP B n p) (lineM B n S p) := by
  have c6 := h.1
  unfold wfC at c6
  have h1 := tP_ge (B := B) hp
  have h2 := tE_ge (B := B) hp
  have hEW := h.2.2.2.2.1
  unfold lineM
  by_cases z : 5 < kwT B n p
  · rw [if_pos z]; exact GD_er hp (by decide)
  rw [if_neg z]
  by_cases y : kwT B n p < 4 ∧ mxC (kwT B n p) ≤ S.1 (kwT B n p)
  · rw [if_pos y]; exact GD_er hp (by decide)
  rw [if_neg y]
  have mx : ∀ k, kwT B n p = k → k < 4 → S.1 k < mxC k := fun k hk h4 => by
    by_cases w : S.1 k < mxC k
    · exact w
    · exact absurd ⟨by omega, by rw [hk]; omega⟩ y
  have e6 : mxC 0 = 6 ∧ mxC 1 = 6 ∧ mxC 2 = 5 ∧ mxC 3 = 5 := by decide
  by_cases z0 : kwT B n p = 0
  · rw [if_pos z0]
    have hx := mx 0 z0 (by decide)
    unfold landM
    refine GD_name h2.2.1 h2.1 (fun hw hA hq hl => GD_num hq hl (fun hv hq2 hl2 => GD_fin (PW_land h (by omega) hw hA hv) hq2 hl2))
  rw [if_neg z0]
  by_cases z1 : kwT B n p = 1
  · rw [if_pos z1]
    have hx := mx 1 z1 (by decide)
    unfold issueM
    refine GD_name h2.2.1 h2.1 (fun hw hA hq hl => GD_fin (PW_issue h (by omega) hw hA) hq hl)
  rw [if_neg z1]
  by_cases z2 : kwT B n p = 2
  · rw [if_pos z2]
    have hx := mx 2 z2 (by decide)
    unfold factM
    refine GD_name h2.2.1 h2.1 (fun hw hA hq hl => GD_ref hq hl (fun i hi hq2 hl2 => GD_fin (PW_fact h (by omega) hw hA (hEW.1 _ hi).2.2) hq2 hl2))
  rw [if_neg z2]
  by_cases z3 : kwT B n p = 3
  · rw [if_pos z3]
    have hx := mx 3 z3 (by decide)
    unfold deedM
    refine GD_name h2.2.1 h2.1 (fun hw hA hq hl => GD_deed h (by omega) hw hA 7 0 _ (by decide) hq hl)
  rw [if_neg z3]
  by_cases z4 : kwT B n p = 4
  · rw [if_pos z4]
    unfold ruleM
    refine GD_ref h2.2.1 h2.1 (fun l hl hq hlo => GD_ref hq hlo (fun i hi hq1 hlo1 => ?_))
    have hl6 : l < S.1 0 := (hEW.1 _ hl).2.2
    have hi6 : i < S.1 1 := (hEW.1 _ hi).2.2
    by_cases w : S.2.1 (11 + (6 * l + i)) = 0
    · rw [if_pos w]
      refine GD_ref hq1 hlo1 (fun f hf hq2 hlo2 => ?_)
      have hf5 : f < S.1 2 := (hEW.1 _ hf).2.2
      have g2 := tE_ge (B := B) hq2
      have g1 := tP_ge (B := B) hq2
      split
      · exact GD_fin (PW_row h (h.2.1.ru (by omega) (by omega) (by omega) c6.2.2.1) (PW.hd h.2.2.1 (by omega)) h.2.2.2.2.2) g2.2.1 (by omega)
      · split
        · exact GD_fin (PW_row h (h.2.1.ru (by omega) (by omega) (by omega) c6.2.2.1) (PW.hd h.2.2.1 (by omega)) h.2.2.2.2.2) g2.2.1 (by omega)
        · exact GD_er hq2 (by decide)
    · rw [if_neg w]; exact GD_er hq (by decide)
  · rw [if_neg z4]
    unfold lawM
    refine GD_ref h2.2.1 h2.1 (fun l hl hq hlo => GD_ref hq hlo (fun i hi hq1 hlo1 => ?_))
    have hl6 : l < S.1 0 := (hEW.1 _ hl).2.2
    have hi6 : i < S.1 1 := (hEW.1 _ hi).2.2
    by_cases w : S.2.2.2.2 (6 * l + i) = true
    · rw [if_pos w]; exact GD_er hq (by decide)
    · rw [if_neg w]
      refine GD_num hq1 hlo1 (fun hv hq2 hlo2 => GD_fin (PW_row h (h.2.1.la (by omega) (by omega) hv c6.2.2.1) (PW.hd h.2.2.1 (by omega)) (fun j hj => ?_)) hq2 hlo2)
      rw [up_ne (by omega)]; exact h.2.2.2.2.2 j hj
/-- all lines' outcome is in order -/
def GA (n l : Nat) (r : Except Nat (PSt × Nat)) : Prop := match r with
  | .error c => c ≤ 8 * n + 5
  | .ok (S, l') => PW S ∧ l' ≤ n
theorem GA_prs : ∀ m (S : PSt) p l, PW S → p ≤ n → l ≤ p → GA n l (prsM B n m S p l)
  | 0, S, p, l, h, hp, hl => ⟨h, by omega⟩
  | m + 1, S, p, l, h, hp, hl => by
    have h1 := tP_ge (B := B) hp
    unfold prsM
    by_cases z : tK B n p = 0
    · rw [if_pos z]; exact ⟨h, by omega⟩
    · rw [if_neg z]
      have g := GD_line (B := B) h hp
      cases hr : lineM B n S p with
      | error c =>
        rw [hr] at g
        exact g
      | ok x =>
        obtain ⟨S', q⟩ := x
        rw [hr] at g
        obtain ⟨g1, g2, g3⟩ := g
        have := GA_prs m S' q (l + 1) g1 g3 (by omega)
        exact this
end GDM
theorem PW_0 : PW S0 := by
  refine ⟨?_, ⟨?_, ?_, ?_, ?_, ?_⟩, ?_, fun k hk => ?_, ⟨fun x hx => ?_, fun k hk i hi => ?_, ?_, rfl⟩, fun j hj => rfl⟩
  · show wfC 0 0 0 0
    unfold wfC
    omega
  · show ∀ l, l < 6 → row0 l ≤ 4
    decide
  · intro f hf
    exact absurd hf (Nat.not_lt_zero _)
  · show ∀ k, 11 ≤ k → k < 47 → row0 k ≤ 2 * 0
    intro k a b
    unfold row0
    rw [if_neg (by omega)]
    exact Nat.zero_le _
  · show ∀ k, 47 ≤ k → k < 83 → row0 k ≤ 99
    intro k a b
    unfold row0
    rw [if_neg (by omega)]
    exact Nat.zero_le _
  · intro i hi
    exact absurd hi (Nat.not_lt_zero _)
  · show ∀ i, i < 6 → row0 (83 + i) = i
    decide
  · exact absurd hk (Nat.not_lt_zero _)
  · cases hx
  · exact absurd hi (Nat.not_lt_zero _)
  · exact List.nodup_nil
section RED
variable {d : Nat} {M0 M : aM} {N0 N : aN} {P : aP} {t e nx n : Nat} {B : Nat → Nat} {S : PSt} {Q : aQ}
/-- what reading answers -/
def deV (r : Except Nat (PSt × Nat)) : Int32 := match r with
  | .error c => ng2 - nI c
  | .ok (_, l) => nI l
def ODK (M0 : aM) (N0 : aN) (e : Nat) (r : Except Nat (PSt × Nat)) (M : aM) (N : aN) : Prop := match r with
  | .error _ => eqD1 e M0 M ∧ eqN1 N0 N
  | .ok (S, _) => RC M0 N0 e S M N
theorem l15 (hn : 44 ≤ nx) (he : isT e) (hk : KW M0) (hb : BY M0 3 n B) (hn7 : n ≤ 700) {r : Except Nat (PSt × Nat)} (hQ : ∀ M' N', ODK M0 N0 e r M' N' → Q (some (.int (deV r))) M' N' (P0 t e) nx) : ∀ m S p l M N, n < p + m → p ≤ n → l ≤ p → PW S → RC M0 N0 e S M N → TO M B n p → prsM B n m S p l = r → WP (aSem (d + 6)) g0 15 nx (qn nx Q) 39 [(0, .ref 1), (1, .int (nI n)), (2, .int (nI l))] [] M N (P0 t e) nx := by
  intro m
  induction m with
  | zero =>
    intro S p l M N h1 h2
    omega
  | succ m ih =>
    intro S p l M N hm hp hl hS h hT hr
    have h5 := tK_le (B := B) (n := n) (p := p)
    have h1 := tP_ge (B := B) hp
    unfold prsM at hr
    simp only [B15_39, false_imp_iff, true_imp_iff, not_false_eq_true, not_true_eq_false, true_and, and_true, implies_true, qn_self, rI_i, rJ_l, rV_n, okZ0, okZ1, nI_leI (show n < 2 ^ 31 by omega) (show l < 2 ^ 31 by omega)]
    have fin : tK B n p = 0 → WP (aSem (d + 6)) g0 15 nx (qn nx Q) 82 [(2, .int (nI l))] [] M N (P0 t e) nx := by
      intro z
      rw [if_pos z] at hr
      simp only [B15_82, false_imp_iff, true_imp_iff, not_false_eq_true, not_true_eq_false, true_and, and_true, implies_true, qn_self, rI_i, rJ_l, rV_n, okZ0, okZ1]
      have := hQ M N
      rw [← hr] at this
      exact this h
    refine ⟨fun z => ?_, fun z => ?_⟩
    · refine fin ((tK_0 hp).mpr ?_)
      omega
    · simp only [B15_44, false_imp_iff, true_imp_iff, not_false_eq_true, not_true_eq_false, true_and, and_true, implies_true, qn_self, rI_i, rJ_l, rV_n, okZ0, okZ1, o1 hn, o2 hn, exP (show P0 t e 1 0 = some 2 from rfl), hT.2.2.2.1, nI_z (show tK B n p < 2 ^ 31 by omega)]
      refine ⟨fun y => fin y, fun y => ?_⟩
      rw [if_neg y] at hr
      simp only [B15_54, false_imp_iff, true_imp_iff, not_false_eq_true, not_true_eq_false, true_and, and_true, implies_true, qn_self, rI_i, rJ_l, rV_n, okZ0, okZ1, o1 hn]
      refine s16 hn he hk hb h hS hT (fun v M1 N1 ho => ?_)
      have g := GD_line (B := B) hS hp
      cases hx : lineM B n S p with
      | error c =>
        rw [hx] at ho hr g
        obtain ⟨o1', o2'⟩ := ho
        simp only [false_imp_iff, true_imp_iff, not_false_eq_true, not_true_eq_false, true_and, and_true, implies_true, qn_self, rI_i, rJ_l, rV_n, okZ0, okZ1, o1', eq_true nI_0, B15_61, o1 hn, o2'.2.2]
        have := hQ M1 N1
        rw [← hr] at this
        exact this ⟨o2'.1, o2'.2.1⟩
      | ok x =>
        obtain ⟨S', q⟩ := x
        rw [hx] at ho hr g
        obtain ⟨o1', o2', o3'⟩ := ho
        obtain ⟨g1, g2, g3⟩ := g
        simp only [false_imp_iff, true_imp_iff, not_false_eq_true, not_true_eq_false, true_and, and_true, implies_true, qn_self, rI_i, rJ_l, rV_n, okZ0, okZ1, o1', one0, B15_69, o1 hn, o2 hn, exP (show P0 t e 1 0 = some 2 from rfl)]
        refine s49 hn (o2'.by he hb) o3' (fun M2 he2 hT2 => ?_)
        simp only [false_imp_iff, true_imp_iff, not_false_eq_true, not_true_eq_false, true_and, and_true, implies_true, qn_self, rI_i, rJ_l, rV_n, okZ0, okZ1, nI_add]
        exact ih S' q (l + 1) M2 N1 (by omega) g3 (by omega) g1 (o2'.p he he2) hT2 hr
theorem s15 (hn : 44 ≤ nx) (he : isT e) (hk : KW M) (hb : BY M 3 n B) {a : Nat} (ha : M 2 1 = nI a) (ha7 : a ≤ 700) (hna : n ≤ a) (hQ : ∀ M' N', ODK M N e (prsM B n (n + 1) S0 0 0) M' N' → Q (some (.int (deV (prsM B n (n + 1) S0 0 0)))) M' N' (P0 t e) nx) : aSem (d + 7) 15 [.ref 1, .int (nI n)] M N (P0 t e) nx Q := by
  have g8 := he.ge
  simp only [A15, B15_0, false_imp_iff, true_imp_iff, not_false_eq_true, not_true_eq_false, true_and, and_true, implies_true, qn_self, rI_i, rJ_l, rV_n, okZ0, okZ1, o1 hn, oT hn he, exP (show P0 t e 1 8 = some e from rfl)]
  refine s55 hn he (nd := fun _ => 0) (fun M1 he1 hT1 => ?_)
  simp only [false_imp_iff, true_imp_iff, not_false_eq_true, not_true_eq_false, true_and, and_true, implies_true, qn_self, rI_i, rJ_l, rV_n, okZ0, okZ1, o1 hn, o2 hn, exP (show P0 t e 1 0 = some 2 from rfl)]
  refine s48 hn (a := a) ?_ ha7 hna (fun M2 he2 h21 hs2 => ?_)
  · rw [uM_a (by decide), uM_a (by decide), he1 2 (by omega) (by omega) (by omega)]; exact ha
  have c2 : ∀ c, c ≠ 1 → c ≠ 2 → M2 c = M1 c := fun c h1 h2 => by rw [he2 c h2, uM_ne h1, uM_ne h1]
  have r0 : RC M N e S0 M2 (uN N 1 6 (lN 0)) := by
    refine ⟨⟨fun a x y z w p q r s => by rw [c2 a x y]; exact he1 a q r s, ?_⟩, fun a ha => uN_ne ha, ⟨?_, fun j x hj => ?_⟩, hT1.fr (c2 e (by omega) (by omega)) (c2 _ (by omega) (by omega)) (c2 _ (by omega) (by omega)), ?_⟩
    · rw [h21, uM_a (by decide), uM_a (by decide), he1 2 (by omega) (by omega) (by omega)]
    · rw [he2 1 (by decide), uM_j (by decide), uM_k]; rfl
    · have : ([] : List (Nat × Nat × Nat))[j]? = some x := hj
      simp at this
    · rw [uN_k]; exact BL.z
  simp only [false_imp_iff, true_imp_iff, not_false_eq_true, not_true_eq_false, true_and, and_true, implies_true, qn_self, rI_i, rJ_l, rV_n, okZ0, okZ1, o1 hn, o2 hn, exP (show P0 t e 1 0 = some 2 from rfl)]
  refine s49 hn (r0.by he hb) hs2 (fun M3 he3 hT3 => ?_)
  simp only [false_imp_iff, true_imp_iff, not_false_eq_true, not_true_eq_false, true_and, and_true, implies_true, qn_self, rI_i, rJ_l, rV_n, okZ0, okZ1]
  exact l15 hn he hk hb (by omega) hQ (n + 1) S0 0 0 M3 _ (by omega) (Nat.zero_le _) (Nat.le_refl _) PW_0 (r0.p he he3) hT3 rfl
theorem P0_ne {t' e' a k : Nat} (h1 : ¬ (a = 0 ∧ k = 5)) (h2 : ¬ (a = 1 ∧ k = 8)) : P0 t e a k = P0 t' e' a k := by
  unfold P0
  split <;> first | rfl | exact absurd ⟨rfl, rfl⟩ h1 | exact absurd ⟨rfl, rfl⟩ h2 | (split <;> simp_all)
theorem P0_sw : uP (uP (P0 t e) 0 5 (some e)) 1 8 (some t) = P0 e t := by
  funext a k
  by_cases h1 : a = 0 ∧ k = 5
  · obtain ⟨rfl, rfl⟩ := h1
    rw [uP_ne (by decide), uP_eq, up_eq]
    rfl
  · by_cases h2 : a = 1 ∧ k = 8
    · obtain ⟨rfl, rfl⟩ := h2
      rw [uP_eq, up_eq]
      rfl
    · rw [← P0_ne (t := t) (e := e) h1 h2]
      by_cases h3 : a = 1
      · subst h3
        rw [uP_eq, up_ne (fun z => h2 ⟨rfl, z⟩), uP_ne (by decide)]
      · rw [uP_ne h3]
        by_cases h4 : a = 0
        · subst h4
          rw [uP_eq, up_ne (fun z => h1 ⟨rfl, z⟩)]
        · rw [uP_ne h4]
end RED
