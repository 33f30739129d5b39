/-! RENVOIDESK: acts -/
/-- memory but for what is told and the past -/
def eqA (t : Nat) (M M' : aM) : Prop := ∀ a, a ≠ t + 1 → a ≠ 25 → a ≠ 26 → a ≠ 27 → M' a = M a
theorem t25 {t : Nat} (ho : isT t) : t ≠ 25 ∧ t + 1 ≠ 25 ∧ t + 2 ≠ 25 ∧ t ≠ 26 ∧ t + 1 ≠ 26 ∧ t + 2 ≠ 26 ∧ t ≠ 27 ∧ t + 1 ≠ 27 ∧ t + 2 ≠ 27 := by rcases ho with rfl | rfl | rfl <;> decide
section ACT
variable {d : Nat} {M : aM} {N : aN} {P : aP} {t e nx ln is fc dn u : Nat} {row nd : Nat → Nat} {hs ks : Nat → Nat → Nat} {kp : Nat → Bool} {Q : aQ}
/-- remember, then go on -/
theorem rem9 (hn : 44 ≤ nx) (h : CT M t ln is fc dn row nd) (hP : PA M is u hs kp ks) (hQ : ∀ M', eqA t M M' → TD M' t ln is fc dn row nd → PA M' is (psU u) (psH u hs row) kp ks → Q none M' N (P0 t e) nx) : aSem (d + 2) 9 [.ref 25, .ref t] M N (P0 t e) nx Q := by
  obtain ⟨ho, h22, hT, hc, hw, h64⟩ := h
  have h25 := t25 ho
  refine s9 hn ho hT hP (fun M1 he1 hP1 => hQ M1 (fun a h1 h2 h3 h4 => he1 a h2 h3) (hT.frame (he1 _ h25.1 h25.2.2.2.1) (he1 _ h25.2.1 h25.2.2.2.2.1) (he1 _ h25.2.2.1 h25.2.2.2.2.2.1)) hP1)
theorem PA.tc {M' : aM} (hP : PA M is u hs kp ks) (ho : isT t) (he : eqC (t + 1) M M') : PA M' is u hs kp ks := by
  have h25 := t25 ho
  exact hP.fr (he _ (fun q => h25.2.1 q.symm)) (he _ (fun q => h25.2.2.2.2.1 q.symm)) (he _ (fun q => h25.2.2.2.2.2.2.2.1 q.symm))
theorem eqA.c {M' M'' : aM} (h : eqA t M M') (h' : eqC (t + 1) M' M'') : eqA t M M'' := fun a h1 h2 h3 h4 => (h' a h1).trans (h a h1 h2 h3 h4)
theorem eqC_u {c k : Nat} {v : Int32} : eqC c M (uM M c k v) := eqC.rf.up
theorem s119 (hn : 44 ≤ nx) (h : CT M t ln is fc dn row nd) (hP : PA M is u hs kp ks) {f l : Nat} (hf : f < fc) (hl : l < ln) (hQ : ∀ M', eqA t M M' → TD M' t ln is fc dn (va_up row (6 + f) l) nd → PA M' is (psU u) (psH u hs row) kp ks → Q (some (.int (nI (row (6 + f))))) M' N (P0 t e) nx) : aSem (d + 3) 119 [.ref 0, .int (nI f), .int (nI l)] M N (P0 t e) nx Q := by
  have h' := h
  obtain ⟨ho, h22, hT, hc, hw, h64⟩ := h
  have c6 := hc
  unfold wfC at c6
  simp only [A119, B119_0, B119_11, B119_24, false_imp_iff, true_imp_iff, not_false_eq_true, not_true_eq_false, true_and, and_true, implies_true, qn_self, rI_i, rJ_l, rV_n, okZ0, okZ1, o0 hn, oT hn ho, o25 hn, exP (show P0 t e 0 5 = some t from rfl), exP (show P0 t e 0 4 = some 25 from rfl), s65 hn ho hT hc hf, s63 hn ho hT hc hl, one0]
  refine rem9 hn h' hP (fun M1 he1 hT1 hP1 => ?_)
  simp only [false_imp_iff, true_imp_iff, not_false_eq_true, not_true_eq_false, true_and, and_true, implies_true, qn_self, rI_i, rJ_l, rV_n, okZ0, okZ1, o0 hn, oT hn ho, exP (show P0 t e 0 5 = some t from rfl), s71 hn ho hT1 hc hf, s72 hn ho hT1 hc hf]
  have hS := hT1.set ho (k := 6 + f) (v := l) (by omega)
  rw [pi_th (by omega)] at hS
  exact hQ _ (he1.c eqC_u) hS (hP1.tc ho eqC_u)
theorem s119n (hn : 44 ≤ nx) (h : CT M t ln is fc dn row nd) {x y : Int32} (hv : ¬ (vl x fc ∧ vl y ln)) : aSem (d + 3) 119 [.ref 0, .int x, .int y] M N (P0 t e) nx Q ↔ Q (some (.int ng1)) M N (P0 t e) nx := by
  obtain ⟨ho, h22, hT, hc, hw, h64⟩ := h
  by_cases h1 : vl x fc
  · have h2 : ¬ vl y ln := fun q => hv ⟨h1, q⟩
    obtain ⟨k, hk, rfl⟩ := vl_of h1
    simp only [A119, B119_0, B119_11, B119_22, false_imp_iff, true_imp_iff, not_false_eq_true, not_true_eq_false, true_and, and_true, implies_true, qn_self, rI_i, rJ_l, rV_n, okZ0, okZ1, o0 hn, oT hn ho, exP (show P0 t e 0 5 = some t from rfl), s65 hn ho hT hc hk, s63n hn ho hT hc h2, one0, eq_true nI_0]
  · simp only [A119, B119_0, B119_22, false_imp_iff, true_imp_iff, not_false_eq_true, not_true_eq_false, true_and, and_true, implies_true, qn_self, rI_i, rJ_l, rV_n, okZ0, okZ1, o0 hn, oT hn ho, exP (show P0 t e 0 5 = some t from rfl), s65n hn ho hT hc h1, eq_true nI_0]
theorem s120 (hn : 44 ≤ nx) (h : CT M t ln is fc dn row nd) (hP : PA M is u hs kp ks) {l y : Nat} (hl : l < ln) (hy : y < 5) (hQ : ∀ M', eqA t M M' → TD M' t ln is fc dn (va_up row l y) nd → PA M' is (psU u) (psH u hs row) kp ks → Q (some (.int (nI (row l)))) M' N (P0 t e) nx) : aSem (d + 3) 120 [.ref 0, .int (nI l), .int (nI y)] M N (P0 t e) nx Q := by
  have h' := h
  obtain ⟨ho, h22, hT, hc, hw, h64⟩ := h
  have c6 := hc
  unfold wfC at c6
  have hb : vB (nI y) 5 = true := vB_t ((vl_nI (by omega)).mpr hy)
  simp only [A120, B120_0, B120_11, B120_20, false_imp_iff, true_imp_iff, not_false_eq_true, not_true_eq_false, true_and, and_true, implies_true, qn_self, rI_i, rJ_l, rV_n, okZ0, okZ1, o0 hn, oT hn ho, o25 hn, exP (show P0 t e 0 5 = some t from rfl), exP (show P0 t e 0 4 = some 25 from rfl), s63 hn ho hT hc hl, s108, hb, if_true, one0]
  refine rem9 hn h' hP (fun M1 he1 hT1 hP1 => ?_)
  simp only [false_imp_iff, true_imp_iff, not_false_eq_true, not_true_eq_false, true_and, and_true, implies_true, qn_self, rI_i, rJ_l, rV_n, okZ0, okZ1, o0 hn, oT hn ho, exP (show P0 t e 0 5 = some t from rfl), s69 hn ho hT1 hc hl, s70 hn ho hT1 hc hl]
  have hS := hT1.set ho (k := l) (v := y) (by omega)
  rw [pi_th (by omega)] at hS
  exact hQ _ (he1.c eqC_u) hS (hP1.tc ho eqC_u)
theorem s120n (hn : 44 ≤ nx) (h : CT M t ln is fc dn row nd) {x y : Int32} (hv : ¬ (vl x ln ∧ vl y 5)) : aSem (d + 3) 120 [.ref 0, .int x, .int y] M N (P0 t e) nx Q ↔ Q (some (.int ng1)) M N (P0 t e) nx := by
  obtain ⟨ho, h22, hT, hc, hw, h64⟩ := h
  by_cases h1 : vl x ln
  · have h2 := vB_f (fun q => hv ⟨h1, q⟩)
    obtain ⟨k, hk, rfl⟩ := vl_of h1
    simp only [A120, B120_0, B120_11, B120_18, false_imp_iff, true_imp_iff, not_false_eq_true, not_true_eq_false, true_and, and_true, implies_true, qn_self, rI_i, rJ_l, rV_n, okZ0, okZ1, o0 hn, oT hn ho, exP (show P0 t e 0 5 = some t from rfl), s63 hn ho hT hc hk, s108, h2, if_false, Bool.false_eq_true, one0, eq_true nI_0]
  · simp only [A120, B120_0, B120_18, false_imp_iff, true_imp_iff, not_false_eq_true, not_true_eq_false, true_and, and_true, implies_true, qn_self, rI_i, rJ_l, rV_n, okZ0, okZ1, o0 hn, oT hn ho, exP (show P0 t e 0 5 = some t from rfl), s63n hn ho hT hc h1, eq_true nI_0]
theorem s122 (hn : 44 ≤ nx) (h : CT M t ln is fc dn row nd) (hP : PA M is u hs kp ks) {l i y : Nat} (hl : l < ln) (hi : i < is) (hy : y < 100) (hQ : ∀ M', eqA t M M' → TD M' t ln is fc dn (va_up row (47 + (6 * l + i)) y) nd → PA M' is (psU u) (psH u hs row) kp ks → Q (some (.int (nI (row (47 + (6 * l + i)))))) M' N (P0 t e) nx) : aSem (d + 4) 122 [.ref 0, .int (nI l), .int (nI i), .int (nI y)] M N (P0 t e) nx Q := by
  have h' := h
  obtain ⟨ho, h22, hT, hc, hw, h64⟩ := h
  have c6 := hc
  unfold wfC at c6
  simp only [A122, B122_0, B122_12, B122_16, B122_24, false_imp_iff, true_imp_iff, not_false_eq_true, not_true_eq_false, true_and, and_true, implies_true, qn_self, rI_i, rJ_l, rV_n, okZ0, okZ1, o0 hn, oT hn ho, o25 hn, exP (show P0 t e 0 5 = some t from rfl), exP (show P0 t e 0 4 = some 25 from rfl), s67 hn ho hT hc hl hi, one0, nI_pos (show y < 2 ^ 31 by omega), nI_leI (show y < 2 ^ 31 by omega) (show 99 < 2 ^ 31 by decide), show y ≤ 99 by omega]
  refine rem9 hn h' hP (fun M1 he1 hT1 hP1 => ?_)
  simp only [false_imp_iff, true_imp_iff, not_false_eq_true, not_true_eq_false, true_and, and_true, implies_true, qn_self, rI_i, rJ_l, rV_n, okZ0, okZ1, o0 hn, oT hn ho, exP (show P0 t e 0 5 = some t from rfl), s74 hn ho hT1 hc hl hi, s75 hn ho hT1 hc hl hi]
  have hS := hT1.set ho (k := 53 + (6 * l + i)) (v := y) (by omega)
  rw [pi_la] at hS
  exact hQ _ (he1.c eqC_u) hS (hP1.tc ho eqC_u)
theorem s122n (hn : 44 ≤ nx) (h : CT M t ln is fc dn row nd) {x y z : Int32} (hv : ¬ ((vl x ln ∧ vl y is) ∧ vl z 100)) : aSem (d + 4) 122 [.ref 0, .int x, .int y, .int z] M N (P0 t e) nx Q ↔ Q (some (.int ng1)) M N (P0 t e) nx := by
  obtain ⟨ho, h22, hT, hc, hw, h64⟩ := h
  by_cases h1 : vl x ln ∧ vl y is
  · have h2 : ¬ vl z 100 := fun q => hv ⟨h1, q⟩
    obtain ⟨l, hl, rfl⟩ := vl_of h1.1
    obtain ⟨i, hi, rfl⟩ := vl_of h1.2
    by_cases h0 : z < 0
    · simp only [A122, B122_0, B122_12, B122_22, false_imp_iff, true_imp_iff, not_false_eq_true, not_true_eq_false, true_and, and_true, implies_true, qn_self, rI_i, rJ_l, rV_n, okZ0, okZ1, o0 hn, oT hn ho, exP (show P0 t e 0 5 = some t from rfl), s67 hn ho hT hc hl hi, one0, h0]
    · have h3 : ¬ z ≤ nI 99 := by
        have h3 := vl_lt0 h2 (by decide) h0
        rw [Int32.le_iff_toInt_le, nI_toInt (by decide)] at h3 ⊢
        omega
      simp only [A122, B122_0, B122_12, B122_16, B122_22, false_imp_iff, true_imp_iff, not_false_eq_true, not_true_eq_false, true_and, and_true, implies_true, qn_self, rI_i, rJ_l, rV_n, okZ0, okZ1, o0 hn, oT hn ho, exP (show P0 t e 0 5 = some t from rfl), s67 hn ho hT hc hl hi, one0, h0, h3]
  · simp only [A122, B122_0, B122_22, false_imp_iff, true_imp_iff, not_false_eq_true, not_true_eq_false, true_and, and_true, implies_true, qn_self, rI_i, rJ_l, rV_n, okZ0, okZ1, o0 hn, oT hn ho, exP (show P0 t e 0 5 = some t from rfl), s67n hn ho hT hc h1, eq_true nI_0]
/-- the number of a rule -/
def ruN (x z : Int32) : Nat := if x = ng1 then 0 else if z = nI 1 then 2 * iN x + 2 else 2 * iN x + 1
theorem s121 (hn : 44 ≤ nx) (h : CT M t ln is fc dn row nd) (hP : PA M is u hs kp ks) {l i : Nat} {x z : Int32} (hl : l < ln) (hi : i < is) (hx : x = ng1 ∨ vl x fc) (hz : z = nI 0 ∨ z = nI 1) (hQ : ∀ M', eqA t M M' → TD M' t ln is fc dn (va_up row (11 + (6 * l + i)) (ruN x z)) nd → PA M' is (psU u) (psH u hs row) kp ks → Q (some (.int (nI 1))) M' N (P0 t e) nx) : aSem (d + 4) 121 [.ref 0, .int (nI l), .int (nI i), .int x, .int z] M N (P0 t e) nx Q := by
  have h' := h
  obtain ⟨ho, h22, hT, hc, hw, h64⟩ := h
  have c6 := hc
  unfold wfC at c6
  have e10 : ¬ nI 0 = nI 1 := by decide +kernel
  have fin : WP (aSem (d + 3)) g0 121 nx (qn nx Q) 30 [(0, .ref 0), (1, .int (nI l)), (2, .int (nI i)), (3, .int x), (4, .int z)] [] M N (P0 t e) nx := by
    simp only [B121_30, false_imp_iff, true_imp_iff, not_false_eq_true, not_true_eq_false, true_and, and_true, implies_true, qn_self, rI_i, rJ_l, rV_n, okZ0, okZ1, o0 hn, oT hn ho, o25 hn, exP (show P0 t e 0 5 = some t from rfl), exP (show P0 t e 0 4 = some 25 from rfl)]
    refine rem9 hn h' hP (fun M1 he1 hT1 hP1 => ?_)
    have hS := hT1.set ho (k := 17 + (6 * l + i)) (v := ruN x z) (by omega)
    rw [pi_ru] at hS
    have hq := hQ _ (he1.c eqC_u) hS (hP1.tc ho eqC_u)
    simp only [false_imp_iff, true_imp_iff, not_false_eq_true, not_true_eq_false, true_and, and_true, implies_true, qn_self, rI_i, rJ_l, rV_n, okZ0, okZ1, o0 hn, oT hn ho, exP (show P0 t e 0 5 = some t from rfl)]
    unfold ruN at hq
    by_cases hx0 : x = ng1
    · rw [if_pos hx0] at hq
      simp only [hx0, s77n hn ho hT1 hc hl hi, false_imp_iff, true_imp_iff, not_false_eq_true, not_true_eq_false, true_and, and_true, implies_true, qn_self, rI_i, rJ_l, rV_n, okZ0, okZ1]
      exact hq
    · rw [if_neg hx0] at hq
      obtain ⟨f, hf, rfl⟩ := vl_of (hx.resolve_left hx0)
      rw [iN_nI (by omega)] at hq
      rcases hz with rfl | rfl
      · rw [if_neg e10] at hq
        simp only [s77b hn ho hT1 hc hl hi hf, false_imp_iff, true_imp_iff, not_false_eq_true, not_true_eq_false, true_and, and_true, implies_true, qn_self, rI_i, rJ_l, rV_n, okZ0, okZ1]
        exact hq
      · rw [if_pos rfl] at hq
        simp only [s77a hn ho hT1 hc hl hi hf, false_imp_iff, true_imp_iff, not_false_eq_true, not_true_eq_false, true_and, and_true, implies_true, qn_self, rI_i, rJ_l, rV_n, okZ0, okZ1]
        exact hq
  simp only [A121, B121_0, B121_12, false_imp_iff, true_imp_iff, not_false_eq_true, not_true_eq_false, true_and, and_true, implies_true, qn_self, rI_i, rJ_l, rV_n, okZ0, okZ1, o0 hn, oT hn ho, exP (show P0 t e 0 5 = some t from rfl), s67 hn ho hT hc hl hi, one0]
  refine ⟨fun _ => fin, fun hx0 => ?_⟩
  obtain ⟨f, hf, rfl⟩ := vl_of (hx.resolve_left hx0)
  simp only [B121_17, false_imp_iff, true_imp_iff, not_false_eq_true, not_true_eq_false, true_and, and_true, implies_true, qn_self, rI_i, rJ_l, rV_n, okZ0, okZ1, o0 hn, oT hn ho, exP (show P0 t e 0 5 = some t from rfl), s65 hn ho hT hc hf, one0]
  exact fin
theorem s121n (hn : 44 ≤ nx) (h : CT M t ln is fc dn row nd) {x y v z : Int32} (hv : ¬ ((vl x ln ∧ vl y is) ∧ (v = ng1 ∨ vl v fc))) : aSem (d + 4) 121 [.ref 0, .int x, .int y, .int v, .int z] M N (P0 t e) nx Q ↔ Q (some (.int (nI 0))) M N (P0 t e) nx := by
  obtain ⟨ho, h22, hT, hc, hw, h64⟩ := h
  by_cases h1 : vl x ln ∧ vl y is
  · have h2 : ¬ v = ng1 := fun q => hv ⟨h1, Or.inl q⟩
    have h3 : ¬ vl v fc := fun q => hv ⟨h1, Or.inr q⟩
    obtain ⟨l, hl, rfl⟩ := vl_of h1.1
    obtain ⟨i, hi, rfl⟩ := vl_of h1.2
    simp only [A121, B121_0, B121_12, B121_17, B121_28, false_imp_iff, true_imp_iff, not_false_eq_true, not_true_eq_false, true_and, and_true, implies_true, qn_self, rI_i, rJ_l, rV_n, okZ0, okZ1, o0 hn, oT hn ho, exP (show P0 t e 0 5 = some t from rfl), s67 hn ho hT hc hl hi, one0, h2, s65n hn ho hT hc h3, eq_true nI_0]
  · simp only [A121, B121_0, B121_28, false_imp_iff, true_imp_iff, not_false_eq_true, not_true_eq_false, true_and, and_true, implies_true, qn_self, rI_i, rJ_l, rV_n, okZ0, okZ1, o0 hn, oT hn ho, exP (show P0 t e 0 5 = some t from rfl), s67n hn ho hT hc h1, eq_true nI_0]
end ACT
