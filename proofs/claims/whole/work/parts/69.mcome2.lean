/-! THE REFERENCE: comes, answer -/
section MC2
variable {d : Nat} {M : aM} {N : aN} {P : aP} {t e nx ln is fc dn : Nat} {row nd : Nat → Nat} {Q : aQ}
theorem wi_o {x : Int32} : (ngL ≤ x.toInt64 ∧ x.toInt64 ≤ lN 4) ↔ isO x = true := by
  have h0 : ngL.toInt = -1 := by decide +kernel
  have h1 : (lN 4).toInt = 4 := by decide +kernel
  rw [Int64.le_iff_toInt_le, Int64.le_iff_toInt_le, Int32.toInt_toInt64, h0, h1]
  unfold isO
  rw [Bool.or_eq_true, beq_iff_eq]
  constructor
  · intro q
    by_cases hx : x.toInt = -1
    · exact Or.inl (Int32.toInt_inj.mp (by rw [hx, ng1_i]))
    · refine Or.inr (vB_t ?_)
      unfold vl
      omega
  · rintro (q | q)
    · rw [q, ng1_i]; omega
    · have := vB_i q
      unfold vl at this
      omega
theorem s183 (hn : 44 ≤ nx) (h : MT M ln is fc dn row nd) {x y z : Int32} : aSem (d + 3) 183 [.ref 31, .int x, .int y, .int z] M N (P0 t e) nx Q ↔ Q (some (.int (if ((vB x ln && vB y is) && isO z) = true then nI 1 else nI 0))) M N (P0 t e) nx := by
  by_cases hx : vB x ln = true
  · by_cases hy : vB y is = true
    · by_cases hz : isO z = true
      · simp only [A183, B183_0, B183_8, B183_16, B183_30, B183_34, B183_35, false_imp_iff, true_imp_iff, not_false_eq_true, not_true_eq_false, true_and, and_true, implies_true, qn_self, rI_i, rJ_l, rV_n, okZ0, okZ1, o31 hn, s156 hn h, s157 hn h, hx, hy, hz, if_true, one0, s131, wi_o, Bool.and_self]
      · simp only [A183, B183_0, B183_8, B183_16, B183_30, B183_34, B183_35, false_imp_iff, true_imp_iff, not_false_eq_true, not_true_eq_false, true_and, and_true, implies_true, qn_self, rI_i, rJ_l, rV_n, okZ0, okZ1, o31 hn, s156 hn h, s157 hn h, hx, hy, hz, if_true, one0, s131, wi_o, Bool.and_self, Bool.and_false, Bool.false_eq_true, if_false, eq_true nI_0]
    · simp only [A183, B183_0, B183_8, B183_16, B183_30, B183_34, B183_35, false_imp_iff, true_imp_iff, not_false_eq_true, not_true_eq_false, true_and, and_true, implies_true, qn_self, rI_i, rJ_l, rV_n, okZ0, okZ1, o31 hn, s156 hn h, s157 hn h, hx, hy, if_true, one0, Bool.and_false, Bool.false_and, Bool.false_eq_true, if_false, eq_true nI_0]
  · simp only [A183, B183_0, B183_8, B183_16, B183_30, B183_34, B183_35, false_imp_iff, true_imp_iff, not_false_eq_true, not_true_eq_false, true_and, and_true, implies_true, qn_self, rI_i, rJ_l, rV_n, okZ0, okZ1, o31 hn, s156 hn h, hx, Bool.false_and, Bool.false_eq_true, if_false, eq_true nI_0]
theorem tO (h : MT M ln is fc dn row nd) {l : Nat} {x : Int32} (hl : l < ln) (hx : isO x = true) : thO row l x ≤ 4 ∧ (¬ x = ng1 → x = nI (thO row l x)) ∧ (x = ng1 → thO row l x = row l) := by
  have c6 := h.2.2.2.2.2.2.1
  unfold wfC at c6
  exact ⟨thO_le hx (h.2.2.2.2.2.2.2.1.1 l (by omega)), fun q => thO_x hx q, fun q => if_pos q⟩
theorem vB3 (h : MT M ln is fc dn row nd) {l i : Nat} {x : Int32} (hl : l < ln) (hi : i < is) (hx : isO x = true) : ((vB (nI l) ln && vB (nI i) is) && isO x) = true := by
  have c6 := h.2.2.2.2.2.2.1
  unfold wfC at c6
  rw [vB_t ((vl_nI (by omega)).mpr hl), vB_t ((vl_nI (by omega)).mpr hi), hx]
  rfl
theorem vB3n {x y z : Int32} (hv : ¬ ((vl x ln ∧ vl y is) ∧ isO z = true)) : ¬ ((vB x ln && vB y is) && isO z) = true := fun q => by
  rw [Bool.and_eq_true, Bool.and_eq_true] at q
  exact hv ⟨⟨vB_i q.1.1, vB_i q.1.2⟩, q.2⟩
theorem s184n (hn : 44 ≤ nx) (h : MT M ln is fc dn row nd) {x y z : Int32} (hv : ¬ ((vl x ln ∧ vl y is) ∧ isO z = true)) (hQ : ∀ M', eqM M M' → Q (some (.int ng2)) M' N (P0 t e) nx) : aSem (d + 6) 184 [.ref 31, .int x, .int y, .int z] M N (P0 t e) nx Q := by
  simp only [A184, B184_0, B184_39, B184_41, false_imp_iff, true_imp_iff, not_false_eq_true, not_true_eq_false, true_and, and_true, implies_true, qn_self, rI_i, rJ_l, rV_n, okZ0, okZ1, o31 hn, s183 hn (h.z (v := nI 0)), vB3n hv, if_false, Bool.false_eq_true, eq_true nI_0]
  exact hQ _ eqM_z
theorem s184 (hn : 44 ≤ nx) (h : MT M ln is fc dn row nd) {l i : Nat} {x : Int32} (hl : l < ln) (hi : i < is) (hx : isO x = true) (hQ : ∀ M', eqM M M' → Q (some (.int (nI (comesM (nxM row i) (whM row i) row l (thO row l x))))) M' N (P0 t e) nx) : aSem (d + 6) 184 [.ref 31, .int (nI l), .int (nI i), .int x] M N (P0 t e) nx Q := by
  have c6 := h.2.2.2.2.2.2.1
  unfold wfC at c6
  have h2 := h.z (v := nI 0)
  have ht := tO h hl hx
  have fin : aSem (d + 5) 180 [.ref 31, .int (nI l), .int (nI i), .int (nI (thO row l x))] (uM M 31 0 (nI 0)) N (P0 t e) nx (rI fun r1 M2 N3 P4 nx5 => WP (aSem (d + 5)) g0 184 nx (qn nx Q) 41 [] [.int r1] M2 N3 P4 nx5) := by
    refine s180 hn h2 hl hi ht.1 (fun M' he => ?_)
    simp only [false_imp_iff, true_imp_iff, not_false_eq_true, not_true_eq_false, true_and, and_true, implies_true, qn_self, rI_i, rJ_l, rV_n, okZ0, okZ1, B184_41]
    exact hQ M' (eqM_z.tr he)
  simp only [A184, B184_0, B184_15, false_imp_iff, true_imp_iff, not_false_eq_true, not_true_eq_false, true_and, and_true, implies_true, qn_self, rI_i, rJ_l, rV_n, okZ0, okZ1, o31 hn, s183 hn h2, vB3 h hl hi hx, if_true, one0]
  refine ⟨fun q => ?_, fun q => ?_⟩
  · rw [← ht.2.1 q] at fin
    simp only [B184_32, B184_33, false_imp_iff, true_imp_iff, not_false_eq_true, not_true_eq_false, true_and, and_true, implies_true, qn_self, rI_i, rJ_l, rV_n, okZ0, okZ1, o31 hn]
    exact fin
  · rw [ht.2.2 q] at fin
    simp only [B184_23, B184_33, false_imp_iff, true_imp_iff, not_false_eq_true, not_true_eq_false, true_and, and_true, implies_true, qn_self, rI_i, rJ_l, rV_n, okZ0, okZ1, o31 hn, exP (show P0 t e 31 16 = some 36 from rfl), x36 hn (show l < 89 by omega), h2.2.2.2.2.1 l (by omega)]
    exact fin
end MC2
