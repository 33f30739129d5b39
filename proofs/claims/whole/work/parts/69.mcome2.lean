/-! THE REFERENCE: comes, answer -/
section MC2
variable {d : Nat} {M : aM} {N : aN} {P : aP} {t e nx ln is fc dn : Nat} {row nd : Nat → Nat} {Q : aQ}
theorem wi_o {x : Int32} : (ngL ≤ x.toInt64 ∧ x.toInt64 ≤ lN 4) ↔ isO x = true := by
  have h0 : ngL.toInt = -1 := by decide +kernel
  have h1 : (lN 4).toInt = 4 := by decide +kernel
  rw [Int64.le_iff_toInt_le, Int64.le_iff_toInt_le, Int32.toInt_toInt64, h0, h1]
  unfold isO
  rw [Bool.or_eq_true, beq_iff_eq]
  constructor
  · intro q
    by_cases hx : x.toInt = -1
    · exact Or.inl (Int32.toInt_inj.mp (by rw [hx, ng1_i]))
    · refine Or.inr (vB_t ?_)
      unfold vl
      omega
  · rintro (q | q)
    · rw [q, ng1_i]; omega
    · have := vB_i q
      unfold vl at this
      omega
theorem s183 (hn : 44 ≤ nx) (h : MT M ln is fc dn row nd) {x y z : Int32} : aSem (d + 3) 183 [.ref 31, .int x, .int y, .int z] M N (P0 t e) nx Q ↔ Q (some (.int (if ((vB x ln && vB y is) && isO z) = true then nI 1 else nI 0))) M N (P0 t e) nx := by
  by_cases hx : vB x ln = true
  · by_cases hy : vB y is = true
    · by_cases hz : isO z = true
      · simp only [A183, B183_0, B183_8, B183_16, B183_30, B183_34, B183_35, false_imp_iff, true_imp_iff, not_false_eq_true, not_true_eq_false, true_and, and_true, implies_true, qn_self, rI_i, rJ_l, rV_n, okZ0, okZ1, o31 hn, s156 hn h, s157 hn h, hx, hy, hz, if_true, one0, s131, wi_o, Bool.and_self]
      · simp only [A183, B183_0, B183_8, B183_16, B183_30, B183_34, B183_35, false_imp_iff, true_imp_iff, not_false_eq_true, not_true_eq_false, true_and, and_true, implies_true, qn_self, rI_i, rJ_l, rV_n, okZ0, okZ1, o31 hn, s156 hn h, s157 hn h, hx, hy, hz, if_true, one0, s131, wi_o, Bool.and_self, Bool.and_false, Bool.false_eq_true, if_false, eq_true nI_0]
    · simp only [A183, B183_0, B183_8, B183_16, B183_30, B183_34, B183_35, false_imp_iff, true_imp_iff, not_false_eq_true, not_true_eq_false, true_and, and_true, implies_true, qn_self, rI_i, rJ_l, rV_n, okZ0, okZ1, o31 hn, s156 hn h, s157 hn h, hx, hy, if_true, one0, Bool.and_false, Bool.false_and, Bool.false_eq_true, if_false, eq_true nI_0]
  · simp only [A183, B183_0, B183_8, B183_16, B183_30, B183_34, B183_35, false_imp_iff, true_imp_iff, not_false_eq_true, not_true_eq_false, true_and, and_true, implies_true, qn_self, rI_i, rJ_l, rV_n, okZ0, okZ1, o31 hn, s156 hn h, hx, Bool.false_and, Bool.false_eq_true, if_false, eq_true nI_0]
end MC2
