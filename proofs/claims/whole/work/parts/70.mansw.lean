/-! THE REFERENCE: answer -/
section MAN
variable {d : Nat} {M : aM} {N : aN} {P : aP} {t e nx ln is fc dn : Nat} {row nd : Nat → Nat} {Q : aQ}
theorem s185n (hn : 44 ≤ nx) (h : MT M ln is fc dn row nd) {x y z : Int32} (hv : ¬ ((vl x ln ∧ vl y is) ∧ isO z = true)) (hQ : ∀ M', eqM M M' → Q (some (.int ng2)) M' N (P0 t e) nx) : aSem (d + 6) 185 [.ref 31, .int x, .int y, .int z] M N (P0 t e) nx Q := by
  simp only [A185, B185_0, B185_52, B185_54, false_imp_iff, true_imp_iff, not_false_eq_true, not_true_eq_false, true_and, and_true, implies_true, qn_self, rI_i, rJ_l, rV_n, okZ0, okZ1, o31 hn, s183 hn (h.z (v := nI 0)), vB3n hv, if_false, Bool.false_eq_true, eq_true nI_0]
  exact hQ _ eqM_z
theorem s185 (hn : 44 ≤ nx) (h : MT M ln is fc dn row nd) {l i : Nat} {x : Int32} (hl : l < ln) (hi : i < is) (hx : isO x = true) (hQ : ∀ M', eqM M M' → Q (some (.int (nI (row (47 + (6 * comesM (nxM row i) (whM row i) row l (thO row l x) + i)))))) M' N (P0 t e) nx) : aSem (d + 6) 185 [.ref 31, .int (nI l), .int (nI i), .int x] M N (P0 t e) nx Q := by
  have c6 := h.2.2.2.2.2.2.1
  unfold wfC at c6
  have h2 := h.z (v := nI 0)
  have ht := tO h hl hx
  have hp := nxM_ok h.2.2.2.2.2.2.2.1 c6.1 c6.2.1 hi
  have hlt : comesM (nxM row i) (whM row i) row l (thO row l x) < ln := comesM_lt hp hl
  have fin : WP (aSem (d + 5)) g0 185 nx (qn nx Q) 41 [(2, .int (nI i))] [.int (nI (thO row l x)), .int (nI i), .int (nI l), .ref 31, .int (nI 6), .int (nI 47), .ref 36] (uM M 31 0 (nI 0)) N (P0 t e) nx := by
    simp only [B185_41, false_imp_iff, true_imp_iff, not_false_eq_true, not_true_eq_false, true_and, and_true, implies_true, qn_self, rI_i, rJ_l, rV_n, okZ0, okZ1, o31 hn]
    refine s180 hn h2 hl hi ht.1 (fun M' he => ?_)
    simp only [false_imp_iff, true_imp_iff, not_false_eq_true, not_true_eq_false, true_and, and_true, implies_true, qn_self, rI_i, rJ_l, rV_n, okZ0, okZ1, m3, x36 hn (show 47 + (6 * comesM (nxM row i) (whM row i) row l (thO row l x) + i) < 89 by omega), (h2.m he).2.2.2.2.1 (47 + (6 * comesM (nxM row i) (whM row i) row l (thO row l x) + i)) (by omega), B185_54]
    exact hQ M' (eqM_z.tr he)
  simp only [A185, B185_0, B185_15, false_imp_iff, true_imp_iff, not_false_eq_true, not_true_eq_false, true_and, and_true, implies_true, qn_self, rI_i, rJ_l, rV_n, okZ0, okZ1, o31 hn, s183 hn h2, vB3 h hl hi hx, if_true, one0, exP (show P0 t e 31 16 = some 36 from rfl)]
  refine ⟨fun q => ?_, fun q => ?_⟩
  · rw [← ht.2.1 q] at fin
    simp only [B185_40]
    exact fin
  · rw [ht.2.2 q] at fin
    simp only [B185_31, false_imp_iff, true_imp_iff, not_false_eq_true, not_true_eq_false, true_and, and_true, implies_true, qn_self, rI_i, rJ_l, rV_n, okZ0, okZ1, o31 hn, exP (show P0 t e 31 16 = some 36 from rfl), x36 hn (show l < 89 by omega), h2.2.2.2.2.1 l (by omega)]
    exact fin
end MAN
