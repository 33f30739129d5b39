/-! THE REFERENCE: stands, where -/
section MD2
variable {d : Nat} {M : aM} {N : aN} {P : aP} {t e nx ln is fc dn : Nat} {row nd : Nat → Nat} {Q : aQ}
theorem s194 (hn : 44 ≤ nx) (h : MT M ln is fc dn row nd) {k l : Nat} (hk : k < dn) (hl : l < ln) (hQ : ∀ M', eqM M M' → Q (some (.int (if stB row (nd k) is l = true then nI 1 else nI 0))) M' N (P0 t e) nx) : aSem (d + 9) 194 [.ref 31, .int (nI k), .int (nI l)] M N (P0 t e) nx Q := by
  have c6 := h.2.2.2.2.2.2.1
  unfold wfC at c6
  have h2 := h.z (v := nI 0)
  have b1 : vB (nI k) dn = true := vB_t ((vl_nI (by omega)).mpr hk)
  have b2 : vB (nI l) ln = true := vB_t ((vl_nI (by omega)).mpr hl)
  simp only [A194, B194_0, B194_13, B194_25, false_imp_iff, true_imp_iff, not_false_eq_true, not_true_eq_false, true_and, and_true, implies_true, qn_self, rI_i, rJ_l, rV_n, okZ0, okZ1, o31 hn, s156 hn h2, s159 hn h2, b1, b2, if_true, one0]
  refine s190 hn h2 hk hl (fun M' he => ?_)
  have hq := hQ M' (eqM_z.tr he)
  by_cases q : stB row (nd k) is l = true
  · rw [if_pos q] at hq
    simp only [q, if_true, one0, false_imp_iff, true_imp_iff, not_false_eq_true, not_true_eq_false, true_and, and_true, implies_true, qn_self, rI_i, rJ_l, rV_n, okZ0, okZ1, B194_34, B194_39]
    exact hq
  · rw [if_neg q] at hq
    simp only [q, if_false, Bool.false_eq_true, eq_true nI_0, false_imp_iff, true_imp_iff, not_false_eq_true, not_true_eq_false, true_and, and_true, implies_true, qn_self, rI_i, rJ_l, rV_n, okZ0, okZ1, B194_38, B194_39]
    exact hq
theorem s194n (hn : 44 ≤ nx) (h : MT M ln is fc dn row nd) {x y : Int32} (hv : ¬ (vl x dn ∧ vl y ln)) (hQ : ∀ M', eqM M M' → Q (some (.int ng1)) M' N (P0 t e) nx) : aSem (d + 9) 194 [.ref 31, .int x, .int y] M N (P0 t e) nx Q := by
  have h2 := h.z (v := nI 0)
  have hq := hQ _ (eqM_z (v := nI 0))
  by_cases hx : vl x dn
  · simp only [A194, B194_0, B194_13, B194_21, B194_39, false_imp_iff, true_imp_iff, not_false_eq_true, not_true_eq_false, true_and, and_true, implies_true, qn_self, rI_i, rJ_l, rV_n, okZ0, okZ1, o31 hn, s156 hn h2, s159 hn h2, vB_t hx, vB_f (fun q => hv ⟨hx, q⟩), if_true, if_false, Bool.false_eq_true, one0, eq_true nI_0]
    exact hq
  · simp only [A194, B194_0, B194_21, B194_39, false_imp_iff, true_imp_iff, not_false_eq_true, not_true_eq_false, true_and, and_true, implies_true, qn_self, rI_i, rJ_l, rV_n, okZ0, okZ1, o31 hn, s159 hn h2, vB_f hx, if_false, Bool.false_eq_true, eq_true nI_0]
    exact hq
theorem s195 (hn : 44 ≤ nx) (h : MT M ln is fc dn row nd) {k : Nat} (hk : k < dn) (hQ : ∀ M', eqM M M' → Q (some (.int (nI (whB row (nd k) is ln)))) M' N (P0 t e) nx) : aSem (d + 10) 195 [.ref 31, .int (nI k)] M N (P0 t e) nx Q := by
  have c6 := h.2.2.2.2.2.2.1
  unfold wfC at c6
  have h2 := h.z (v := nI 0)
  have b1 : vB (nI k) dn = true := vB_t ((vl_nI (by omega)).mpr hk)
  simp only [A195, B195_0, B195_13, false_imp_iff, true_imp_iff, not_false_eq_true, not_true_eq_false, true_and, and_true, implies_true, qn_self, rI_i, rJ_l, rV_n, okZ0, okZ1, o31 hn, s159 hn h2, b1, if_true, one0]
  refine s191 hn h2 hk (fun M' he => ?_)
  simp only [false_imp_iff, true_imp_iff, not_false_eq_true, not_true_eq_false, true_and, and_true, implies_true, qn_self, rI_i, rJ_l, rV_n, okZ0, okZ1, B195_22]
  exact hQ M' (eqM_z.tr he)
theorem s195n (hn : 44 ≤ nx) (h : MT M ln is fc dn row nd) {x : Int32} (hv : ¬ vl x dn) (hQ : ∀ M', eqM M M' → Q (some (.int ng1)) M' N (P0 t e) nx) : aSem (d + 10) 195 [.ref 31, .int x] M N (P0 t e) nx Q := by
  have h2 := h.z (v := nI 0)
  simp only [A195, B195_0, B195_21, B195_22, false_imp_iff, true_imp_iff, not_false_eq_true, not_true_eq_false, true_and, and_true, implies_true, qn_self, rI_i, rJ_l, rV_n, okZ0, okZ1, o31 hn, s159 hn h2, vB_f hv, if_false, Bool.false_eq_true, eq_true nI_0]
  exact hQ _ eqM_z
end MD2
