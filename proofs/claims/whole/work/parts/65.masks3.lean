/-! THE REFERENCE: ends, trapped, rule -/
section MA3
variable {d : Nat} {M : aM} {N : aN} {P : aP} {t e nx ln is fc dn : Nat} {row nd : Nat → Nat} {Q : aQ}
theorem s175n (hn : 44 ≤ nx) (h : MT M ln is fc dn row nd) {x y z : Int32} (hv : ¬ (vl x ln ∧ vl y is)) (hQ : ∀ M', eqM M M' → Q (some (.int ng1)) M' N (P0 t e) nx) : aSem (d + 4) 175 [.ref 31, .int x, .int y, .int z] M N (P0 t e) nx Q := by
  have h2 := h.z (v := nI 0)
  have hq := hQ _ (eqM_z (v := nI 0))
  by_cases hx : vl x ln
  · simp only [A175, B175_0, B175_13, B175_31, false_imp_iff, true_imp_iff, not_false_eq_true, not_true_eq_false, true_and, and_true, implies_true, qn_self, rI_i, rJ_l, rV_n, okZ0, okZ1, o31 hn, s156 hn h2, s157 hn h2, vB_t hx, vB_f (fun q => hv ⟨hx, q⟩), if_true, if_false, Bool.false_eq_true, one0, eq_true nI_0]
    exact hq
  · simp only [A175, B175_0, B175_31, false_imp_iff, true_imp_iff, not_false_eq_true, not_true_eq_false, true_and, and_true, implies_true, qn_self, rI_i, rJ_l, rV_n, okZ0, okZ1, o31 hn, s156 hn h2, vB_f hx, if_false, Bool.false_eq_true, eq_true nI_0]
    exact hq
theorem fS_v {w a b : Int32} (h : ¬ vl w 2) : fS w a b = ng1 := by
  unfold fS
  rw [if_neg (fun q => h (by rw [q]; exact (vl_nI (by decide)).mpr (by decide))), if_neg (fun q => h (by rw [q]; exact (vl_nI (by decide)).mpr (by decide)))]
theorem s175 (hn : 44 ≤ nx) (h : MT M ln is fc dn row nd) {l i : Nat} {x : Int32} (hl : l < ln) (hi : i < is) (hQ : ∀ M', eqM M M' → Q (some (.int (fS x (nI (road (nxM row i) (whM row i) l).2.1) (nI (road (nxM row i) (whM row i) l).2.2)))) M' N (P0 t e) nx) : aSem (d + 4) 175 [.ref 31, .int (nI l), .int (nI i), .int x] M N (P0 t e) nx Q := by
  have c6 := h.2.2.2.2.2.2.1
  unfold wfC at c6
  have h2 := h.z (v := nI 0)
  have b1 : vB (nI l) ln = true := vB_t ((vl_nI (by omega)).mpr hl)
  have b2 : vB (nI i) is = true := vB_t ((vl_nI (by omega)).mpr hi)
  simp only [A175, B175_0, B175_13, B175_21, false_imp_iff, true_imp_iff, not_false_eq_true, not_true_eq_false, true_and, and_true, implies_true, qn_self, rI_i, rJ_l, rV_n, okZ0, okZ1, o31 hn, s156 hn h2, s157 hn h2, b1, b2, if_true, one0, s131, wi_c (show 1 < 2 ^ 31 by decide), vB_iff]
  by_cases hv : vl x (1 + 1)
  · simp only [vB_t hv, if_true, one0, false_imp_iff, true_imp_iff, not_false_eq_true, not_true_eq_false, true_and, and_true, implies_true, qn_self, rI_i, rJ_l, rV_n, okZ0, okZ1, B175_33, o31 hn]
    refine s173 hn h2 hl hi (fun M1 he1 hk => ?_)
    have hq := hQ M1 (eqM_z.tr he1)
    obtain ⟨k, hk2, rfl⟩ := vl_of hv
    simp only [false_imp_iff, true_imp_iff, not_false_eq_true, not_true_eq_false, true_and, and_true, implies_true, qn_self, rI_i, rJ_l, rV_n, okZ0, okZ1, e0I (x := nI k), B175_43, B175_50, B175_54, o31 hn, hk.2.1, hk.2.2.1]
    unfold fS at hq
    refine ⟨fun q => ?_, fun q => ?_⟩
    · have hk1 : k = 1 := by
        rcases (show k = 0 ∨ k = 1 by omega) with rfl | rfl
        · exact absurd rfl q
        · rfl
      rw [if_neg q, if_pos (by rw [hk1])] at hq; exact hq
    · rw [if_pos q] at hq; exact hq
  · have hq := hQ _ (eqM_z (v := nI 0))
    rw [fS_v hv] at hq
    simp only [vB_f hv, if_false, Bool.false_eq_true, eq_true nI_0, false_imp_iff, true_imp_iff, not_false_eq_true, not_true_eq_false, true_and, and_true, implies_true, qn_self, rI_i, rJ_l, rV_n, okZ0, okZ1, B175_31]
    exact hq
end MA3
