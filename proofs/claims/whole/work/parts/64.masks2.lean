/-! THE REFERENCE: more of what is asked -/
section MA2
variable {d : Nat} {M : aM} {N : aN} {P : aP} {t e nx ln is fc dn : Nat} {row nd : Nat → Nat} {Q : aQ}
theorem s168 (hn : 44 ≤ nx) (h : MT M ln is fc dn row nd) {x y : Int32} (hQ : ∀ M', eqM M M' → Q (some (.int (if (vB x ln && vB y is) = true then nI (row (47 + (6 * iN x + iN y))) else ng1))) M' N (P0 t e) nx) : aSem (d + 3) 168 [.ref 31, .int x, .int y] M N (P0 t e) nx Q := by
  have c6 := h.2.2.2.2.2.2.1
  unfold wfC at c6
  have h2 := h.z (v := nI 0)
  have hq := hQ _ (eqM_z (v := nI 0))
  by_cases hx : vl x ln
  · by_cases hy : vl y is
    · rw [if_pos (vB_t2 ⟨hx, hy⟩)] at hq
      have b1 := vB_t hx
      have b2 := vB_t hy
      obtain ⟨l, hl, rfl⟩ := vl_of hx
      obtain ⟨i, hi, rfl⟩ := vl_of hy
      rw [iN_nI (by omega), iN_nI (by omega)] at hq
      simp only [A168, B168_0, B168_13, B168_21, B168_38, B168_39, false_imp_iff, true_imp_iff, not_false_eq_true, not_true_eq_false, true_and, and_true, implies_true, qn_self, rI_i, rJ_l, rV_n, okZ0, okZ1, o31 hn, s156 hn h2, s157 hn h2, b1, b2, if_true, one0, exP (show P0 t e 31 16 = some 36 from rfl), m3, x36 hn (show 47 + (6 * l + i) < 89 by omega), h2.2.2.2.2.1 (47 + (6 * l + i)) (by omega)]
      exact hq
    · rw [if_neg (vB_f2 (fun q => hy q.2))] at hq
      simp only [A168, B168_0, B168_13, B168_21, B168_38, B168_39, false_imp_iff, true_imp_iff, not_false_eq_true, not_true_eq_false, true_and, and_true, implies_true, qn_self, rI_i, rJ_l, rV_n, okZ0, okZ1, o31 hn, s156 hn h2, s157 hn h2, vB_t hx, vB_f hy, if_true, if_false, Bool.false_eq_true, one0, eq_true nI_0]
      exact hq
  · rw [if_neg (vB_f2 (fun q => hx q.1))] at hq
    simp only [A168, B168_0, B168_13, B168_21, B168_38, B168_39, false_imp_iff, true_imp_iff, not_false_eq_true, not_true_eq_false, true_and, and_true, implies_true, qn_self, rI_i, rJ_l, rV_n, okZ0, okZ1, o31 hn, s156 hn h2, vB_f hx, if_false, Bool.false_eq_true, eq_true nI_0]
    exact hq
theorem s169 (hn : 44 ≤ nx) (h : MT M ln is fc dn row nd) {x : Int32} (hQ : ∀ M', eqM M M' → Q (some (.int (if vB x is = true then nI (row (83 + iN x)) else ng1))) M' N (P0 t e) nx) : aSem (d + 3) 169 [.ref 31, .int x] M N (P0 t e) nx Q := by
  have c6 := h.2.2.2.2.2.2.1
  unfold wfC at c6
  have h2 := h.z (v := nI 0)
  have hq := hQ _ (eqM_z (v := nI 0))
  by_cases hv : vl x is
  · rw [if_pos (vB_t hv)] at hq
    have hb := vB_t hv
    obtain ⟨f, hf, rfl⟩ := vl_of hv
    rw [iN_nI (by omega)] at hq
    simp only [A169, B169_0, B169_13, B169_25, B169_26, false_imp_iff, true_imp_iff, not_false_eq_true, not_true_eq_false, true_and, and_true, implies_true, qn_self, rI_i, rJ_l, rV_n, okZ0, okZ1, o31 hn, s157 hn h2, hb, if_true, one0, exP (show P0 t e 31 16 = some 36 from rfl), show nI 83 + nI f = nI (83 + f) from nI_add 83 f, x36 hn (show 83 + f < 89 by omega), h2.2.2.2.2.1 (83 + f) (by omega)]
    exact hq
  · rw [if_neg (vB_f hv)] at hq
    simp only [A169, B169_0, B169_13, B169_25, B169_26, false_imp_iff, true_imp_iff, not_false_eq_true, not_true_eq_false, true_and, and_true, implies_true, qn_self, rI_i, rJ_l, rV_n, okZ0, okZ1, o31 hn, s157 hn h2, vB_f hv, if_false, Bool.false_eq_true, eq_true nI_0]
    exact hq
theorem s170 (hn : 44 ≤ nx) (h : MT M ln is fc dn row nd) {x : Int32} (hQ : ∀ M', eqM M M' → Q (some (.int (if vB x dn = true then nI (nd (iN x)) else ng1))) M' N (P0 t e) nx) : aSem (d + 3) 170 [.ref 31, .int x] M N (P0 t e) nx Q := by
  have c6 := h.2.2.2.2.2.2.1
  unfold wfC at c6
  have h2 := h.z (v := nI 0)
  have hq := hQ _ (eqM_z (v := nI 0))
  by_cases hv : vl x dn
  · rw [if_pos (vB_t hv)] at hq
    have hb := vB_t hv
    obtain ⟨f, hf, rfl⟩ := vl_of hv
    rw [iN_nI (by omega)] at hq
    simp only [A170, B170_0, B170_13, B170_22, B170_23, false_imp_iff, true_imp_iff, not_false_eq_true, not_true_eq_false, true_and, and_true, implies_true, qn_self, rI_i, rJ_l, rV_n, okZ0, okZ1, o31 hn, s159 hn h2, hb, if_true, one0, exP (show P0 t e 31 15 = some 35 from rfl), x35 hn (show f < 16 by omega), h2.2.2.2.2.2.1 f hf]
    exact hq
  · rw [if_neg (vB_f hv)] at hq
    simp only [A170, B170_0, B170_13, B170_22, B170_23, false_imp_iff, true_imp_iff, not_false_eq_true, not_true_eq_false, true_and, and_true, implies_true, qn_self, rI_i, rJ_l, rV_n, okZ0, okZ1, o31 hn, s159 hn h2, vB_f hv, if_false, Bool.false_eq_true, eq_true nI_0]
    exact hq
theorem s174n (hn : 44 ≤ nx) (h : MT M ln is fc dn row nd) {x y z : Int32} (hv : ¬ (vl x ln ∧ vl y is)) (hQ : ∀ M', eqM M M' → Q (some (.int ng2)) M' N (P0 t e) nx) : aSem (d + 4) 174 [.ref 31, .int x, .int y, .int z] M N (P0 t e) nx Q := by
  have h2 := h.z (v := nI 0)
  have hq := hQ _ (eqM_z (v := nI 0))
  by_cases hx : vl x ln
  · simp only [A174, B174_0, B174_13, B174_21, false_imp_iff, true_imp_iff, not_false_eq_true, not_true_eq_false, true_and, and_true, implies_true, qn_self, rI_i, rJ_l, rV_n, okZ0, okZ1, o31 hn, s156 hn h2, s157 hn h2, vB_t hx, vB_f (fun q => hv ⟨hx, q⟩), if_true, if_false, Bool.false_eq_true, one0, eq_true nI_0]
    exact hq
  · simp only [A174, B174_0, B174_21, false_imp_iff, true_imp_iff, not_false_eq_true, not_true_eq_false, true_and, and_true, implies_true, qn_self, rI_i, rJ_l, rV_n, okZ0, okZ1, o31 hn, s156 hn h2, vB_f hx, if_false, Bool.false_eq_true, eq_true nI_0]
    exact hq
theorem s174 (hn : 44 ≤ nx) (h : MT M ln is fc dn row nd) {l i : Nat} {x : Int32} (hl : l < ln) (hi : i < is) (hQ : ∀ M', eqM M M' → Q (some (.int (rdA (road (nxM row i) (whM row i) l) x))) M' N (P0 t e) nx) : aSem (d + 4) 174 [.ref 31, .int (nI l), .int (nI i), .int x] M N (P0 t e) nx Q := by
  have c6 := h.2.2.2.2.2.2.1
  unfold wfC at c6
  have h2 := h.z (v := nI 0)
  have b1 : vB (nI l) ln = true := vB_t ((vl_nI (by omega)).mpr hl)
  have b2 : vB (nI i) is = true := vB_t ((vl_nI (by omega)).mpr hi)
  simp only [A174, B174_0, B174_13, B174_24, false_imp_iff, true_imp_iff, not_false_eq_true, not_true_eq_false, true_and, and_true, implies_true, qn_self, rI_i, rJ_l, rV_n, okZ0, okZ1, o31 hn, s156 hn h2, s157 hn h2, b1, b2, if_true, one0]
  refine s173 hn h2 hl hi (fun M1 he1 hk => ?_)
  have hq := hQ M1 (eqM_z.tr he1)
  have hlen := road_len (nxt := nxM row i) (wh := whM row i) (l := l)
  unfold rdA at hq
  simp only [false_imp_iff, true_imp_iff, not_false_eq_true, not_true_eq_false, true_and, and_true, implies_true, qn_self, rI_i, rJ_l, rV_n, okZ0, okZ1]
  refine ⟨fun hx => ?_, fun hx => ?_⟩
  · rw [if_neg hx] at hq
    simp only [B174_42, B174_67, B174_69, false_imp_iff, true_imp_iff, not_false_eq_true, not_true_eq_false, true_and, and_true, implies_true, qn_self, rI_i, rJ_l, rV_n, okZ0, okZ1, o31 hn, hk.1, s131, wi_vl (show (road (nxM row i) (whM row i) l).1.length < 2 ^ 31 by omega), vB_iff]
    by_cases hv : vl x (road (nxM row i) (whM row i) l).1.length
    · rw [if_pos (vB_t hv)] at hq
      simp only [vB_t hv, if_true, one0, false_imp_iff, true_imp_iff, not_false_eq_true, not_true_eq_false, true_and, and_true, implies_true, qn_self, rI_i, rJ_l, rV_n, okZ0, okZ1]
      obtain ⟨k, hk2, rfl⟩ := vl_of hv
      rw [iN_nI (by omega)] at hq
      simp only [B174_58, B174_69, false_imp_iff, true_imp_iff, not_false_eq_true, not_true_eq_false, true_and, and_true, implies_true, qn_self, rI_i, rJ_l, rV_n, okZ0, okZ1, o31 hn, exP (show P0 t e 31 25 = some 42 from rfl), x42 hn (show k < 8 by omega), hk.2.2.2 k hk2]
      exact hq
    · rw [if_neg (vB_f hv)] at hq
      simp only [vB_f hv, if_false, Bool.false_eq_true, eq_true nI_0, false_imp_iff, true_imp_iff, not_false_eq_true, not_true_eq_false, true_and, and_true, implies_true, qn_self, rI_i, rJ_l, rV_n, okZ0, okZ1]
      exact hq
  · rw [if_pos hx] at hq
    simp only [B174_35, B174_69, false_imp_iff, true_imp_iff, not_false_eq_true, not_true_eq_false, true_and, and_true, implies_true, qn_self, rI_i, rJ_l, rV_n, okZ0, okZ1, o31 hn, hk.1]
    exact hq
end MA2
