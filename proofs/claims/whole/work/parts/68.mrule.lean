/-! THE REFERENCE: rule -/
section MRU
variable {d : Nat} {M : aM} {N : aN} {P : aP} {t e nx ln is fc dn : Nat} {row nd : Nat → Nat} {Q : aQ}
theorem s130 (hn : 44 ≤ nx) : aSem (d + 1) 130 [.ref 31] M N (P0 t e) nx Q ↔ Q (some (.int (M 31 0))) M N (P0 t e) nx := by
  simp only [A130, B130_0, false_imp_iff, true_imp_iff, not_false_eq_true, not_true_eq_false, true_and, and_true, implies_true, qn_self, rI_i, rJ_l, rV_n, okZ0, okZ1, o31 hn]
theorem e167 (hn : 44 ≤ nx) {x y z : Int32} (hQ : ∀ M', eqM M M' → M' 31 0 = nI 1 → Q (some (.int (nI 0))) M' N (P0 t e) nx) : WP (aSem (d + 3)) g0 167 nx (qn nx Q) 33 [(0, .ref 31), (1, .int x), (2, .int y), (3, .int z)] [.ref 31] M N (P0 t e) nx := by
  simp only [B167_33, B167_34, B167_45, false_imp_iff, true_imp_iff, not_false_eq_true, not_true_eq_false, true_and, and_true, implies_true, qn_self, rI_i, rJ_l, rV_n, okZ0, okZ1, o31 hn, uM_k]
  exact hQ _ eqM_z uM_k
theorem s167n (hn : 44 ≤ nx) (h : MT M ln is fc dn row nd) {x y z : Int32} (hv : ¬ ((vl x ln ∧ vl y is) ∧ vl z 3)) (hQ : ∀ M', eqM M M' → M' 31 0 = nI 1 → Q (some (.int (nI 0))) M' N (P0 t e) nx) : aSem (d + 4) 167 [.ref 31, .int x, .int y, .int z] M N (P0 t e) nx Q := by
  by_cases hx : vl x ln
  · by_cases hy : vl y is
    · have hz : ¬ vl z (2 + 1) := fun q => hv ⟨⟨hx, hy⟩, q⟩
      simp only [A167, B167_0, B167_9, B167_17, false_imp_iff, true_imp_iff, not_false_eq_true, not_true_eq_false, true_and, and_true, implies_true, qn_self, rI_i, rJ_l, rV_n, okZ0, okZ1, o31 hn, s156 hn h, s157 hn h, vB_t hx, vB_t hy, if_true, one0, s131, wi_c (show 2 < 2 ^ 31 by decide), vB_iff, vB_f hz, if_false, Bool.false_eq_true, eq_true nI_0]
      exact e167 hn hQ
    · simp only [A167, B167_0, B167_9, false_imp_iff, true_imp_iff, not_false_eq_true, not_true_eq_false, true_and, and_true, implies_true, qn_self, rI_i, rJ_l, rV_n, okZ0, okZ1, o31 hn, s156 hn h, s157 hn h, vB_t hx, vB_f hy, if_true, one0, if_false, Bool.false_eq_true, eq_true nI_0]
      exact e167 hn hQ
  · simp only [A167, B167_0, false_imp_iff, true_imp_iff, not_false_eq_true, not_true_eq_false, true_and, and_true, implies_true, qn_self, rI_i, rJ_l, rV_n, okZ0, okZ1, o31 hn, s156 hn h, vB_f hx, if_false, Bool.false_eq_true, eq_true nI_0]
    exact e167 hn hQ
theorem s167 (hn : 44 ≤ nx) (h : MT M ln is fc dn row nd) {l i k : Nat} (hl : l < ln) (hi : i < is) (hk : k < 3) (hQ : ∀ M', eqM M M' → M' 31 0 = nI 0 → Q (some (.int (ruV row l i (nI k)))) M' N (P0 t e) nx) : aSem (d + 4) 167 [.ref 31, .int (nI l), .int (nI i), .int (nI k)] M N (P0 t e) nx Q := by
  have c6 := h.2.2.2.2.2.2.1
  unfold wfC at c6
  have h2 := h.z (v := nI 0)
  have b1 : vB (nI l) ln = true := vB_t ((vl_nI (by omega)).mpr hl)
  have b2 : vB (nI i) is = true := vB_t ((vl_nI (by omega)).mpr hi)
  have b3 : vB (nI k) (2 + 1) = true := vB_t ((vl_nI (by omega)).mpr hk)
  have e01 : ¬ nI 0 = nI 1 := by decide +kernel
  have hq := hQ _ (eqM_z (v := nI 0)) uM_k
  have hb := ru_b h hl hi
  unfold ruV at hq
  simp only [A167, B167_0, B167_9, B167_17, B167_29, B167_34, false_imp_iff, true_imp_iff, not_false_eq_true, not_true_eq_false, true_and, and_true, implies_true, qn_self, rI_i, rJ_l, rV_n, okZ0, okZ1, o31 hn, s156 hn h, s157 hn h, b1, b2, if_true, one0, s131, wi_c (show 2 < 2 ^ 31 by decide), vB_iff, b3, uM_k, e01]
  simp only [B167_47, B167_60, B167_98, false_imp_iff, true_imp_iff, not_false_eq_true, not_true_eq_false, true_and, and_true, implies_true, qn_self, rI_i, rJ_l, rV_n, okZ0, okZ1, o31 hn, s160 hn h2 hl hi, nI_z (show ruM row i l < 2 ^ 31 by omega)]
  refine ⟨fun q => ?_, fun q => ?_⟩
  · rw [if_neg q] at hq
    have hf := ru_f h hl hi q
    have e1 : oI (nxM row i l) = nI (row (6 + (ruM row i l - 1) / 2)) := by
      have : nxM row i l = row (6 + (ruM row i l - 1) / 2) + 1 := if_neg q
      rw [this, oI_s (by omega)]; rfl
    simp only [B167_65, B167_69, B167_78, B167_83, B167_92, B167_98, false_imp_iff, true_imp_iff, not_false_eq_true, not_true_eq_false, true_and, and_true, implies_true, qn_self, rI_i, rJ_l, rV_n, okZ0, okZ1, two0, nI_sub (show 1 ≤ ruM row i l by omega), dvI (ruM row i l - 1) (by omega), mdI (ruM row i l - 1) (by omega), e0I (x := nI k), o31 hn, s165 hn h2 hl hi, e1]
    refine ⟨fun q0 => ⟨fun q1 => ?_, fun q1 => ?_⟩, fun q0 => ?_⟩
    · rw [if_neg q0, if_neg q1] at hq; exact hq
    · rw [if_neg q0, if_pos q1] at hq; exact hq
    · rw [if_pos q0] at hq; exact hq
  · rw [if_pos q] at hq; exact hq
end MRU
