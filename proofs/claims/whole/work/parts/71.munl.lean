/-! THE REFERENCE: unlike -/
section MUN
variable {d : Nat} {M : aM} {N : aN} {P : aP} {t e nx ln is fc dn : Nat} {row nd : Nat → Nat} {Q : aQ}
theorem l186 (hn : 44 ≤ nx) (h : MT M ln is fc dn row nd) {l i z : Nat} (hl : l < ln) (hi : i < is) (hQ : ∀ M', eqM M M' → Q (some (.int (nI z))) M' N (P0 t e) nx) : ∀ n y c M', y + n = 5 → c < 2 ^ y → eqM M M' → c + bitF (fun y => !(comesM (nxM row i) (whM row i) row l y == comesM (nxM row i) (whM row i) row l 2)) y n = z → WP (aSem (d + 5)) g0 186 nx (qn nx Q) 28 [(0, .ref 31), (1, .int (nI l)), (2, .int (nI i)), (3, .int (nI c)), (4, .int (nI y))] [] M' N (P0 t e) nx := by
  have c6 := h.2.2.2.2.2.2.1
  unfold wfC at c6
  have hp := nxM_ok h.2.2.2.2.2.2.2.1 c6.1 c6.2.1 hi
  intro n
  induction n with
  | zero =>
    intro y c M' hy hc he hz
    simp only [B186_28, B186_69, false_imp_iff, true_imp_iff, not_false_eq_true, not_true_eq_false, true_and, and_true, implies_true, qn_self, rI_i, rJ_l, rV_n, okZ0, okZ1, nI_le (show 5 ≤ y by omega) (show y < 2 ^ 31 by omega)]
    have hz2 : c = z := hz
    rw [hz2]
    exact hQ M' he
  | succ n ih =>
    intro y c M' hy hc he hz
    have hpw : 2 ^ (y + 1) = 2 * 2 ^ y := by rw [Nat.pow_succ]; omega
    have h32 := pow6 (show y < 6 by omega)
    simp only [B186_28, false_imp_iff, true_imp_iff, not_false_eq_true, not_true_eq_false, true_and, and_true, implies_true, qn_self, rI_i, rJ_l, rV_n, okZ0, okZ1, nI_ge (show y < 5 by omega) (show 5 < 2 ^ 31 by decide)]
    simp only [B186_34, false_imp_iff, true_imp_iff, not_false_eq_true, not_true_eq_false, true_and, and_true, implies_true, qn_self, rI_i, rJ_l, rV_n, okZ0, okZ1, o31 hn]
    refine s180 hn (h.m he) hl hi (show y ≤ 4 by omega) (fun M2 he2 => ?_)
    simp only [false_imp_iff, true_imp_iff, not_false_eq_true, not_true_eq_false, true_and, and_true, implies_true, qn_self, rI_i, rJ_l, rV_n, okZ0, okZ1, o31 hn]
    refine s180 hn (h.m (he.tr he2)) hl hi (show 2 ≤ 4 by decide) (fun M3 he3 => ?_)
    have b1 : comesM (nxM row i) (whM row i) row l y < ln := comesM_lt hp hl
    have b2 : comesM (nxM row i) (whM row i) row l 2 < ln := comesM_lt hp hl
    simp only [false_imp_iff, true_imp_iff, not_false_eq_true, not_true_eq_false, true_and, and_true, implies_true, qn_self, rI_i, rJ_l, rV_n, okZ0, okZ1, nI_eq (show comesM (nxM row i) (whM row i) row l y < 2 ^ 31 by omega) (show comesM (nxM row i) (whM row i) row l 2 < 2 ^ 31 by omega)]
    have hz2 : c + ((if (!(comesM (nxM row i) (whM row i) row l y == comesM (nxM row i) (whM row i) row l 2)) = true then 2 ^ y else 0) + bitF (fun y => !(comesM (nxM row i) (whM row i) row l y == comesM (nxM row i) (whM row i) row l 2)) (y + 1) n) = z := hz
    refine ⟨fun q => ?_, fun q => ?_⟩
    · rw [if_neg (by simp [q]), Nat.zero_add] at hz2
      simp only [B186_60, B186_61, or6z c (by omega), nI_add]
      exact ih (y + 1) c M3 (by omega) (by omega) (he.tr (he2.tr he3)) hz2
    · rw [if_pos (by simp [q]), ← Nat.add_assoc] at hz2
      simp only [B186_53, B186_61, or6 y (by omega) c hc, nI_add]
      exact ih (y + 1) (c + 2 ^ y) M3 (by omega) (by omega) (he.tr (he2.tr he3)) hz2
theorem s186 (hn : 44 ≤ nx) (h : MT M ln is fc dn row nd) {l i : Nat} (hl : l < ln) (hi : i < is) (hQ : ∀ M', eqM M M' → Q (some (.int (nI (bitF (fun y => !(comesM (nxM row i) (whM row i) row l y == comesM (nxM row i) (whM row i) row l 2)) 0 5)))) M' N (P0 t e) nx) : aSem (d + 6) 186 [.ref 31, .int (nI l), .int (nI i)] M N (P0 t e) nx Q := by
  have c6 := h.2.2.2.2.2.2.1
  unfold wfC at c6
  have h2 := h.z (v := nI 0)
  have b1 : vB (nI l) ln = true := vB_t ((vl_nI (by omega)).mpr hl)
  have b2 : vB (nI i) is = true := vB_t ((vl_nI (by omega)).mpr hi)
  simp only [A186, B186_0, B186_13, B186_23, false_imp_iff, true_imp_iff, not_false_eq_true, not_true_eq_false, true_and, and_true, implies_true, qn_self, rI_i, rJ_l, rV_n, okZ0, okZ1, o31 hn, s156 hn h2, s157 hn h2, b1, b2, if_true, one0]
  exact l186 hn h2 hl hi (fun M' he => hQ M' (eqM_z.tr he)) 5 0 0 _ (by omega) (by decide) eqM.rf (by omega)
theorem s186n (hn : 44 ≤ nx) (h : MT M ln is fc dn row nd) {x y : Int32} (hv : ¬ (vl x ln ∧ vl y is)) (hQ : ∀ M', eqM M M' → Q (some (.int ng1)) M' N (P0 t e) nx) : aSem (d + 6) 186 [.ref 31, .int x, .int y] M N (P0 t e) nx Q := by
  have h2 := h.z (v := nI 0)
  have hq := hQ _ (eqM_z (v := nI 0))
  by_cases hx : vl x ln
  · simp only [A186, B186_0, B186_13, B186_21, false_imp_iff, true_imp_iff, not_false_eq_true, not_true_eq_false, true_and, and_true, implies_true, qn_self, rI_i, rJ_l, rV_n, okZ0, okZ1, o31 hn, s156 hn h2, s157 hn h2, vB_t hx, vB_f (fun q => hv ⟨hx, q⟩), if_true, if_false, Bool.false_eq_true, one0, eq_true nI_0]
    exact hq
  · simp only [A186, B186_0, B186_21, false_imp_iff, true_imp_iff, not_false_eq_true, not_true_eq_false, true_and, and_true, implies_true, qn_self, rI_i, rJ_l, rV_n, okZ0, okZ1, o31 hn, s156 hn h2, vB_f hx, if_false, Bool.false_eq_true, eq_true nI_0]
    exact hq
end MUN
