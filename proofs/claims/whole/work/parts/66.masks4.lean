/-! THE REFERENCE: trapped, loops -/
section MA4
variable {d : Nat} {M : aM} {N : aN} {P : aP} {t e nx ln is fc dn : Nat} {row nd : Nat → Nat} {Q : aQ}
theorem l176 (hn : 44 ≤ nx) (h : MT M ln is fc dn row nd) {i z : Nat} (hi : i < is) (hQ : ∀ M', eqM M M' → Q (some (.int (nI z))) M' N (P0 t e) nx) : ∀ n l c M', l + n = ln → c < 2 ^ l → eqM M M' → c + bitF (fun x => (road (nxM row i) (whM row i) x).2.1 == 3) l n = z → WP (aSem (d + 3)) g0 176 nx (qn nx Q) 19 [(0, .ref 31), (1, .int (nI i)), (2, .int (nI c)), (3, .int (nI l))] [] M' N (P0 t e) nx := by
  have c6 := h.2.2.2.2.2.2.1
  unfold wfC at c6
  intro n
  induction n with
  | zero =>
    intro l c M' hl hc he hz
    simp only [B176_19, B176_59, false_imp_iff, true_imp_iff, not_false_eq_true, not_true_eq_false, true_and, and_true, implies_true, qn_self, rI_i, rJ_l, rV_n, okZ0, okZ1, o31 hn, exP (show P0 t e 31 13 = some 33 from rfl), x33 hn (show 0 < 8 by decide), (h.m he).1, nI_le (show ln ≤ l by omega) (show l < 2 ^ 31 by omega)]
    have hz2 : c = z := hz
    rw [hz2]
    exact hQ M' he
  | succ n ih =>
    intro l c M' hl hc he hz
    have hpw : 2 ^ (l + 1) = 2 * 2 ^ l := by rw [Nat.pow_succ]; omega
    have h32 := pow6 (show l < 6 by omega)
    simp only [B176_19, false_imp_iff, true_imp_iff, not_false_eq_true, not_true_eq_false, true_and, and_true, implies_true, qn_self, rI_i, rJ_l, rV_n, okZ0, okZ1, o31 hn, exP (show P0 t e 31 13 = some 33 from rfl), x33 hn (show 0 < 8 by decide), (h.m he).1, nI_ge (show l < ln by omega) (show ln < 2 ^ 31 by omega)]
    simp only [B176_29, false_imp_iff, true_imp_iff, not_false_eq_true, not_true_eq_false, true_and, and_true, implies_true, qn_self, rI_i, rJ_l, rV_n, okZ0, okZ1, o31 hn]
    refine s173 hn (h.m he) (show l < ln by omega) hi (fun M2 he2 hk => ?_)
    have h9 := road_how (nxt := nxM row i) (wh := whM row i) (l := l)
    have hz2 : c + ((if ((road (nxM row i) (whM row i) l).2.1 == 3) = true then 2 ^ l else 0) + bitF (fun x => (road (nxM row i) (whM row i) x).2.1 == 3) (l + 1) n) = z := hz
    simp only [false_imp_iff, true_imp_iff, not_false_eq_true, not_true_eq_false, true_and, and_true, implies_true, qn_self, rI_i, rJ_l, rV_n, okZ0, okZ1, o31 hn, hk.2.1, nI_eq (show (road (nxM row i) (whM row i) l).2.1 < 2 ^ 31 by omega) (show 3 < 2 ^ 31 by decide)]
    refine ⟨fun q => ?_, fun q => ?_⟩
    · rw [if_neg (by simpa using q), Nat.zero_add] at hz2
      simp only [B176_50, B176_51, or6z c (by omega), nI_add]
      exact ih (l + 1) c M2 (by omega) (by omega) (he.tr he2) hz2
    · rw [if_pos (by simpa using q), ← Nat.add_assoc] at hz2
      simp only [B176_44, B176_51, or6 l (by omega) c hc, nI_add]
      exact ih (l + 1) (c + 2 ^ l) M2 (by omega) (by omega) (he.tr he2) hz2
theorem s176 (hn : 44 ≤ nx) (h : MT M ln is fc dn row nd) {i : Nat} (hi : i < is) (hQ : ∀ M', eqM M M' → Q (some (.int (nI (bitF (fun x => (road (nxM row i) (whM row i) x).2.1 == 3) 0 ln)))) M' N (P0 t e) nx) : aSem (d + 4) 176 [.ref 31, .int (nI i)] M N (P0 t e) nx Q := by
  have c6 := h.2.2.2.2.2.2.1
  unfold wfC at c6
  have h2 := h.z (v := nI 0)
  have b2 : vB (nI i) is = true := vB_t ((vl_nI (by omega)).mpr hi)
  simp only [A176, B176_0, B176_15, false_imp_iff, true_imp_iff, not_false_eq_true, not_true_eq_false, true_and, and_true, implies_true, qn_self, rI_i, rJ_l, rV_n, okZ0, okZ1, o31 hn, s157 hn h2, b2, if_true, one0]
  exact l176 hn h2 hi (fun M' he => hQ M' (eqM_z.tr he)) ln 0 0 _ (by omega) (by decide) eqM.rf (by omega)
theorem s176n (hn : 44 ≤ nx) (h : MT M ln is fc dn row nd) {x : Int32} (hv : ¬ vl x is) (hQ : ∀ M', eqM M M' → Q (some (.int ng1)) M' N (P0 t e) nx) : aSem (d + 4) 176 [.ref 31, .int x] M N (P0 t e) nx Q := by
  have h2 := h.z (v := nI 0)
  simp only [A176, B176_0, B176_13, false_imp_iff, true_imp_iff, not_false_eq_true, not_true_eq_false, true_and, and_true, implies_true, qn_self, rI_i, rJ_l, rV_n, okZ0, okZ1, o31 hn, s157 hn h2, vB_f hv, if_false, Bool.false_eq_true, eq_true nI_0]
  exact hQ _ eqM_z
end MA4
