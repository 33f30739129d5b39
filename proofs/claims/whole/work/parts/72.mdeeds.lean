/-! THE REFERENCE: deeds -/
section MDE
variable {d : Nat} {M : aM} {N : aN} {P : aP} {t e nx ln is fc dn : Nat} {row nd : Nat → Nat} {Q : aQ}
theorem l190 (hn : 44 ≤ nx) (h : MT M ln is fc dn row nd) {k l : Nat} (hk : k < dn) (hl : l < ln) (hQ : ∀ M', eqM M M' → Q (some (.int (if stB row (nd k) is l = true then nI 1 else nI 0))) M' N (P0 t e) nx) : ∀ n i M', i + n = is → eqM M M' → stD row (nd k) i l → WP (aSem (d + 7)) g0 190 nx (qn nx Q) 2 [(0, .ref 31), (1, .int (nI k)), (2, .int (nI l)), (3, .int (nI i))] [] M' N (P0 t e) nx := by
  have c6 := h.2.2.2.2.2.2.1
  unfold wfC at c6
  have h64 := h.2.2.2.2.2.2.2.2 k hk
  intro n
  induction n with
  | zero =>
    intro i M' hi he hS
    simp only [B190_2, B190_43, false_imp_iff, true_imp_iff, not_false_eq_true, not_true_eq_false, true_and, and_true, implies_true, qn_self, rI_i, rJ_l, rV_n, okZ0, okZ1, o31 hn, exP (show P0 t e 31 13 = some 33 from rfl), x33 hn (show 1 < 8 by decide), (h.m he).2.1, nI_le (show is ≤ i by omega) (show i < 2 ^ 31 by omega)]
    have hq := hQ M' he
    rw [show i = is by omega] at hS
    rw [if_pos (stB_t.mpr hS)] at hq
    exact hq
  | succ n ih =>
    intro i M' hi he hS
    have h1 := h.m he
    simp only [B190_2, false_imp_iff, true_imp_iff, not_false_eq_true, not_true_eq_false, true_and, and_true, implies_true, qn_self, rI_i, rJ_l, rV_n, okZ0, okZ1, o31 hn, exP (show P0 t e 31 13 = some 33 from rfl), x33 hn (show 1 < 8 by decide), h1.2.1, nI_ge (show i < is by omega) (show is < 2 ^ 31 by omega)]
    simp only [B190_12, false_imp_iff, true_imp_iff, not_false_eq_true, not_true_eq_false, true_and, and_true, implies_true, qn_self, rI_i, rJ_l, rV_n, okZ0, okZ1, o31 hn, exP (show P0 t e 31 15 = some 35 from rfl), x35 hn (show k < 16 by omega), h1.2.2.2.2.2.1 k hk, bt64 i (by omega) (nd k) h64]
    refine ⟨fun q => ?_, fun q => ?_⟩
    · simp only [B190_37, nI_add]
      refine ih (i + 1) M' (by omega) he (fun i' h' hb' => ?_)
      by_cases z : i' = i
      · subst z; exact absurd hb' q
      · exact hS i' (by omega) hb'
    · simp only [B190_26, false_imp_iff, true_imp_iff, not_false_eq_true, not_true_eq_false, true_and, and_true, implies_true, qn_self, rI_i, rJ_l, rV_n, okZ0, okZ1, o31 hn]
      refine s182 hn h1 hl (show i < is by omega) (fun M2 he2 => ?_)
      have hlt : ownLand row i l < ln := comesM_lt (nxM_ok h.2.2.2.2.2.2.2.1 c6.1 c6.2.1 (by omega)) hl
      have b9 : ownAns row i l ≤ 99 := h.2.2.2.2.2.2.2.1.2.2.2.1 _ (by omega) (by omega)
      simp only [false_imp_iff, true_imp_iff, not_false_eq_true, not_true_eq_false, true_and, and_true, implies_true, qn_self, rI_i, rJ_l, rV_n, okZ0, okZ1, nI_z (show ownAns row i l < 2 ^ 31 by omega), B190_35, B190_37, nI_add]
      refine ⟨fun z => ?_, fun z => ?_⟩
      · refine ih (i + 1) M2 (by omega) (he.tr he2) (fun i' h' hb' => ?_)
        by_cases w : i' = i
        · subst w; exact z
        · exact hS i' (by omega) hb'
      · have hq := hQ M2 (he.tr he2)
        rw [if_neg (fun w => (stB_t.mp w) i (by omega) q z)] at hq
        exact hq
theorem s190 (hn : 44 ≤ nx) (h : MT M ln is fc dn row nd) {k l : Nat} (hk : k < dn) (hl : l < ln) (hQ : ∀ M', eqM M M' → Q (some (.int (if stB row (nd k) is l = true then nI 1 else nI 0))) M' N (P0 t e) nx) : aSem (d + 8) 190 [.ref 31, .int (nI k), .int (nI l)] M N (P0 t e) nx Q := by
  simp only [A190, B190_0]
  exact l190 hn h hk hl hQ is 0 M (by omega) eqM.rf (fun i h => by omega)
theorem l191 (hn : 44 ≤ nx) (h : MT M ln is fc dn row nd) {k z : Nat} (hk : k < dn) (hQ : ∀ M', eqM M M' → Q (some (.int (nI z))) M' N (P0 t e) nx) : ∀ n l c M', l + n = ln → c < 2 ^ l → eqM M M' → c + bitF (fun l => stB row (nd k) is l) l n = z → WP (aSem (d + 8)) g0 191 nx (qn nx Q) 4 [(0, .ref 31), (1, .int (nI k)), (2, .int (nI c)), (3, .int (nI l))] [] M' N (P0 t e) nx := by
  have c6 := h.2.2.2.2.2.2.1
  unfold wfC at c6
  intro n
  induction n with
  | zero =>
    intro l c M' hl hc he hz
    simp only [B191_4, B191_39, false_imp_iff, true_imp_iff, not_false_eq_true, not_true_eq_false, true_and, and_true, implies_true, qn_self, rI_i, rJ_l, rV_n, okZ0, okZ1, o31 hn, exP (show P0 t e 31 13 = some 33 from rfl), x33 hn (show 0 < 8 by decide), (h.m he).1, nI_le (show ln ≤ l by omega) (show l < 2 ^ 31 by omega)]
    have hz2 : c = z := hz
    rw [hz2]
    exact hQ M' he
  | succ n ih =>
    intro l c M' hl hc he hz
    have hpw : 2 ^ (l + 1) = 2 * 2 ^ l := by rw [Nat.pow_succ]; omega
    have h32 := pow6 (show l < 6 by omega)
    simp only [B191_4, false_imp_iff, true_imp_iff, not_false_eq_true, not_true_eq_false, true_and, and_true, implies_true, qn_self, rI_i, rJ_l, rV_n, okZ0, okZ1, o31 hn, exP (show P0 t e 31 13 = some 33 from rfl), x33 hn (show 0 < 8 by decide), (h.m he).1, nI_ge (show l < ln by omega) (show ln < 2 ^ 31 by omega)]
    simp only [B191_14, false_imp_iff, true_imp_iff, not_false_eq_true, not_true_eq_false, true_and, and_true, implies_true, qn_self, rI_i, rJ_l, rV_n, okZ0, okZ1, o31 hn]
    refine s190 hn (h.m he) hk (show l < ln by omega) (fun M2 he2 => ?_)
    have hz2 : c + ((if stB row (nd k) is l = true then 2 ^ l else 0) + bitF (fun l => stB row (nd k) is l) (l + 1) n) = z := hz
    by_cases q : stB row (nd k) is l = true
    · rw [if_pos q, ← Nat.add_assoc] at hz2
      simp only [q, if_true, one0, false_imp_iff, true_imp_iff, not_false_eq_true, not_true_eq_false, true_and, and_true, implies_true, qn_self, rI_i, rJ_l, rV_n, okZ0, okZ1, B191_24, B191_31, or6 l (by omega) c hc, nI_add]
      exact ih (l + 1) (c + 2 ^ l) M2 (by omega) (by omega) (he.tr he2) hz2
    · rw [if_neg q, Nat.zero_add] at hz2
      simp only [q, if_false, Bool.false_eq_true, eq_true nI_0, false_imp_iff, true_imp_iff, not_false_eq_true, not_true_eq_false, true_and, and_true, implies_true, qn_self, rI_i, rJ_l, rV_n, okZ0, okZ1, B191_30, B191_31, or6z c (by omega), nI_add]
      exact ih (l + 1) c M2 (by omega) (by omega) (he.tr he2) hz2
theorem s191 (hn : 44 ≤ nx) (h : MT M ln is fc dn row nd) {k : Nat} (hk : k < dn) (hQ : ∀ M', eqM M M' → Q (some (.int (nI (whB row (nd k) is ln)))) M' N (P0 t e) nx) : aSem (d + 9) 191 [.ref 31, .int (nI k)] M N (P0 t e) nx Q := by
  simp only [A191, B191_0]
  exact l191 hn h hk hQ ln 0 0 M (by omega) (by decide) eqM.rf (by unfold whB; omega)
theorem s192 (hn : 44 ≤ nx) (h : MT M ln is fc dn row nd) : aSem (d + 1) 192 [.ref 31] M N (P0 t e) nx Q ↔ Q (some (.int (nI (2 ^ ln - 1)))) M N (P0 t e) nx := by
  have c6 := h.2.2.2.2.2.2.1
  unfold wfC at c6
  simp only [A192, B192_0, false_imp_iff, true_imp_iff, not_false_eq_true, not_true_eq_false, true_and, and_true, implies_true, qn_self, rI_i, rJ_l, rV_n, okZ0, okZ1, o31 hn, exP (show P0 t e 31 13 = some 33 from rfl), x33 hn (show 0 < 8 by decide), h.1, pw6 ln (by omega)]
end MDE
