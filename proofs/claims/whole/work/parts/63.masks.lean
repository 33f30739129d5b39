/-! THE REFERENCE: what is asked -/
theorem e0I {x : Int32} : (x = 0) ↔ x = nI 0 := by rw [nI_0]
section MAS
variable {d : Nat} {M : aM} {N : aN} {P : aP} {t e nx ln is fc dn : Nat} {row nd : Nat → Nat} {Q : aQ}
theorem MT.z (h : MT M ln is fc dn row nd) {v : Int32} : MT (uM M 31 0 v) ln is fc dn row nd := h.m (eqM.rf.u (Or.inl rfl))
theorem eqM_z {v : Int32} : eqM M (uM M 31 0 v) := eqM.rf.u (Or.inl rfl)
theorem l161 (hn : 44 ≤ nx) (h : MT M ln is fc dn row nd) {l : Nat} (hl : l < ln) : ∀ n i c, i + n = is → (WP (aSem d) g0 161 nx (qn nx Q) 4 [(0, .ref 31), (1, .int (nI l)), (2, .int (nI c)), (3, .int (nI i))] [] M N (P0 t e) nx ↔ Q (some (.int (nI (c + cntF (hasR row l) i n)))) M N (P0 t e) nx) := by
  have c6 := h.2.2.2.2.2.2.1
  unfold wfC at c6
  intro n
  induction n with
  | zero =>
    intro i c hi
    simp only [B161_4, B161_45, false_imp_iff, true_imp_iff, not_false_eq_true, not_true_eq_false, true_and, and_true, implies_true, qn_self, rI_i, rJ_l, rV_n, okZ0, okZ1, o31 hn, exP (show P0 t e 31 13 = some 33 from rfl), x33 hn (show 1 < 8 by decide), h.2.1, nI_le (show is ≤ i by omega) (show i < 2 ^ 31 by omega), cntF, Nat.add_zero]
  | succ n ih =>
    intro i c hi
    have hb := h.2.2.2.2.2.2.2.1.2.2.1 (11 + (6 * l + i)) (by omega) (by omega)
    simp only [B161_4, false_imp_iff, true_imp_iff, not_false_eq_true, not_true_eq_false, true_and, and_true, implies_true, qn_self, rI_i, rJ_l, rV_n, okZ0, okZ1, o31 hn, exP (show P0 t e 31 13 = some 33 from rfl), x33 hn (show 1 < 8 by decide), h.2.1, nI_ge (show i < is by omega) (show is < 2 ^ 31 by omega)]
    simp only [B161_14, B161_32, B161_36, B161_37, false_imp_iff, true_imp_iff, not_false_eq_true, not_true_eq_false, true_and, and_true, implies_true, qn_self, rI_i, rJ_l, rV_n, okZ0, okZ1, o31 hn, exP (show P0 t e 31 16 = some 36 from rfl), m3, x36 hn (show 11 + (6 * l + i) < 89 by omega), h.2.2.2.2.1 (11 + (6 * l + i)) (by omega), nI_lez (show row (11 + (6 * l + i)) < 2 ^ 31 by omega), nI_add, ih (i + 1) _ (by omega)]
    have hs : cntF (hasR row l) i (n + 1) = (if hasR row l i = true then 1 else 0) + cntF (hasR row l) (i + 1) n := rfl
    rw [hs]
    by_cases h0 : row (11 + (6 * l + i)) = 0
    · rw [if_neg (fun q => (hasR_t.mp q) h0)]
      simp only [h0, false_imp_iff, true_imp_iff, not_false_eq_true, not_true_eq_false, true_and, and_true, implies_true, qn_self, rI_i, rJ_l, rV_n, okZ0, okZ1, Nat.add_zero, Nat.zero_add]
    · rw [if_pos (hasR_t.mpr h0), ← Nat.add_assoc c 1]
      exact ⟨fun q => q.2 h0, fun q => ⟨fun z => absurd z h0, fun _ => q⟩⟩
theorem s161 (hn : 44 ≤ nx) (h : MT M ln is fc dn row nd) {l : Nat} (hl : l < ln) : aSem (d + 1) 161 [.ref 31, .int (nI l)] M N (P0 t e) nx Q ↔ Q (some (.int (nI (cntF (hasR row l) 0 is)))) M N (P0 t e) nx := by
  simp only [A161, B161_0]
  rw [l161 hn h hl is 0 0 (by omega), Nat.zero_add]
theorem or6z : ∀ b, b < 64 → nI b ||| nI 0 = nI b := by decide +kernel
theorem l162 (hn : 44 ≤ nx) (h : MT M ln is fc dn row nd) {l : Nat} (hl : l < ln) : ∀ n i c, i + n = is → c < 2 ^ i → (WP (aSem (d + 1)) g0 162 nx (qn nx Q) 4 [(0, .ref 31), (1, .int (nI l)), (2, .int (nI c)), (3, .int (nI i))] [] M N (P0 t e) nx ↔ Q (some (.int (nI (c + bitF (fun i => hasR row l (row (83 + i))) i n)))) M N (P0 t e) nx) := by
  have c6 := h.2.2.2.2.2.2.1
  unfold wfC at c6
  intro n
  induction n with
  | zero =>
    intro i c hi hc
    simp only [B162_4, B162_39, false_imp_iff, true_imp_iff, not_false_eq_true, not_true_eq_false, true_and, and_true, implies_true, qn_self, rI_i, rJ_l, rV_n, okZ0, okZ1, o31 hn, exP (show P0 t e 31 13 = some 33 from rfl), x33 hn (show 1 < 8 by decide), h.2.1, nI_le (show is ≤ i by omega) (show i < 2 ^ 31 by omega), bitF, Nat.add_zero]
  | succ n ih =>
    intro i c hi hc
    have hb := ru_b h hl (show i < is by omega)
    have hpw : 2 ^ (i + 1) = 2 * 2 ^ i := by rw [Nat.pow_succ]; omega
    have h32 := pow6 (show i < 6 by omega)
    simp only [B162_4, false_imp_iff, true_imp_iff, not_false_eq_true, not_true_eq_false, true_and, and_true, implies_true, qn_self, rI_i, rJ_l, rV_n, okZ0, okZ1, o31 hn, exP (show P0 t e 31 13 = some 33 from rfl), x33 hn (show 1 < 8 by decide), h.2.1, nI_ge (show i < is by omega) (show is < 2 ^ 31 by omega)]
    simp only [B162_14, false_imp_iff, true_imp_iff, not_false_eq_true, not_true_eq_false, true_and, and_true, implies_true, qn_self, rI_i, rJ_l, rV_n, okZ0, okZ1, o31 hn, s160 hn h hl (show i < is by omega), nI_lez (show ruM row i l < 2 ^ 31 by omega)]
    have hs : bitF (fun i => hasR row l (row (83 + i))) i (n + 1) = (if hasR row l (row (83 + i)) = true then 2 ^ i else 0) + bitF (fun i => hasR row l (row (83 + i))) (i + 1) n := rfl
    rw [hs]
    by_cases h0 : ruM row i l = 0
    · rw [if_neg (fun q => (hasR_t.mp q) h0), Nat.zero_add]
      simp only [h0, false_imp_iff, true_imp_iff, not_false_eq_true, not_true_eq_false, true_and, and_true, implies_true, qn_self, rI_i, rJ_l, rV_n, okZ0, okZ1, B162_30, B162_31, or6z c (by omega), nI_add]
      exact ih (i + 1) c (by omega) (by omega)
    · rw [if_pos (hasR_t.mpr h0), ← Nat.add_assoc c (2 ^ i)]
      simp only [h0, false_imp_iff, true_imp_iff, not_false_eq_true, not_true_eq_false, true_and, and_true, implies_true, qn_self, rI_i, rJ_l, rV_n, okZ0, okZ1, B162_24, B162_31, or6 i (by omega) c hc, nI_add]
      exact ih (i + 1) (c + 2 ^ i) (by omega) (by omega)
theorem s162 (hn : 44 ≤ nx) (h : MT M ln is fc dn row nd) {l : Nat} (hl : l < ln) : aSem (d + 2) 162 [.ref 31, .int (nI l)] M N (P0 t e) nx Q ↔ Q (some (.int (nI (bitF (fun i => hasR row l (row (83 + i))) 0 is)))) M N (P0 t e) nx := by
  simp only [A162, B162_0]
  rw [l162 hn h hl is 0 0 (by omega) (by decide), Nat.zero_add]
theorem s163 (hn : 44 ≤ nx) (h : MT M ln is fc dn row nd) {l : Nat} {w : Int32} (hl : l < ln) (hQ : ∀ M', eqM M M' → Q (some (.int (if w = nI 0 then nI (row l) else if w = nI 1 then nI (cntF (hasR row l) 0 is) else if w = nI 2 then nI (bitF (fun i => hasR row l (row (83 + i))) 0 is) else ng1))) M' N (P0 t e) nx) : aSem (d + 3) 163 [.ref 31, .int (nI l), .int w] M N (P0 t e) nx Q := by
  have c6 := h.2.2.2.2.2.2.1
  unfold wfC at c6
  have h2 := h.z (v := nI 0)
  have hv : vB (nI l) ln = true := vB_t ((vl_nI (by omega)).mpr hl)
  have hq := hQ _ (eqM_z (v := nI 0))
  simp only [A163, B163_0, B163_13, B163_15, B163_19, B163_28, B163_33, B163_41, B163_46, B163_54, B163_55, false_imp_iff, true_imp_iff, not_false_eq_true, not_true_eq_false, true_and, and_true, implies_true, qn_self, rI_i, rJ_l, rV_n, okZ0, okZ1, o31 hn, s156 hn h2, hv, if_true, one0, e0I (x := w), exP (show P0 t e 31 16 = some 36 from rfl), x36 hn (show l < 89 by omega), h2.2.2.2.2.1 l (by omega), s161 hn h2 hl, s162 hn h2 hl]
  refine ⟨fun q0 => ⟨fun q1 => ⟨fun q2 => ?_, fun q2 => ?_⟩, fun q1 => ?_⟩, fun q0 => ?_⟩
  · rw [if_neg q0, if_neg q1, if_neg q2] at hq; exact hq
  · rw [if_neg q0, if_neg q1, if_pos q2] at hq; exact hq
  · rw [if_neg q0, if_pos q1] at hq; exact hq
  · rw [if_pos q0] at hq; exact hq
theorem s163n (hn : 44 ≤ nx) (h : MT M ln is fc dn row nd) {x w : Int32} (hl : ¬ vl x ln) (hQ : ∀ M', eqM M M' → Q (some (.int ng1)) M' N (P0 t e) nx) : aSem (d + 3) 163 [.ref 31, .int x, .int w] M N (P0 t e) nx Q := by
  simp only [A163, B163_0, B163_13, false_imp_iff, true_imp_iff, not_false_eq_true, not_true_eq_false, true_and, and_true, implies_true, qn_self, rI_i, rJ_l, rV_n, okZ0, okZ1, o31 hn, s156 hn (h.z (v := nI 0)), vB_f hl, if_false, Bool.false_eq_true, eq_true nI_0]
  exact hQ _ eqM_z
theorem s164 (hn : 44 ≤ nx) (h : MT M ln is fc dn row nd) {x : Int32} (hQ : ∀ M', eqM M M' → Q (some (.int (if vB x fc = true then nI (row (6 + iN x)) else ng1))) M' N (P0 t e) nx) : aSem (d + 3) 164 [.ref 31, .int x] M N (P0 t e) nx Q := by
  have c6 := h.2.2.2.2.2.2.1
  unfold wfC at c6
  have h2 := h.z (v := nI 0)
  have hq := hQ _ (eqM_z (v := nI 0))
  by_cases hv : vl x fc
  · rw [if_pos (vB_t hv)] at hq
    have hb := vB_t hv
    obtain ⟨f, hf, rfl⟩ := vl_of hv
    rw [iN_nI (by omega)] at hq
    simp only [A164, B164_0, B164_13, B164_25, B164_26, false_imp_iff, true_imp_iff, not_false_eq_true, not_true_eq_false, true_and, and_true, implies_true, qn_self, rI_i, rJ_l, rV_n, okZ0, okZ1, o31 hn, s158 hn h2, hb, if_true, one0, exP (show P0 t e 31 16 = some 36 from rfl), show nI 6 + nI f = nI (6 + f) from nI_add 6 f, x36 hn (show 6 + f < 89 by omega), h2.2.2.2.2.1 (6 + f) (by omega)]
    exact hq
  · rw [if_neg (vB_f hv)] at hq
    simp only [A164, B164_0, B164_13, B164_25, B164_26, false_imp_iff, true_imp_iff, not_false_eq_true, not_true_eq_false, true_and, and_true, implies_true, qn_self, rI_i, rJ_l, rV_n, okZ0, okZ1, o31 hn, s158 hn h2, vB_f hv, if_false, Bool.false_eq_true, eq_true nI_0]
    exact hq
end MAS
