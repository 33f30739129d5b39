/-! TOLD: more of it -/
section TAD
variable {d : Nat} {M : aM} {N : aN} {t e nx o ln is fc dn : Nat} {row nd : Nat → Nat} {Q : aQ}
theorem s59 (hn : 44 ≤ nx) (ho : isT o) (hT : TD M o ln is fc dn row nd) (hc : wfC ln is fc dn) (h6 : ln < 6) {v : Nat} (hQ : ∀ M', eqT o M M' → TD M' o (ln + 1) is fc dn (va_up row ln v) nd → Q none M' N (P0 t e) nx) : aSem (d + 1) 59 [.ref o, .int (nI v)] M N (P0 t e) nx Q := by
  have h31 := lT ho
  have hS := hT.set ho (k := ln) (v := v) (by omega)
  rw [pi_th (by omega)] at hS
  simp only [A59, B59_0, B59_9, B59_31, false_imp_iff, true_imp_iff, not_false_eq_true, not_true_eq_false, true_and, and_true, implies_true, qn_self, rI_i, rJ_l, rV_n, okZ0, okZ1, oT hn ho, hT.1, nI_ge h6 (show 6 < 2 ^ 31 by decide), exP (pT0 ho), ad0, xT1 hn ho (show ln < 89 by omega), hS.1]
  simp only [nI_add]
  refine hQ _ (fun a h0 h1 h2 => by rw [uM_ne h0, uM_ne h1]) ⟨by rw [uM_k], by rw [uM_j (by decide)]; exact hS.2.1, by rw [uM_j (by decide)]; exact hS.2.2.1, by rw [uM_j (by decide)]; exact hS.2.2.2.1, fun k hk hk2 => by rw [uM_a (by omega)]; exact hS.2.2.2.2.1 k hk hk2, fun k hk => by rw [uM_a (by omega)]; exact hS.2.2.2.2.2 k hk⟩
theorem s60 (hn : 44 ≤ nx) (ho : isT o) (hT : TD M o ln is fc dn row nd) (hc : wfC ln is fc dn) (h6 : is < 6) (hr : row (83 + is) = is) (hQ : ∀ M', eqT o M M' → TD M' o ln (is + 1) fc dn row nd → Q none M' N (P0 t e) nx) : aSem (d + 1) 60 [.ref o] M N (P0 t e) nx Q := by
  have h31 := lT ho
  have hS := hT.set ho (k := 11 + is) (v := is) (by omega)
  rw [pi_hd h6, show va_up row (83 + is) is = row by funext j; by_cases q : j = 83 + is; subst q; rw [up_eq, hr]; rw [up_ne q]] at hS
  simp only [A60, B60_0, B60_9, B60_35, false_imp_iff, true_imp_iff, not_false_eq_true, not_true_eq_false, true_and, and_true, implies_true, qn_self, rI_i, rJ_l, rV_n, okZ0, okZ1, oT hn ho, hT.2.1, nI_ge h6 (show 6 < 2 ^ 31 by decide), exP (pT0 ho), nI_add, xT1 hn ho (show 11 + is < 89 by omega), hS.2.1]
  refine hQ _ (fun a h0 h1 h2 => by rw [uM_ne h0, uM_ne h1]) ⟨by rw [uM_j (by decide)]; exact hS.1, uM_k, by rw [uM_j (by decide)]; exact hS.2.2.1, by rw [uM_j (by decide)]; exact hS.2.2.2.1, fun k hk hk2 => ?_, fun k hk => by rw [uM_a (by omega)]; exact hS.2.2.2.2.2 k hk⟩
  rw [uM_a (by omega)]
  by_cases q : k = 11 + is
  · subst q; rw [uM_k, pi_hd h6, hr]
  · exact hS.2.2.2.2.1 k hk (by omega)
theorem s61 (hn : 44 ≤ nx) (ho : isT o) (hT : TD M o ln is fc dn row nd) (hc : wfC ln is fc dn) (h6 : fc < 5) {v : Nat} (hQ : ∀ M', eqT o M M' → TD M' o ln is (fc + 1) dn (va_up row (6 + fc) v) nd → Q none M' N (P0 t e) nx) : aSem (d + 1) 61 [.ref o, .int (nI v)] M N (P0 t e) nx Q := by
  have h31 := lT ho
  have hS := hT.set ho (k := 6 + fc) (v := v) (by omega)
  rw [pi_th (by omega)] at hS
  simp only [A61, B61_0, B61_8, B61_31, false_imp_iff, true_imp_iff, not_false_eq_true, not_true_eq_false, true_and, and_true, implies_true, qn_self, rI_i, rJ_l, rV_n, okZ0, okZ1, oT hn ho, hT.2.2.1, nI_ge h6 (show 5 < 2 ^ 31 by decide), exP (pT0 ho), nI_add, xT1 hn ho (show 6 + fc < 89 by omega), hS.2.2.1]
  refine hQ _ (fun a h0 h1 h2 => by rw [uM_ne h0, uM_ne h1]) ⟨by rw [uM_j (by decide)]; exact hS.1, by rw [uM_j (by decide)]; exact hS.2.1, uM_k, by rw [uM_j (by decide)]; exact hS.2.2.2.1, fun k hk hk2 => by rw [uM_a (by omega)]; exact hS.2.2.2.2.1 k hk hk2, fun k hk => by rw [uM_a (by omega)]; exact hS.2.2.2.2.2 k hk⟩
theorem s62 (hn : 44 ≤ nx) (ho : isT o) (hT : TD M o ln is fc dn row nd) (hc : wfC ln is fc dn) (h6 : dn < 5) {v : Nat} (hQ : ∀ M', eqT o M M' → TD M' o ln is fc (dn + 1) row (va_up nd dn v) → Q none M' N (P0 t e) nx) : aSem (d + 1) 62 [.ref o, .int (nI v)] M N (P0 t e) nx Q := by
  have h31 := lT ho
  simp only [A62, B62_0, B62_8, B62_28, false_imp_iff, true_imp_iff, not_false_eq_true, not_true_eq_false, true_and, and_true, implies_true, qn_self, rI_i, rJ_l, rV_n, okZ0, okZ1, oT hn ho, hT.2.2.2.1, nI_ge h6 (show 5 < 2 ^ 31 by decide), exP (pT1 ho), xT2 hn ho h6, uM_a (show o ≠ o + 2 by omega), nI_add]
  refine hQ _ (fun a h0 h1 h2 => by rw [uM_ne h0, uM_ne h2]) ⟨by rw [uM_j (by decide), uM_a (by omega)]; exact hT.1, by rw [uM_j (by decide), uM_a (by omega)]; exact hT.2.1, by rw [uM_j (by decide), uM_a (by omega)]; exact hT.2.2.1, uM_k, fun k hk hk2 => by rw [uM_a (by omega), uM_a (by omega)]; exact hT.2.2.2.2.1 k hk hk2, fun k hk => ?_⟩
  rw [uM_a (by omega)]
  by_cases q : k = dn
  · subst q; rw [uM_k, up_eq]
  · rw [uM_j q, up_ne q]; exact hT.2.2.2.2.2 k (by omega)
end TAD
/-! PAST -/
/-- row r of an array of rows holds this row -/
def rwA (f : Nat → Int32) (is r : Nat) (row : Nat → Nat) : Prop := ∀ k, k < 89 → (k < 11 + is ∨ 17 ≤ k) → f (r * 89 + k) = nI (row (piC k))
def PA (M : aM) (is u : Nat) (hs : Nat → Nat → Nat) (kp : Nat → Bool) (ks : Nat → Nat → Nat) : Prop :=
  ∃ p w, p < 12 ∧ u ≤ 12 ∧ M 25 2 = nI p ∧ M 25 4 = nI u ∧ (∀ j, j < u → rwA (M 26) is ((p + 12 - u + j) % 12) (hs j)) ∧ M 25 3 = nI w ∧ w < 4 ∧ (∀ k, k < 2 → (w / 2 ^ k % 2 = 1 ↔ kp k = true)) ∧ ∀ k, k < 2 → kp k = true → rwA (M 27) is k (ks k)
theorem PA.fr {M M' : aM} {is u : Nat} {hs : Nat → Nat → Nat} {kp : Nat → Bool} {ks : Nat → Nat → Nat} (h : PA M is u hs kp ks) (h1 : M' 25 = M 25) (h2 : M' 26 = M 26) (h3 : M' 27 = M 27) : PA M' is u hs kp ks := by
  unfold PA
  rw [h1, h2, h3]
  exact h
/-- one more act: the oldest of twelve is lost -/
def psU (u : Nat) : Nat := if u < 12 then u + 1 else 12
def psH (u : Nat) (hs : Nat → Nat → Nat) (row : Nat → Nat) : Nat → Nat → Nat := fun j => if u < 12 then (if j = u then row else hs j) else (if j = 11 then row else hs (j + 1))
section PAS
variable {d : Nat} {M : aM} {N : aN} {t e nx o ln is fc dn u : Nat} {row nd : Nat → Nat} {hs ks : Nat → Nat → Nat} {kp : Nat → Bool} {Q : aQ}
theorem TD.rw1 (hT : TD M o ln is fc dn row nd) (hT1 : True) {f : Nat → Int32} {r : Nat} : rwA (va_cpy (M (o + 1)) f 0 (r * 89) 89) is r row := by
  intro k hk hk2
  unfold va_cpy
  rw [if_pos (by omega), show 0 + (r * 89 + k - r * 89) = k by omega]
  exact hT.2.2.2.2.1 k hk hk2
theorem rwA.ne {f g : Nat → Int32} {r s : Nat} (h : rwA f is r row) (hrs : r ≠ s) : rwA (va_cpy g f 0 (s * 89) 89) is r row := by
  intro k hk hk2
  unfold va_cpy
  have : r < s ∨ s < r := by omega
  have h1 : r < s → r * 89 + 89 ≤ s * 89 := fun q => by
    have : (r + 1) * 89 ≤ s * 89 := Nat.mul_le_mul_right _ q
    rw [Nat.add_mul] at this; omega
  have h2 : s < r → s * 89 + 89 ≤ r * 89 := fun q => by
    have : (s + 1) * 89 ≤ r * 89 := Nat.mul_le_mul_right _ q
    rw [Nat.add_mul] at this; omega
  rw [if_neg (by omega)]
  exact h k hk hk2
theorem TD.load (ho : isT o) (hT : TD M o ln is fc dn row nd) {f : Nat → Int32} {r : Nat} {row2 : Nat → Nat} (h : rwA f is r row2) : TD (va_up M (o + 1) (va_cpy f (M (o + 1)) (r * 89) 0 89)) o ln is fc dn row2 nd := by
  refine ⟨by rw [up_ne (by omega)]; exact hT.1, by rw [up_ne (by omega)]; exact hT.2.1, by rw [up_ne (by omega)]; exact hT.2.2.1, by rw [up_ne (by omega)]; exact hT.2.2.2.1, fun k hk hk2 => ?_, fun k hk => by rw [up_ne (by omega)]; exact hT.2.2.2.2.2 k hk⟩
  rw [up_eq]
  unfold va_cpy
  rw [if_pos (by omega), show r * 89 + (k - 0) = r * 89 + k by omega]
  exact h k hk hk2
theorem k26 : kindOf 26 = (1, 1068) := rfl
theorem k27 : kindOf 27 = (1, 178) := rfl
theorem s8 (hn : 44 ≤ nx) (hP : PA M is u hs kp ks) {is' : Nat} {hs' ks' : Nat → Nat → Nat} (hQ : ∀ M', eqC 25 M M' → PA M' is' 0 hs' (fun _ => false) ks' → Q none M' N (P0 t e) nx) : aSem (d + 1) 8 [.ref 25] M N (P0 t e) nx Q := by
  obtain ⟨p, w, h1, h2, h3, h4, h5, h6, h7, h8, h9⟩ := hP
  simp only [A8, B8_0, false_imp_iff, true_imp_iff, not_false_eq_true, not_true_eq_false, true_and, and_true, implies_true, qn_self, rI_i, rJ_l, rV_n, okZ0, okZ1, o25 hn]
  refine hQ _ eqC.rf.up.up ⟨p, 0, h1, by omega, by rw [uM_j (by decide), uM_j (by decide)]; exact h3, by rw [uM_j (by decide), uM_k], fun j hj => by omega, uM_k, by decide, fun k hk => by simp, fun k _ q => by cases q⟩
theorem s9 (hn : 44 ≤ nx) (ho : isT o) (hT : TD M o ln is fc dn row nd) (hP : PA M is u hs kp ks) (hQ : ∀ M', (∀ a, a ≠ 25 → a ≠ 26 → M' a = M a) → PA M' is (psU u) (psH u hs row) kp ks → Q none M' N (P0 t e) nx) : aSem (d + 2) 9 [.ref 25, .ref o] M N (P0 t e) nx Q := by
  obtain ⟨p, w, h1, h2, h3, h4, h5, h6, h7, h8, h9⟩ := hP
  have hrow : (p + 1) * 89 ≤ 1068 := by omega
  simp only [A9, B9_0, false_imp_iff, true_imp_iff, not_false_eq_true, not_true_eq_false, true_and, and_true, implies_true, qn_self, rI_i, rJ_l, rV_n, okZ0, okZ1, o25 hn, oT hn ho, exP (show P0 t e 25 0 = some 26 from rfl), h3, s57 hn ho k26 (show 26 < nx by omega) (by decide) hrow]
  obtain ⟨M1, hM1⟩ : ∃ M1, M1 = va_up M 26 (va_cpy (M (o + 1)) (M 26) 0 (p * 89) 89) := ⟨_, rfl⟩
  rw [← hM1]
  have m25 : M1 25 = M 25 := by rw [hM1, up_ne (by decide)]
  have m26 : M1 26 = va_cpy (M (o + 1)) (M 26) 0 (p * 89) 89 := by rw [hM1, up_eq]
  have m27 : M1 27 = M 27 := by rw [hM1, up_ne (by decide)]
  have mx : (if nI 12 < nI u + nI 1 then nI 12 else nI u + nI 1) = nI (psU u) := by
    unfold psU
    rw [nI_add]
    by_cases q : u < 12
    · rw [if_pos q, if_neg (by rw [nI_ltI (by decide) (by omega)]; omega)]
    · rw [if_neg q, if_pos (by rw [nI_ltI (by decide) (by omega)]; omega)]
  have mx2 : (if nI 12 < nI (u + 1) then nI 12 else nI (u + 1)) = nI (psU u) := by rw [← nI_add]; exact mx
  have fin : ∀ p', p' < 12 → p' = (p + 1) % 12 → Q none (uM (uM M1 25 2 (nI p')) 25 4 (nI (psU u))) N (P0 t e) nx := by
    intro p' hp' hpe
    refine hQ _ (fun a ha hb => by rw [uM_ne ha, uM_ne ha, hM1, up_ne hb]) ⟨p', w, hp', by unfold psU; split <;> omega, by rw [uM_j (by decide), uM_k], uM_k, fun j hj => ?_, by rw [uM_j (by decide), uM_j (by decide), m25]; exact h6, h7, h8, fun k hk q => by rw [uM_ne (by decide), uM_ne (by decide), m27]; exact h9 k hk q⟩
    rw [uM_ne (by decide), uM_ne (by decide), m26]
    unfold psU at hj ⊢
    unfold psH
    by_cases q : u < 12
    · rw [if_pos q] at hj ⊢
      rw [if_pos q]
      by_cases z : j = u
      · rw [if_pos z, show (p' + 12 - (u + 1) + j) % 12 = p by omega]
        exact hT.rw1 trivial
      · rw [if_neg z, show (p' + 12 - (u + 1) + j) % 12 = (p + 12 - u + j) % 12 by omega]
        exact (h5 j (by omega)).ne (by omega)
    · rw [if_neg q] at hj ⊢
      rw [if_neg q]
      by_cases z : j = 11
      · rw [if_pos z, show (p' + 12 - 12 + j) % 12 = p by omega]
        exact hT.rw1 trivial
      · rw [if_neg z, show (p' + 12 - 12 + j) % 12 = (p + 12 - u + (j + 1)) % 12 by omega]
        exact (h5 (j + 1) (by omega)).ne (by omega)
  simp only [m25, h3, nI_add, nI_leI (show 12 < 2 ^ 31 by decide) (show p + 1 < 2 ^ 31 by omega)]
  refine ⟨fun q => ?_, fun q => ?_⟩
  · simp only [B9_33, B9_34, false_imp_iff, true_imp_iff, not_false_eq_true, not_true_eq_false, true_and, and_true, implies_true, qn_self, rI_i, rJ_l, rV_n, okZ0, okZ1, o25 hn, uM_j (show (4 : Nat) ≠ 2 by decide), m25, h4, mx]
    exact fin 0 (by decide) (by omega)
  · simp only [B9_24, B9_34, false_imp_iff, true_imp_iff, not_false_eq_true, not_true_eq_false, true_and, and_true, implies_true, qn_self, rI_i, rJ_l, rV_n, okZ0, okZ1, o25 hn, uM_j (show (4 : Nat) ≠ 2 by decide), m25, h3, h4, nI_add, mx2]
    exact fin (p + 1) (by omega) (by omega)
theorem s10z (hn : 44 ≤ nx) (hP : PA M is 0 hs kp ks) : aSem (d + 1) 10 [.ref 25, .ref o] M N (P0 t e) nx Q ↔ Q (some (.int (nI 0))) M N (P0 t e) nx := by
  obtain ⟨p, w, h1, h2, h3, h4, h5, h6, h7, h8, h9⟩ := hP
  simp only [A10, B10_0, B10_7, false_imp_iff, true_imp_iff, not_false_eq_true, not_true_eq_false, true_and, and_true, implies_true, qn_self, rI_i, rJ_l, rV_n, okZ0, okZ1, o25 hn, h4, eq_true nI_0]
theorem s10 (hn : 44 ≤ nx) (ho : isT o) (hT : TD M o ln is fc dn row nd) (hP : PA M is (u + 1) hs kp ks) (hQ : ∀ M', (∀ a, a ≠ 25 → a ≠ o + 1 → M' a = M a) → TD M' o ln is fc dn (hs u) nd → PA M' is u hs kp ks → Q (some (.int (nI 1))) M' N (P0 t e) nx) : aSem (d + 2) 10 [.ref 25, .ref o] M N (P0 t e) nx Q := by
  obtain ⟨p, w, h1, h2, h3, h4, h5, h6, h7, h8, h9⟩ := hP
  have ho1 : o + 1 ≠ 25 ∧ o + 1 ≠ 26 ∧ o + 1 ≠ 27 ∧ o ≠ 25 ∧ o + 2 ≠ 25 := by rcases ho with rfl | rfl | rfl <;> decide
  have e0 : ¬ nI (u + 1) = 0 := by rw [← nI_0, nI_eq (by omega) (by decide)]; omega
  have e1 : (nI p ≤ 0) ↔ p = 0 := by rw [← nI_0, nI_leI (by omega) (by decide)]; omega
  have fin : ∀ p', p' < 12 → p' = (p + 11) % 12 → WP (aSem (d + 1)) g0 10 nx (qn nx Q) 28 [(0, .ref 25), (1, .ref o)] [.int (nI p'), .ref 25] M N (P0 t e) nx := by
    intro p' hp' hpe
    have hrow : (p' + 1) * 89 ≤ 1068 := by omega
    simp only [B10_28, false_imp_iff, true_imp_iff, not_false_eq_true, not_true_eq_false, true_and, and_true, implies_true, qn_self, rI_i, rJ_l, rV_n, okZ0, okZ1, o25 hn, oT hn ho, exP (show P0 t e 25 0 = some 26 from rfl), uM_k, s58 hn ho k26 (show 26 < nx by omega) (by decide) hrow]
    have m26 : uM M 25 2 (nI p') 26 = M 26 := uM_ne (by decide)
    have mo : uM M 25 2 (nI p') (o + 1) = M (o + 1) := uM_ne ho1.1
    have hT1 : TD (uM M 25 2 (nI p')) o ln is fc dn row nd := hT.frame (uM_ne ho1.2.2.2.1) mo (uM_ne ho1.2.2.2.2)
    have hr : rwA (uM M 25 2 (nI p') 26) is p' (hs u) := by
      rw [m26]
      have := h5 u (by omega)
      rw [show (p + 12 - (u + 1) + u) % 12 = p' by omega] at this
      exact this
    have hT2 := hT1.load ho hr
    have v4 : va_up (uM M 25 2 (nI p')) (o + 1) (va_cpy (uM M 25 2 (nI p') 26) (uM M 25 2 (nI p') (o + 1)) (p' * 89) 0 89) 25 4 = nI (u + 1) := by
      rw [up_ne (by omega), uM_j (by decide)]; exact h4
    rw [v4, show nI (u + 1) - nI 1 = nI u from by rw [nI_sub (by omega)]; rfl]
    refine hQ _ (fun a ha hb => by rw [uM_ne ha, up_ne hb, uM_ne ha]) (hT2.frame (uM_ne ho1.2.2.2.1) (uM_ne ho1.1) (uM_ne ho1.2.2.2.2)) ⟨p', w, hp', by omega, ?_, uM_k, fun j hj => ?_, ?_, h7, h8, fun k hk q => ?_⟩
    · rw [uM_j (by decide), up_ne (by omega), uM_k]
    · rw [uM_ne (by decide), up_ne (by omega), m26]
      have := h5 j (by omega)
      rw [show (p + 12 - (u + 1) + j) % 12 = (p' + 12 - u + j) % 12 by omega] at this
      exact this
    · rw [uM_j (by decide), up_ne (by omega), uM_j (by decide)]; exact h6
    · rw [uM_ne (by decide), up_ne (by omega), uM_ne (by decide)]; exact h9 k hk q
  simp only [A10, B10_0, B10_9, false_imp_iff, true_imp_iff, not_false_eq_true, not_true_eq_false, true_and, and_true, implies_true, qn_self, rI_i, rJ_l, rV_n, okZ0, okZ1, o25 hn, h3, h4, e0, e1]
  refine ⟨fun q => ?_, fun q => ?_⟩
  · simp only [B10_26]
    exact fin 11 (by decide) (by omega)
  · simp only [B10_17, false_imp_iff, true_imp_iff, not_false_eq_true, not_true_eq_false, true_and, and_true, implies_true, qn_self, rI_i, rJ_l, rV_n, okZ0, okZ1, o25 hn, h3, nI_sub (show 1 ≤ p by omega)]
    exact fin (p - 1) (by omega) (by omega)
theorem s11n (hn : 44 ≤ nx) {x : Int32} (hx : ¬ vl x 2) : aSem (d + 1) 11 [.ref 25, .ref o, .int x] M N (P0 t e) nx Q ↔ Q (some (.int (nI 0))) M N (P0 t e) nx := by
  by_cases h0 : x < 0
  · simp only [A11, B11_0, B11_9, false_imp_iff, true_imp_iff, not_false_eq_true, not_true_eq_false, true_and, and_true, implies_true, qn_self, rI_i, rJ_l, rV_n, okZ0, okZ1, h0]
  · have h2 : ¬ x < nI 2 := by
      have := vl_lt0 hx (by decide) h0
      rw [Int32.not_lt]; exact this
    simp only [A11, B11_0, B11_4, B11_9, false_imp_iff, true_imp_iff, not_false_eq_true, not_true_eq_false, true_and, and_true, implies_true, qn_self, rI_i, rJ_l, rV_n, okZ0, okZ1, h0, h2]
theorem or4 : ∀ k, k < 2 → ∀ w, w < 4 → nI w ||| (nI 1 <<< (nI k &&& 31)) = nI (w ||| 2 ^ k) ∧ w ||| 2 ^ k < 4 ∧ ∀ j, j < 2 → ((w ||| 2 ^ k) / 2 ^ j % 2 = 1 ↔ (w / 2 ^ j % 2 = 1 ∨ j = k)) := by decide +kernel
theorem s11 (hn : 44 ≤ nx) (ho : isT o) (hT : TD M o ln is fc dn row nd) (hP : PA M is u hs kp ks) {k : Nat} (hk : k < 2) (hQ : ∀ M', (∀ a, a ≠ 25 → a ≠ 27 → M' a = M a) → PA M' is u hs (va_up kp k true) (va_up ks k row) → Q (some (.int (nI 1))) M' N (P0 t e) nx) : aSem (d + 2) 11 [.ref 25, .ref o, .int (nI k)] M N (P0 t e) nx Q := by
  obtain ⟨p, w, h1, h2, h3, h4, h5, h6, h7, h8, h9⟩ := hP
  have hrow : (k + 1) * 89 ≤ 178 := by omega
  have m25 : va_up M 27 (va_cpy (M (o + 1)) (M 27) 0 (k * 89) 89) 25 = M 25 := up_ne (by decide)
  have hl : nI k < nI 2 := by rw [nI_ltI (by omega) (by decide)]; exact hk
  simp only [A11, B11_0, B11_4, B11_11, false_imp_iff, true_imp_iff, not_false_eq_true, not_true_eq_false, true_and, and_true, implies_true, qn_self, rI_i, rJ_l, rV_n, okZ0, okZ1, o25 hn, oT hn ho, exP (show P0 t e 25 1 = some 27 from rfl), nI_pos (show k < 2 ^ 31 by omega), hl, s57 hn ho k27 (show 27 < nx by omega) (by decide) hrow, m25, h6, (or4 k hk w h7).1]
  refine hQ _ (fun a ha hb => by rw [uM_ne ha, up_ne hb]) ⟨p, _, h1, h2, by rw [uM_j (by decide), m25]; exact h3, by rw [uM_j (by decide), m25]; exact h4, fun j hj => by rw [uM_ne (by decide), up_ne (by decide)]; exact h5 j hj, uM_k, (or4 k hk w h7).2.1, fun j hj => ?_, fun j hj q => ?_⟩
  · rw [(or4 k hk w h7).2.2 j hj]
    by_cases z : j = k
    · subst z; rw [up_eq]; simp
    · rw [up_ne z, h8 j hj]; simp [z]
  · rw [uM_ne (by decide), up_eq]
    by_cases z : j = k
    · subst z; rw [up_eq]; exact hT.rw1 trivial
    · rw [up_ne z] at q ⊢
      exact (h9 j hj q).ne z
theorem bt4 : ∀ k, k < 2 → ∀ w, w < 4 → ((nI w >>> (nI k &&& 31)) &&& nI 1 = 0 ↔ ¬ w / 2 ^ k % 2 = 1) := by decide +kernel
theorem s12n (hn : 44 ≤ nx) {x : Int32} (hx : ¬ vl x 2) : aSem (d + 1) 12 [.ref 25, .ref o, .int x] M N (P0 t e) nx Q ↔ Q (some (.int (nI 0))) M N (P0 t e) nx := by
  by_cases h0 : x < 0
  · simp only [A12, B12_0, B12_20, false_imp_iff, true_imp_iff, not_false_eq_true, not_true_eq_false, true_and, and_true, implies_true, qn_self, rI_i, rJ_l, rV_n, okZ0, okZ1, h0]
  · simp only [A12, B12_0, B12_4, B12_20, false_imp_iff, true_imp_iff, not_false_eq_true, not_true_eq_false, true_and, and_true, implies_true, qn_self, rI_i, rJ_l, rV_n, okZ0, okZ1, h0, vl_lt0 hx (show 2 < 2 ^ 31 by decide) h0]
theorem s12z (hn : 44 ≤ nx) (hP : PA M is u hs kp ks) {k : Nat} (hk : k < 2) (hz : ¬ kp k = true) : aSem (d + 1) 12 [.ref 25, .ref o, .int (nI k)] M N (P0 t e) nx Q ↔ Q (some (.int (nI 0))) M N (P0 t e) nx := by
  obtain ⟨p, w, h1, h2, h3, h4, h5, h6, h7, h8, h9⟩ := hP
  simp only [A12, B12_0, B12_4, B12_9, B12_20, false_imp_iff, true_imp_iff, not_false_eq_true, not_true_eq_false, true_and, and_true, implies_true, qn_self, rI_i, rJ_l, rV_n, okZ0, okZ1, o25 hn, nI_pos (show k < 2 ^ 31 by omega), nI_ge hk (show 2 < 2 ^ 31 by decide), h6, bt4 k hk w h7, h8 k hk, hz, Bool.false_eq_true]
theorem s12 (hn : 44 ≤ nx) (ho : isT o) (hT : TD M o ln is fc dn row nd) (hP : PA M is u hs kp ks) {k : Nat} (hk : k < 2) (hz : kp k = true) (hQ : ∀ M', (∀ a, a ≠ 25 → a ≠ o + 1 → M' a = M a) → TD M' o ln is fc dn (ks k) nd → PA M' is 0 hs kp ks → Q (some (.int (nI 1))) M' N (P0 t e) nx) : aSem (d + 2) 12 [.ref 25, .ref o, .int (nI k)] M N (P0 t e) nx Q := by
  obtain ⟨p, w, h1, h2, h3, h4, h5, h6, h7, h8, h9⟩ := hP
  have ho1 : o + 1 ≠ 25 ∧ o + 1 ≠ 26 ∧ o + 1 ≠ 27 ∧ o ≠ 25 ∧ o + 2 ≠ 25 := by rcases ho with rfl | rfl | rfl <;> decide
  have hrow : (k + 1) * 89 ≤ 178 := by omega
  simp only [A12, B12_0, B12_4, B12_9, B12_22, false_imp_iff, true_imp_iff, not_false_eq_true, not_true_eq_false, true_and, and_true, implies_true, qn_self, rI_i, rJ_l, rV_n, okZ0, okZ1, o25 hn, oT hn ho, exP (show P0 t e 25 1 = some 27 from rfl), nI_pos (show k < 2 ^ 31 by omega), nI_ge hk (show 2 < 2 ^ 31 by decide), h6, bt4 k hk w h7, h8 k hk, hz, s58 hn ho k27 (show 27 < nx by omega) (by decide) hrow]
  have hT2 := hT.load ho (h9 k hk hz)
  refine hQ _ (fun a ha hb => by rw [uM_ne ha, up_ne hb]) (hT2.frame (uM_ne ho1.2.2.2.1) (uM_ne ho1.1) (uM_ne ho1.2.2.2.2)) ⟨p, w, h1, by omega, ?_, uM_k, fun j hj => by omega, ?_, h7, h8, fun j hj q => ?_⟩
  · rw [uM_j (by decide), up_ne (by omega)]; exact h3
  · rw [uM_j (by decide), up_ne (by omega)]; exact h6
  · rw [uM_ne (by decide), up_ne (by omega)]; exact h9 j hj q
end PAS
