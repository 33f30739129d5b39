/-! RENVOIDESK: count, rule -/
section CNT
variable {d : Nat} {M : aM} {N : aN} {P : aP} {t e nx ln is fc dn u tp : Nat} {row nd : Nat → Nat} {hs ks : Nat → Nat → Nat} {kp : Nat → Bool} {Q : aQ}
def coV (ln is fc dn u tp : Nat) (row : Nat → Nat) (x : Int32) : Int32 :=
  if x = nI 0 then nI ln else if x = nI 1 then nI is else if x = nI 2 then nI fc else if x = nI 3 then nI dn else if x = nI 4 then nI (sumF (fun l => cntF (hasR row l) 0 is) 0 ln) else if x = nI 5 then nI u else if x = nI 6 then nI tp else if x = nI 7 then nI (cntF (fun i => row (83 + i) == i) 0 is) else ng1
theorem if_c {α : Type} {p : Prop} [Decidable p] {a b : α} {R : α → Prop} : R (if p then a else b) ↔ (p → R a) ∧ (¬ p → R b) := by
  by_cases h : p
  · simp [h]
  · simp [h]
theorem s128 (hn : 44 ≤ nx) (h : CT M t ln is fc dn row nd) (hP : PA M is u hs kp ks) (htp : M 2 1 = nI tp) {x : Int32} : aSem (d + 6) 128 [.ref 0, .int x] M N (P0 t e) nx Q ↔ Q (some (.int (coV ln is fc dn u tp row x))) M N (P0 t e) nx := by
  obtain ⟨ho, h22, hT, hc, hw, h64⟩ := h
  have h4 : M 25 4 = nI u := by
    obtain ⟨p, w, g1, g2, g3, g4, -⟩ := hP
    exact g4
  simp only [A128, B128_0, B128_48, B128_56, B128_64, B128_72, B128_80, B128_88, B128_96, B128_104, B128_112, false_imp_iff, true_imp_iff, not_false_eq_true, not_true_eq_false, true_and, and_true, implies_true, qn_self, rI_i, rJ_l, rV_n, okZ0, okZ1, o0 hn, oT hn ho, o25 hn, o2 hn, exP (show P0 t e 0 5 = some t from rfl), exP (show P0 t e 0 4 = some 25 from rfl), exP (show P0 t e 0 0 = some 2 from rfl), hT.1, hT.2.1, hT.2.2.1, hT.2.2.2.1, h4, htp, s81 hn ho hT hc hw, s85 hn ho hT hc hw]
  unfold coV
  rw [if_c (R := fun y => Q (some (.int y)) M N (P0 t e) nx), if_c (R := fun y => Q (some (.int y)) M N (P0 t e) nx), if_c (R := fun y => Q (some (.int y)) M N (P0 t e) nx), if_c (R := fun y => Q (some (.int y)) M N (P0 t e) nx), if_c (R := fun y => Q (some (.int y)) M N (P0 t e) nx), if_c (R := fun y => Q (some (.int y)) M N (P0 t e) nx), if_c (R := fun y => Q (some (.int y)) M N (P0 t e) nx), if_c (R := fun y => Q (some (.int y)) M N (P0 t e) nx)]
/-- what rule answers -/
def ruV (row : Nat → Nat) (l i : Nat) (x : Int32) : Int32 := if ruM row i l = 0 then ng2 else if x = nI 0 then nI ((ruM row i l - 1) / 2) else if x = nI 1 then nI ((ruM row i l - 1) % 2) else nI (row (6 + (ruM row i l - 1) / 2))
theorem s96n (hn : 44 ≤ nx) (h : CT M t ln is fc dn row nd) {x y z : Int32} (hv : ¬ ((vl x ln ∧ vl y is) ∧ vl z 3)) : aSem (d + 5) 96 [.ref 0, .int x, .int y, .int z] M N (P0 t e) nx Q ↔ Q none M N (P0 t e) nx := by
  obtain ⟨ho, h22, hT, hc, hw, h64⟩ := h
  by_cases h1 : vl x ln ∧ vl y is
  · have h2 : ¬ vl z 3 := fun q => hv ⟨h1, q⟩
    obtain ⟨l, hl, rfl⟩ := vl_of h1.1
    obtain ⟨i, hi, rfl⟩ := vl_of h1.2
    by_cases h0 : z < 0
    · simp only [A96, B96_0, B96_12, B96_21, false_imp_iff, true_imp_iff, not_false_eq_true, not_true_eq_false, true_and, and_true, implies_true, qn_self, rI_i, rJ_l, rV_n, okZ0, okZ1, o0 hn, oT hn ho, exP (show P0 t e 0 5 = some t from rfl), s67 hn ho hT hc hl hi, one0, h0]
    · have h3 : ¬ z ≤ nI 2 := by
        have h3 := vl_lt0 h2 (by decide) h0
        rw [Int32.le_iff_toInt_le, nI_toInt (by decide)] at h3 ⊢
        omega
      simp only [A96, B96_0, B96_12, B96_16, B96_21, false_imp_iff, true_imp_iff, not_false_eq_true, not_true_eq_false, true_and, and_true, implies_true, qn_self, rI_i, rJ_l, rV_n, okZ0, okZ1, o0 hn, oT hn ho, exP (show P0 t e 0 5 = some t from rfl), s67 hn ho hT hc hl hi, one0, h0, h3]
  · simp only [A96, B96_0, B96_21, false_imp_iff, true_imp_iff, not_false_eq_true, not_true_eq_false, true_and, and_true, implies_true, qn_self, rI_i, rJ_l, rV_n, okZ0, okZ1, o0 hn, oT hn ho, exP (show P0 t e 0 5 = some t from rfl), s67n hn ho hT hc h1, eq_true nI_0]
theorem s96 (hn : 44 ≤ nx) (h : CT M t ln is fc dn row nd) {l i k : Nat} (hl : l < ln) (hi : i < is) (hk : k < 3) : aSem (d + 5) 96 [.ref 0, .int (nI l), .int (nI i), .int (nI k)] M N (P0 t e) nx Q ↔ Q (some (.int (ruV row l i (nI k)))) M N (P0 t e) nx := by
  obtain ⟨ho, h22, hT, hc, hw, h64⟩ := h
  have c6 := hc
  unfold wfC at c6
  have hh := hw.2.2.2.2 i hi
  have hb := hw.2.2.1 (11 + (6 * l + row (83 + i))) (by omega) (by omega)
  have hru : ruM row i l = row (11 + (6 * l + row (83 + i))) := rfl
  unfold ruV
  rw [hru]
  simp only [A96, B96_0, B96_12, B96_16, B96_31, false_imp_iff, true_imp_iff, not_false_eq_true, not_true_eq_false, true_and, and_true, implies_true, qn_self, rI_i, rJ_l, rV_n, okZ0, okZ1, o0 hn, oT hn ho, exP (show P0 t e 0 5 = some t from rfl), s67 hn ho hT hc hl hi, one0, nI_pos (show k < 2 ^ 31 by omega), nI_leI (show k < 2 ^ 31 by omega) (show 2 < 2 ^ 31 by decide), show k ≤ 2 by omega, s83 hn ho hT hc hi, s76 hn ho hT hc hl hh, oI_ng (show row (11 + (6 * l + row (83 + i))) < 2 ^ 31 by omega)]
  by_cases h0 : row (11 + (6 * l + row (83 + i))) = 0
  · simp only [h0, false_imp_iff, true_imp_iff, not_false_eq_true, not_true_eq_false, true_and, and_true, implies_true, qn_self, rI_i, rJ_l, rV_n, okZ0, okZ1, B96_55, if_true]
  · have hf : (row (11 + (6 * l + row (83 + i))) - 1) / 2 < fc := by omega
    have h16 : row (11 + (6 * l + row (83 + i))) - 1 < 16 := by omega
    simp only [h0, false_imp_iff, true_imp_iff, not_false_eq_true, not_true_eq_false, true_and, and_true, implies_true, qn_self, rI_i, rJ_l, rV_n, okZ0, okZ1, if_false, oI_s (show 0 < row (11 + (6 * l + row (83 + i))) by omega), B96_58, B96_84, B96_90, B96_104, s78 h16, s79 h16, o0 hn, oT hn ho, exP (show P0 t e 0 5 = some t from rfl), s71 hn ho hT hc hf]
    have e1 : (nI k = nI 0) ↔ k = 0 := nI_eq (by omega) (by decide)
    have e2 : (nI k = nI 1) ↔ k = 1 := nI_eq (by omega) (by decide)
    simp only [e1, e2]
    rcases (show k = 0 ∨ k = 1 ∨ k = 2 by omega) with rfl | rfl | rfl
    · simp only [false_imp_iff, true_imp_iff, not_false_eq_true, not_true_eq_false, true_and, and_true, implies_true, qn_self, rI_i, rJ_l, rV_n, okZ0, okZ1, if_true]
    · by_cases hm : (row (11 + (6 * l + row (83 + i))) - 1) % 2 = 1
      · simp only [false_imp_iff, true_imp_iff, not_false_eq_true, not_true_eq_false, true_and, and_true, implies_true, qn_self, rI_i, rJ_l, rV_n, okZ0, okZ1, hm, if_true, if_false, one0, B96_98, B96_103, show ¬ (1 : Nat) = 0 by decide]
      · have hm0 : (row (11 + (6 * l + row (83 + i))) - 1) % 2 = 0 := by omega
        simp only [false_imp_iff, true_imp_iff, not_false_eq_true, not_true_eq_false, true_and, and_true, implies_true, qn_self, rI_i, rJ_l, rV_n, okZ0, okZ1, hm, hm0, if_true, if_false, eq_true nI_0, B96_102, B96_103, show ¬ (1 : Nat) = 0 by decide, show ¬ (0 : Nat) = 1 by decide]
    · simp only [false_imp_iff, true_imp_iff, not_false_eq_true, not_true_eq_false, true_and, and_true, implies_true, qn_self, rI_i, rJ_l, rV_n, okZ0, okZ1, if_false, show ¬ (2 : Nat) = 0 by decide, show ¬ (2 : Nat) = 1 by decide]
end CNT
