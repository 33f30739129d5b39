/-! TOLD: what is told, by its numbers: ln lands, is issues, fc facts, dn deeds; row in the reference's order (theories 0.., facts 6.., rules 11.., answers 47.., heads 83..); nd the deeds' issues -/
def piC (k : Nat) : Nat := if k < 11 then k else if k < 17 then k + 72 else k - 6
def TD (M : aM) (o ln is fc dn : Nat) (row nd : Nat → Nat) : Prop :=
  M o 2 = nI ln ∧ M o 3 = nI is ∧ M o 4 = nI fc ∧ M o 5 = nI dn ∧ (∀ k, k < 89 → (k < 11 + is ∨ 17 ≤ k) → M (o + 1) k = nI (row (piC k))) ∧ ∀ k, k < dn → M (o + 2) k = nI (nd k)
def wfC (ln is fc dn : Nat) : Prop := ln ≤ 6 ∧ is ≤ 6 ∧ fc ≤ 5 ∧ dn ≤ 5
def wfR (ln is fc : Nat) (row : Nat → Nat) : Prop := (∀ l, l < 6 → row l ≤ 4) ∧ (∀ f, f < fc → row (6 + f) < ln) ∧ (∀ k, 11 ≤ k → k < 47 → row k ≤ 2 * fc) ∧ (∀ k, 47 ≤ k → k < 83 → row k ≤ 99) ∧ ∀ i, i < is → row (83 + i) < is
theorem pi_th {k : Nat} (h : k < 11) : piC k = k := if_pos h
theorem pi_hd {k : Nat} (h : k < 6) : piC (11 + k) = 83 + k := by unfold piC; rw [if_neg (by omega), if_pos (by omega)]; omega
theorem pi_ru {k : Nat} : piC (17 + k) = 11 + k := by unfold piC; rw [if_neg (by omega), if_neg (by omega)]; omega
theorem pi_la {k : Nat} : piC (53 + k) = 47 + k := by unfold piC; rw [if_neg (by omega), if_neg (by omega)]; omega
section TLD
variable {d : Nat} {M : aM} {N : aN} {t e nx o ln is fc dn : Nat} {row nd : Nat → Nat} {Q : aQ}
theorem TD.th (hT : TD M o ln is fc dn row nd) {l : Nat} (h : l < 6) : M (o + 1) l = nI (row l) := by
  rw [hT.2.2.2.2.1 l (by omega) (by omega), pi_th (by omega)]
theorem TD.fa (hT : TD M o ln is fc dn row nd) {l : Nat} (h : l < 5) : M (o + 1) (6 + l) = nI (row (6 + l)) := by
  rw [hT.2.2.2.2.1 (6 + l) (by omega) (by omega), pi_th (by omega)]
theorem TD.hd (hT : TD M o ln is fc dn row nd) (h6 : is ≤ 6) {l : Nat} (h : l < is) : M (o + 1) (11 + l) = nI (row (83 + l)) := by
  rw [hT.2.2.2.2.1 (11 + l) (by omega) (by omega), pi_hd (by omega)]
theorem TD.ru (hT : TD M o ln is fc dn row nd) {k : Nat} (h : k < 36) : M (o + 1) (17 + k) = nI (row (11 + k)) := by
  rw [hT.2.2.2.2.1 (17 + k) (by omega) (by omega), pi_ru]
theorem TD.la (hT : TD M o ln is fc dn row nd) {k : Nat} (h : k < 36) : M (o + 1) (53 + k) = nI (row (47 + k)) := by
  rw [hT.2.2.2.2.1 (53 + k) (by omega) (by omega), pi_la]
theorem TD.nd (hT : TD M o ln is fc dn row nd) {k : Nat} (h : k < dn) : M (o + 2) k = nI (nd k) := hT.2.2.2.2.2 k h
-- hasLand, hasIssue, hasFact, hasDeed
theorem s63 (hn : 44 ≤ nx) (ho : isT o) (hT : TD M o ln is fc dn row nd) (hc : wfC ln is fc dn) {l : Nat} (hl : l < ln) : aSem (d + 1) 63 [.ref o, .int (nI l)] M N (P0 t e) nx Q ↔ Q (some (.int (nI 1))) M N (P0 t e) nx := by
  have c := hc
  unfold wfC at c
  simp only [A63, B63_0, B63_4, B63_12, B63_16, B63_17, false_imp_iff, true_imp_iff, not_false_eq_true, not_true_eq_false, true_and, and_true, implies_true, qn_self, rI_i, rJ_l, rV_n, okZ0, okZ1, oT hn ho, hT.1, nI_pos (show l < 2 ^ 31 by omega), nI_ge hl (show ln < 2 ^ 31 by omega)]
theorem s63n (hn : 44 ≤ nx) (ho : isT o) (hT : TD M o ln is fc dn row nd) (hc : wfC ln is fc dn) {x : Int32} (hx : ¬ vl x ln) : aSem (d + 1) 63 [.ref o, .int x] M N (P0 t e) nx Q ↔ Q (some (.int (nI 0))) M N (P0 t e) nx := by
  have c := hc
  unfold wfC at c
  by_cases h0 : x < 0
  · simp only [A63, B63_0, B63_4, B63_12, B63_16, B63_17, false_imp_iff, true_imp_iff, not_false_eq_true, not_true_eq_false, true_and, and_true, implies_true, qn_self, rI_i, rJ_l, rV_n, okZ0, okZ1, oT hn ho, hT.1, h0]
  · simp only [A63, B63_0, B63_4, B63_12, B63_16, B63_17, false_imp_iff, true_imp_iff, not_false_eq_true, not_true_eq_false, true_and, and_true, implies_true, qn_self, rI_i, rJ_l, rV_n, okZ0, okZ1, oT hn ho, hT.1, h0, vl_lt0 hx (by omega) h0]
theorem s64 (hn : 44 ≤ nx) (ho : isT o) (hT : TD M o ln is fc dn row nd) (hc : wfC ln is fc dn) {l : Nat} (hl : l < is) : aSem (d + 1) 64 [.ref o, .int (nI l)] M N (P0 t e) nx Q ↔ Q (some (.int (nI 1))) M N (P0 t e) nx := by
  have c := hc
  unfold wfC at c
  simp only [A64, B64_0, B64_4, B64_12, B64_16, B64_17, false_imp_iff, true_imp_iff, not_false_eq_true, not_true_eq_false, true_and, and_true, implies_true, qn_self, rI_i, rJ_l, rV_n, okZ0, okZ1, oT hn ho, hT.2.1, nI_pos (show l < 2 ^ 31 by omega), nI_ge hl (show is < 2 ^ 31 by omega)]
theorem s64n (hn : 44 ≤ nx) (ho : isT o) (hT : TD M o ln is fc dn row nd) (hc : wfC ln is fc dn) {x : Int32} (hx : ¬ vl x is) : aSem (d + 1) 64 [.ref o, .int x] M N (P0 t e) nx Q ↔ Q (some (.int (nI 0))) M N (P0 t e) nx := by
  have c := hc
  unfold wfC at c
  by_cases h0 : x < 0
  · simp only [A64, B64_0, B64_4, B64_12, B64_16, B64_17, false_imp_iff, true_imp_iff, not_false_eq_true, not_true_eq_false, true_and, and_true, implies_true, qn_self, rI_i, rJ_l, rV_n, okZ0, okZ1, oT hn ho, hT.2.1, h0]
  · simp only [A64, B64_0, B64_4, B64_12, B64_16, B64_17, false_imp_iff, true_imp_iff, not_false_eq_true, not_true_eq_false, true_and, and_true, implies_true, qn_self, rI_i, rJ_l, rV_n, okZ0, okZ1, oT hn ho, hT.2.1, h0, vl_lt0 hx (by omega) h0]
theorem s65 (hn : 44 ≤ nx) (ho : isT o) (hT : TD M o ln is fc dn row nd) (hc : wfC ln is fc dn) {l : Nat} (hl : l < fc) : aSem (d + 1) 65 [.ref o, .int (nI l)] M N (P0 t e) nx Q ↔ Q (some (.int (nI 1))) M N (P0 t e) nx := by
  have c := hc
  unfold wfC at c
  simp only [A65, B65_0, B65_4, B65_12, B65_16, B65_17, false_imp_iff, true_imp_iff, not_false_eq_true, not_true_eq_false, true_and, and_true, implies_true, qn_self, rI_i, rJ_l, rV_n, okZ0, okZ1, oT hn ho, hT.2.2.1, nI_pos (show l < 2 ^ 31 by omega), nI_ge hl (show fc < 2 ^ 31 by omega)]
theorem s65n (hn : 44 ≤ nx) (ho : isT o) (hT : TD M o ln is fc dn row nd) (hc : wfC ln is fc dn) {x : Int32} (hx : ¬ vl x fc) : aSem (d + 1) 65 [.ref o, .int x] M N (P0 t e) nx Q ↔ Q (some (.int (nI 0))) M N (P0 t e) nx := by
  have c := hc
  unfold wfC at c
  by_cases h0 : x < 0
  · simp only [A65, B65_0, B65_4, B65_12, B65_16, B65_17, false_imp_iff, true_imp_iff, not_false_eq_true, not_true_eq_false, true_and, and_true, implies_true, qn_self, rI_i, rJ_l, rV_n, okZ0, okZ1, oT hn ho, hT.2.2.1, h0]
  · simp only [A65, B65_0, B65_4, B65_12, B65_16, B65_17, false_imp_iff, true_imp_iff, not_false_eq_true, not_true_eq_false, true_and, and_true, implies_true, qn_self, rI_i, rJ_l, rV_n, okZ0, okZ1, oT hn ho, hT.2.2.1, h0, vl_lt0 hx (by omega) h0]
theorem s66 (hn : 44 ≤ nx) (ho : isT o) (hT : TD M o ln is fc dn row nd) (hc : wfC ln is fc dn) {l : Nat} (hl : l < dn) : aSem (d + 1) 66 [.ref o, .int (nI l)] M N (P0 t e) nx Q ↔ Q (some (.int (nI 1))) M N (P0 t e) nx := by
  have c := hc
  unfold wfC at c
  simp only [A66, B66_0, B66_4, B66_12, B66_16, B66_17, false_imp_iff, true_imp_iff, not_false_eq_true, not_true_eq_false, true_and, and_true, implies_true, qn_self, rI_i, rJ_l, rV_n, okZ0, okZ1, oT hn ho, hT.2.2.2.1, nI_pos (show l < 2 ^ 31 by omega), nI_ge hl (show dn < 2 ^ 31 by omega)]
theorem s66n (hn : 44 ≤ nx) (ho : isT o) (hT : TD M o ln is fc dn row nd) (hc : wfC ln is fc dn) {x : Int32} (hx : ¬ vl x dn) : aSem (d + 1) 66 [.ref o, .int x] M N (P0 t e) nx Q ↔ Q (some (.int (nI 0))) M N (P0 t e) nx := by
  have c := hc
  unfold wfC at c
  by_cases h0 : x < 0
  · simp only [A66, B66_0, B66_4, B66_12, B66_16, B66_17, false_imp_iff, true_imp_iff, not_false_eq_true, not_true_eq_false, true_and, and_true, implies_true, qn_self, rI_i, rJ_l, rV_n, okZ0, okZ1, oT hn ho, hT.2.2.2.1, h0]
  · simp only [A66, B66_0, B66_4, B66_12, B66_16, B66_17, false_imp_iff, true_imp_iff, not_false_eq_true, not_true_eq_false, true_and, and_true, implies_true, qn_self, rI_i, rJ_l, rV_n, okZ0, okZ1, oT hn ho, hT.2.2.2.1, h0, vl_lt0 hx (by omega) h0]
-- hasBoth
theorem s67 (hn : 44 ≤ nx) (ho : isT o) (hT : TD M o ln is fc dn row nd) (hc : wfC ln is fc dn) {l i : Nat} (hl : l < ln) (hi : i < is) : aSem (d + 2) 67 [.ref o, .int (nI l), .int (nI i)] M N (P0 t e) nx Q ↔ Q (some (.int (nI 1))) M N (P0 t e) nx := by
  simp only [A67, B67_0, B67_8, B67_16, B67_20, B67_21, false_imp_iff, true_imp_iff, not_false_eq_true, not_true_eq_false, true_and, and_true, implies_true, qn_self, rI_i, rJ_l, rV_n, okZ0, okZ1, oT hn ho, s63 hn ho hT hc hl, s64 hn ho hT hc hi, nI1, show ¬ (1 : Int32) = 0 by decide, okZ, or_true]
theorem s67n (hn : 44 ≤ nx) (ho : isT o) (hT : TD M o ln is fc dn row nd) (hc : wfC ln is fc dn) {x y : Int32} (h : ¬ (vl x ln ∧ vl y is)) : aSem (d + 2) 67 [.ref o, .int x, .int y] M N (P0 t e) nx Q ↔ Q (some (.int (nI 0))) M N (P0 t e) nx := by
  by_cases hx : vl x ln
  · have hy : ¬ vl y is := fun z => h ⟨hx, z⟩
    obtain ⟨l, hl, rfl⟩ := vl_of hx
    simp only [A67, B67_0, B67_8, B67_16, B67_20, B67_21, false_imp_iff, true_imp_iff, not_false_eq_true, not_true_eq_false, true_and, and_true, implies_true, qn_self, rI_i, rJ_l, rV_n, okZ0, okZ1, oT hn ho, s63 hn ho hT hc hl, s64n hn ho hT hc hy, nI1, show ¬ (1 : Int32) = 0 by decide, nI_0, okZ, true_or]
  · simp only [A67, B67_0, B67_8, B67_16, B67_20, B67_21, false_imp_iff, true_imp_iff, not_false_eq_true, not_true_eq_false, true_and, and_true, implies_true, qn_self, rI_i, rJ_l, rV_n, okZ0, okZ1, oT hn ho, s63n hn ho hT hc hx, nI_0, okZ, true_or]
end TLD
