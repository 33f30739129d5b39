/-! TOLD: what is told, by its numbers: ln lands, is issues, fc facts, dn deeds; row in the reference's order (theories 0.., facts 6.., rules 11.., answers 47.., heads 83..); nd the deeds' issues -/
def piC (k : Nat) : Nat := if k < 11 then k else if k < 17 then k + 72 else k - 6
def TD (M : aM) (o ln is fc dn : Nat) (row nd : Nat → Nat) : Prop :=
  M o 2 = nI ln ∧ M o 3 = nI is ∧ M o 4 = nI fc ∧ M o 5 = nI dn ∧ (∀ k, k < 89 → (k < 11 + is ∨ 17 ≤ k) → M (o + 1) k = nI (row (piC k))) ∧ ∀ k, k < dn → M (o + 2) k = nI (nd k)
def wfC (ln is fc dn : Nat) : Prop := ln ≤ 6 ∧ is ≤ 6 ∧ fc ≤ 5 ∧ dn ≤ 5
def wfR (ln is fc : Nat) (row : Nat → Nat) : Prop := (∀ l, l < 6 → row l ≤ 4) ∧ (∀ f, f < fc → row (6 + f) < ln) ∧ (∀ k, 11 ≤ k → k < 47 → row k ≤ 2 * fc) ∧ (∀ k, 47 ≤ k → k < 83 → row k ≤ 99) ∧ ∀ i, i < is → row (83 + i) < is
theorem pi_th {k : Nat} (h : k < 11) : piC k = k := if_pos h
theorem pi_hd {k : Nat} (h : k < 6) : piC (11 + k) = 83 + k := by unfold piC; rw [if_neg (by omega), if_pos (by omega)]; omega
theorem pi_ru {k : Nat} : piC (17 + k) = 11 + k := by unfold piC; rw [if_neg (by omega), if_neg (by omega)]; omega
theorem pi_la {k : Nat} : piC (53 + k) = 47 + k := by unfold piC; rw [if_neg (by omega), if_neg (by omega)]; omega
section TLD
variable {d : Nat} {M : aM} {N : aN} {t e nx o ln is fc dn : Nat} {row nd : Nat → Nat} {Q : aQ}
theorem TD.th (hT : TD M o ln is fc dn row nd) {l : Nat} (h : l < 6) : M (o + 1) l = nI (row l) := by
  rw [hT.2.2.2.2.1 l (by omega) (by omega), pi_th (by omega)]
theorem TD.fa (hT : TD M o ln is fc dn row nd) {l : Nat} (h : l < 5) : M (o + 1) (6 + l) = nI (row (6 + l)) := by
  rw [hT.2.2.2.2.1 (6 + l) (by omega) (by omega), pi_th (by omega)]
theorem TD.hd (hT : TD M o ln is fc dn row nd) (h6 : is ≤ 6) {l : Nat} (h : l < is) : M (o + 1) (11 + l) = nI (row (83 + l)) := by
  rw [hT.2.2.2.2.1 (11 + l) (by omega) (by omega), pi_hd (by omega)]
theorem TD.ru (hT : TD M o ln is fc dn row nd) {k : Nat} (h : k < 36) : M (o + 1) (17 + k) = nI (row (11 + k)) := by
  rw [hT.2.2.2.2.1 (17 + k) (by omega) (by omega), pi_ru]
theorem TD.la (hT : TD M o ln is fc dn row nd) {k : Nat} (h : k < 36) : M (o + 1) (53 + k) = nI (row (47 + k)) := by
  rw [hT.2.2.2.2.1 (53 + k) (by omega) (by omega), pi_la]
theorem TD.nds (hT : TD M o ln is fc dn row nd) {k : Nat} (h : k < dn) : M (o + 2) k = nI (nd k) := hT.2.2.2.2.2 k h
-- hasLand, hasIssue, hasFact, hasDeed
theorem s63 (hn : 44 ≤ nx) (ho : isT o) (hT : TD M o ln is fc dn row nd) (hc : wfC ln is fc dn) {l : Nat} (hl : l < ln) : aSem (d + 1) 63 [.ref o, .int (nI l)] M N (P0 t e) nx Q ↔ Q (some (.int (nI 1))) M N (P0 t e) nx := by
  have c := hc
  unfold wfC at c
  simp only [A63, B63_0, B63_4, B63_12, B63_16, B63_17, false_imp_iff, true_imp_iff, not_false_eq_true, not_true_eq_false, true_and, and_true, implies_true, qn_self, rI_i, rJ_l, rV_n, okZ0, okZ1, oT hn ho, hT.1, nI_pos (show l < 2 ^ 31 by omega), nI_ge hl (show ln < 2 ^ 31 by omega)]
theorem s63n (hn : 44 ≤ nx) (ho : isT o) (hT : TD M o ln is fc dn row nd) (hc : wfC ln is fc dn) {x : Int32} (hx : ¬ vl x ln) : aSem (d + 1) 63 [.ref o, .int x] M N (P0 t e) nx Q ↔ Q (some (.int (nI 0))) M N (P0 t e) nx := by
  have c := hc
  unfold wfC at c
  by_cases h0 : x < 0
  · simp only [A63, B63_0, B63_4, B63_12, B63_16, B63_17, false_imp_iff, true_imp_iff, not_false_eq_true, not_true_eq_false, true_and, and_true, implies_true, qn_self, rI_i, rJ_l, rV_n, okZ0, okZ1, oT hn ho, hT.1, h0]
  · simp only [A63, B63_0, B63_4, B63_12, B63_16, B63_17, false_imp_iff, true_imp_iff, not_false_eq_true, not_true_eq_false, true_and, and_true, implies_true, qn_self, rI_i, rJ_l, rV_n, okZ0, okZ1, oT hn ho, hT.1, h0, vl_lt0 hx (by omega) h0]
theorem s64 (hn : 44 ≤ nx) (ho : isT o) (hT : TD M o ln is fc dn row nd) (hc : wfC ln is fc dn) {l : Nat} (hl : l < is) : aSem (d + 1) 64 [.ref o, .int (nI l)] M N (P0 t e) nx Q ↔ Q (some (.int (nI 1))) M N (P0 t e) nx := by
  have c := hc
  unfold wfC at c
  simp only [A64, B64_0, B64_4, B64_12, B64_16, B64_17, false_imp_iff, true_imp_iff, not_false_eq_true, not_true_eq_false, true_and, and_true, implies_true, qn_self, rI_i, rJ_l, rV_n, okZ0, okZ1, oT hn ho, hT.2.1, nI_pos (show l < 2 ^ 31 by omega), nI_ge hl (show is < 2 ^ 31 by omega)]
theorem s64n (hn : 44 ≤ nx) (ho : isT o) (hT : TD M o ln is fc dn row nd) (hc : wfC ln is fc dn) {x : Int32} (hx : ¬ vl x is) : aSem (d + 1) 64 [.ref o, .int x] M N (P0 t e) nx Q ↔ Q (some (.int (nI 0))) M N (P0 t e) nx := by
  have c := hc
  unfold wfC at c
  by_cases h0 : x < 0
  · simp only [A64, B64_0, B64_4, B64_12, B64_16, B64_17, false_imp_iff, true_imp_iff, not_false_eq_true, not_true_eq_false, true_and, and_true, implies_true, qn_self, rI_i, rJ_l, rV_n, okZ0, okZ1, oT hn ho, hT.2.1, h0]
  · simp only [A64, B64_0, B64_4, B64_12, B64_16, B64_17, false_imp_iff, true_imp_iff, not_false_eq_true, not_true_eq_false, true_and, and_true, implies_true, qn_self, rI_i, rJ_l, rV_n, okZ0, okZ1, oT hn ho, hT.2.1, h0, vl_lt0 hx (by omega) h0]
theorem s65 (hn : 44 ≤ nx) (ho : isT o) (hT : TD M o ln is fc dn row nd) (hc : wfC ln is fc dn) {l : Nat} (hl : l < fc) : aSem (d + 1) 65 [.ref o, .int (nI l)] M N (P0 t e) nx Q ↔ Q (some (.int (nI 1))) M N (P0 t e) nx := by
  have c := hc
  unfold wfC at c
  simp only [A65, B65_0, B65_4, B65_12, B65_16, B65_17, false_imp_iff, true_imp_iff, not_false_eq_true, not_true_eq_false, true_and, and_true, implies_true, qn_self, rI_i, rJ_l, rV_n, okZ0, okZ1, oT hn ho, hT.2.2.1, nI_pos (show l < 2 ^ 31 by omega), nI_ge hl (show fc < 2 ^ 31 by omega)]
theorem s65n (hn : 44 ≤ nx) (ho : isT o) (hT : TD M o ln is fc dn row nd) (hc : wfC ln is fc dn) {x : Int32} (hx : ¬ vl x fc) : aSem (d + 1) 65 [.ref o, .int x] M N (P0 t e) nx Q ↔ Q (some (.int (nI 0))) M N (P0 t e) nx := by
  have c := hc
  unfold wfC at c
  by_cases h0 : x < 0
  · simp only [A65, B65_0, B65_4, B65_12, B65_16, B65_17, false_imp_iff, true_imp_iff, not_false_eq_true, not_true_eq_false, true_and, and_true, implies_true, qn_self, rI_i, rJ_l, rV_n, okZ0, okZ1, oT hn ho, hT.2.2.1, h0]
  · simp only [A65, B65_0, B65_4, B65_12, B65_16, B65_17, false_imp_iff, true_imp_iff, not_false_eq_true, not_true_eq_false, true_and, and_true, implies_true, qn_self, rI_i, rJ_l, rV_n, okZ0, okZ1, oT hn ho, hT.2.2.1, h0, vl_lt0 hx (by omega) h0]
theorem s66 (hn : 44 ≤ nx) (ho : isT o) (hT : TD M o ln is fc dn row nd) (hc : wfC ln is fc dn) {l : Nat} (hl : l < dn) : aSem (d + 1) 66 [.ref o, .int (nI l)] M N (P0 t e) nx Q ↔ Q (some (.int (nI 1))) M N (P0 t e) nx := by
  have c := hc
  unfold wfC at c
  simp only [A66, B66_0, B66_4, B66_12, B66_16, B66_17, false_imp_iff, true_imp_iff, not_false_eq_true, not_true_eq_false, true_and, and_true, implies_true, qn_self, rI_i, rJ_l, rV_n, okZ0, okZ1, oT hn ho, hT.2.2.2.1, nI_pos (show l < 2 ^ 31 by omega), nI_ge hl (show dn < 2 ^ 31 by omega)]
theorem s66n (hn : 44 ≤ nx) (ho : isT o) (hT : TD M o ln is fc dn row nd) (hc : wfC ln is fc dn) {x : Int32} (hx : ¬ vl x dn) : aSem (d + 1) 66 [.ref o, .int x] M N (P0 t e) nx Q ↔ Q (some (.int (nI 0))) M N (P0 t e) nx := by
  have c := hc
  unfold wfC at c
  by_cases h0 : x < 0
  · simp only [A66, B66_0, B66_4, B66_12, B66_16, B66_17, false_imp_iff, true_imp_iff, not_false_eq_true, not_true_eq_false, true_and, and_true, implies_true, qn_self, rI_i, rJ_l, rV_n, okZ0, okZ1, oT hn ho, hT.2.2.2.1, h0]
  · simp only [A66, B66_0, B66_4, B66_12, B66_16, B66_17, false_imp_iff, true_imp_iff, not_false_eq_true, not_true_eq_false, true_and, and_true, implies_true, qn_self, rI_i, rJ_l, rV_n, okZ0, okZ1, oT hn ho, hT.2.2.2.1, h0, vl_lt0 hx (by omega) h0]
-- hasBoth
theorem s67 (hn : 44 ≤ nx) (ho : isT o) (hT : TD M o ln is fc dn row nd) (hc : wfC ln is fc dn) {l i : Nat} (hl : l < ln) (hi : i < is) : aSem (d + 2) 67 [.ref o, .int (nI l), .int (nI i)] M N (P0 t e) nx Q ↔ Q (some (.int (nI 1))) M N (P0 t e) nx := by
  simp only [A67, B67_0, B67_8, B67_16, B67_20, B67_21, false_imp_iff, true_imp_iff, not_false_eq_true, not_true_eq_false, true_and, and_true, implies_true, qn_self, rI_i, rJ_l, rV_n, okZ0, okZ1, oT hn ho, s63 hn ho hT hc hl, s64 hn ho hT hc hi, nI1, show ¬ (1 : Int32) = 0 by decide, okZ, or_true]
theorem s67n (hn : 44 ≤ nx) (ho : isT o) (hT : TD M o ln is fc dn row nd) (hc : wfC ln is fc dn) {x y : Int32} (h : ¬ (vl x ln ∧ vl y is)) : aSem (d + 2) 67 [.ref o, .int x, .int y] M N (P0 t e) nx Q ↔ Q (some (.int (nI 0))) M N (P0 t e) nx := by
  by_cases hx : vl x ln
  · have hy : ¬ vl y is := fun z => h ⟨hx, z⟩
    obtain ⟨l, hl, rfl⟩ := vl_of hx
    simp only [A67, B67_0, B67_8, B67_16, B67_20, B67_21, false_imp_iff, true_imp_iff, not_false_eq_true, not_true_eq_false, true_and, and_true, implies_true, qn_self, rI_i, rJ_l, rV_n, okZ0, okZ1, oT hn ho, s63 hn ho hT hc hl, s64n hn ho hT hc hy, nI1, show ¬ (1 : Int32) = 0 by decide, nI_0, okZ, true_or]
  · simp only [A67, B67_0, B67_8, B67_16, B67_20, B67_21, false_imp_iff, true_imp_iff, not_false_eq_true, not_true_eq_false, true_and, and_true, implies_true, qn_self, rI_i, rJ_l, rV_n, okZ0, okZ1, oT hn ho, s63n hn ho hT hc hx, nI_0, okZ, true_or]

theorem xT1 (hn : 44 ≤ nx) (ho : isT o) {K : Nat} {R : Nat → Prop} (h : K < 89) : (∃ k, okA nx (o + 1) 1 (nI K) k ∧ R k) ↔ R K := exA (kT1 ho) (by have := lT ho; omega) (by decide) h
theorem xT2 (hn : 44 ≤ nx) (ho : isT o) {K : Nat} {R : Nat → Prop} (h : K < 5) : (∃ k, okA nx (o + 2) 1 (nI K) k ∧ R k) ↔ R K := exA (kT2 ho) (by have := lT ho; omega) (by decide) h
/-- one less, none at 0 -/
def oI (n : Nat) : Int32 := if n = 0 then ng1 else nI (n - 1)
theorem oI_sub (n : Nat) : nI n - nI 1 = oI n := by
  unfold oI
  split
  · rename_i h
    subst h
    decide +kernel
  · rename_i h
    exact nI_sub (by omega)
theorem oI_0 : oI 0 = ng1 := rfl
theorem oI_s {n : Nat} (h : 0 < n) : oI n = nI (n - 1) := if_neg (by omega)
theorem oI_ng {n : Nat} (h : n < 2 ^ 31) : oI n = ng1 ↔ n = 0 := by
  unfold oI
  split
  · rename_i h
    simp [h]
  · rename_i h0
    simp [h0, nI_ng1 (show n - 1 < 2 ^ 31 by omega)]
theorem one0 : ¬ nI 1 = 0 := by decide +kernel
theorem ad0 {l : Nat} : nI 0 + nI l = nI l := by rw [nI_add, Nat.zero_add]
theorem ad3 {a l i : Nat} : nI a + nI l * nI 6 + nI i = nI (a + (6 * l + i)) := by rw [nI_mul, nI_add, nI_add]; congr 1; omega
-- theoryOf, landOf, issuesOf, headOf
theorem s69 (hn : 44 ≤ nx) (ho : isT o) (hT : TD M o ln is fc dn row nd) (hc : wfC ln is fc dn) {l : Nat} (hl : l < ln) : aSem (d + 2) 69 [.ref o, .int (nI l)] M N (P0 t e) nx Q ↔ Q (some (.int (nI (row l)))) M N (P0 t e) nx := by
  have c := hc
  unfold wfC at c
  simp only [A69, B69_0, B69_8, B69_19, B69_20, false_imp_iff, true_imp_iff, not_false_eq_true, not_true_eq_false, true_and, and_true, implies_true, qn_self, rI_i, rJ_l, rV_n, okZ0, okZ1, oT hn ho, s63 hn ho hT hc hl, one0, exP (pT0 ho), ad0, xT1 hn ho (show l < 89 by omega), hT.th (show l < 6 by omega)]
theorem s69n (hn : 44 ≤ nx) (ho : isT o) (hT : TD M o ln is fc dn row nd) (hc : wfC ln is fc dn) {x : Int32} (hx : ¬ vl x ln) : aSem (d + 2) 69 [.ref o, .int x] M N (P0 t e) nx Q ↔ Q (some (.int ng1)) M N (P0 t e) nx := by
  simp only [A69, B69_0, B69_8, B69_19, B69_20, false_imp_iff, true_imp_iff, not_false_eq_true, not_true_eq_false, true_and, and_true, implies_true, qn_self, rI_i, rJ_l, rV_n, okZ0, okZ1, oT hn ho, s63n hn ho hT hc hx, nI_0]
theorem s71 (hn : 44 ≤ nx) (ho : isT o) (hT : TD M o ln is fc dn row nd) (hc : wfC ln is fc dn) {l : Nat} (hl : l < fc) : aSem (d + 2) 71 [.ref o, .int (nI l)] M N (P0 t e) nx Q ↔ Q (some (.int (nI (row (6 + l))))) M N (P0 t e) nx := by
  have c := hc
  unfold wfC at c
  simp only [A71, B71_0, B71_8, B71_20, B71_21, false_imp_iff, true_imp_iff, not_false_eq_true, not_true_eq_false, true_and, and_true, implies_true, qn_self, rI_i, rJ_l, rV_n, okZ0, okZ1, oT hn ho, s65 hn ho hT hc hl, one0, exP (pT0 ho), nI_add, xT1 hn ho (show 6 + l < 89 by omega), hT.fa (show l < 5 by omega)]
theorem s71n (hn : 44 ≤ nx) (ho : isT o) (hT : TD M o ln is fc dn row nd) (hc : wfC ln is fc dn) {x : Int32} (hx : ¬ vl x fc) : aSem (d + 2) 71 [.ref o, .int x] M N (P0 t e) nx Q ↔ Q (some (.int ng1)) M N (P0 t e) nx := by
  simp only [A71, B71_0, B71_8, B71_20, B71_21, false_imp_iff, true_imp_iff, not_false_eq_true, not_true_eq_false, true_and, and_true, implies_true, qn_self, rI_i, rJ_l, rV_n, okZ0, okZ1, oT hn ho, s65n hn ho hT hc hx, nI_0]
theorem s73 (hn : 44 ≤ nx) (ho : isT o) (hT : TD M o ln is fc dn row nd) (hc : wfC ln is fc dn) {l : Nat} (hl : l < dn) : aSem (d + 2) 73 [.ref o, .int (nI l)] M N (P0 t e) nx Q ↔ Q (some (.int (nI (nd l)))) M N (P0 t e) nx := by
  have c := hc
  unfold wfC at c
  simp only [A73, B73_0, B73_8, B73_17, B73_18, false_imp_iff, true_imp_iff, not_false_eq_true, not_true_eq_false, true_and, and_true, implies_true, qn_self, rI_i, rJ_l, rV_n, okZ0, okZ1, oT hn ho, s66 hn ho hT hc hl, one0, exP (pT1 ho), xT2 hn ho (show l < 5 by omega), hT.nds hl]
theorem s73n (hn : 44 ≤ nx) (ho : isT o) (hT : TD M o ln is fc dn row nd) (hc : wfC ln is fc dn) {x : Int32} (hx : ¬ vl x dn) : aSem (d + 2) 73 [.ref o, .int x] M N (P0 t e) nx Q ↔ Q (some (.int ng1)) M N (P0 t e) nx := by
  simp only [A73, B73_0, B73_8, B73_17, B73_18, false_imp_iff, true_imp_iff, not_false_eq_true, not_true_eq_false, true_and, and_true, implies_true, qn_self, rI_i, rJ_l, rV_n, okZ0, okZ1, oT hn ho, s66n hn ho hT hc hx, nI_0]
theorem s83 (hn : 44 ≤ nx) (ho : isT o) (hT : TD M o ln is fc dn row nd) (hc : wfC ln is fc dn) {l : Nat} (hl : l < is) : aSem (d + 2) 83 [.ref o, .int (nI l)] M N (P0 t e) nx Q ↔ Q (some (.int (nI (row (83 + l))))) M N (P0 t e) nx := by
  have c := hc
  unfold wfC at c
  simp only [A83, B83_0, B83_8, B83_20, B83_21, false_imp_iff, true_imp_iff, not_false_eq_true, not_true_eq_false, true_and, and_true, implies_true, qn_self, rI_i, rJ_l, rV_n, okZ0, okZ1, oT hn ho, s64 hn ho hT hc hl, one0, exP (pT0 ho), nI_add, xT1 hn ho (show 11 + l < 89 by omega), hT.hd (by omega) hl]
theorem s83n (hn : 44 ≤ nx) (ho : isT o) (hT : TD M o ln is fc dn row nd) (hc : wfC ln is fc dn) {x : Int32} (hx : ¬ vl x is) : aSem (d + 2) 83 [.ref o, .int x] M N (P0 t e) nx Q ↔ Q (some (.int ng1)) M N (P0 t e) nx := by
  simp only [A83, B83_0, B83_8, B83_20, B83_21, false_imp_iff, true_imp_iff, not_false_eq_true, not_true_eq_false, true_and, and_true, implies_true, qn_self, rI_i, rJ_l, rV_n, okZ0, okZ1, oT hn ho, s64n hn ho hT hc hx, nI_0]
theorem s74 (hn : 44 ≤ nx) (ho : isT o) (hT : TD M o ln is fc dn row nd) (hc : wfC ln is fc dn) {l i : Nat} (hl : l < ln) (hi : i < is) : aSem (d + 3) 74 [.ref o, .int (nI l), .int (nI i)] M N (P0 t e) nx Q ↔ Q (some (.int (nI (row (47 + (6 * l + i)))))) M N (P0 t e) nx := by
  have c := hc
  unfold wfC at c
  simp only [A74, B74_0, B74_9, B74_26, B74_27, false_imp_iff, true_imp_iff, not_false_eq_true, not_true_eq_false, true_and, and_true, implies_true, qn_self, rI_i, rJ_l, rV_n, okZ0, okZ1, oT hn ho, s67 hn ho hT hc hl hi, one0, exP (pT0 ho), ad3, xT1 hn ho (show 53 + (6 * l + i) < 89 by omega), hT.la (show 6 * l + i < 36 by omega)]
theorem s74n (hn : 44 ≤ nx) (ho : isT o) (hT : TD M o ln is fc dn row nd) (hc : wfC ln is fc dn) {x y : Int32} (hx : ¬ (vl x ln ∧ vl y is)) : aSem (d + 3) 74 [.ref o, .int x, .int y] M N (P0 t e) nx Q ↔ Q (some (.int ng1)) M N (P0 t e) nx := by
  simp only [A74, B74_0, B74_9, B74_26, B74_27, false_imp_iff, true_imp_iff, not_false_eq_true, not_true_eq_false, true_and, and_true, implies_true, qn_self, rI_i, rJ_l, rV_n, okZ0, okZ1, oT hn ho, s67n hn ho hT hc hx, nI_0]
theorem s76 (hn : 44 ≤ nx) (ho : isT o) (hT : TD M o ln is fc dn row nd) (hc : wfC ln is fc dn) {l i : Nat} (hl : l < ln) (hi : i < is) : aSem (d + 3) 76 [.ref o, .int (nI l), .int (nI i)] M N (P0 t e) nx Q ↔ Q (some (.int (oI (row (11 + (6 * l + i)))))) M N (P0 t e) nx := by
  have c := hc
  unfold wfC at c
  simp only [A76, B76_0, B76_9, B76_28, B76_29, false_imp_iff, true_imp_iff, not_false_eq_true, not_true_eq_false, true_and, and_true, implies_true, qn_self, rI_i, rJ_l, rV_n, okZ0, okZ1, oT hn ho, s67 hn ho hT hc hl hi, one0, exP (pT0 ho), ad3, xT1 hn ho (show 17 + (6 * l + i) < 89 by omega), hT.ru (show 6 * l + i < 36 by omega), oI_sub]
theorem s76n (hn : 44 ≤ nx) (ho : isT o) (hT : TD M o ln is fc dn row nd) (hc : wfC ln is fc dn) {x y : Int32} (hx : ¬ (vl x ln ∧ vl y is)) : aSem (d + 3) 76 [.ref o, .int x, .int y] M N (P0 t e) nx Q ↔ Q (some (.int ng1)) M N (P0 t e) nx := by
  simp only [A76, B76_0, B76_9, B76_28, B76_29, false_imp_iff, true_imp_iff, not_false_eq_true, not_true_eq_false, true_and, and_true, implies_true, qn_self, rI_i, rJ_l, rV_n, okZ0, okZ1, oT hn ho, s67n hn ho hT hc hx, nI_0]
theorem shr1 : ∀ k, k < 16 → nI k >>> (nI 1 &&& 31) = nI (k / 2) := by decide +kernel
theorem and1 : ∀ k, k < 16 → (nI k &&& nI 1 = nI 1 ↔ k % 2 = 1) := by decide +kernel
theorem s78 {k : Nat} (hk : k < 16) : aSem (d + 1) 78 [.int (nI k)] M N (P0 t e) nx Q ↔ Q (some (.int (nI (k / 2)))) M N (P0 t e) nx := by
  simp only [A78, B78_0, false_imp_iff, true_imp_iff, not_false_eq_true, not_true_eq_false, true_and, and_true, implies_true, qn_self, rI_i, rJ_l, rV_n, okZ0, okZ1, shr1 k hk]
theorem s79 {k : Nat} (hk : k < 16) : aSem (d + 1) 79 [.int (nI k)] M N (P0 t e) nx Q ↔ Q (some (.int (if k % 2 = 1 then nI 1 else nI 0))) M N (P0 t e) nx := by
  by_cases h : k % 2 = 1
  · simp only [A79, B79_0, B79_7, B79_11, B79_12, false_imp_iff, true_imp_iff, not_false_eq_true, not_true_eq_false, true_and, and_true, implies_true, qn_self, rI_i, rJ_l, rV_n, okZ0, okZ1, and1 k hk, h, if_true]
  · simp only [A79, B79_0, B79_7, B79_11, B79_12, false_imp_iff, true_imp_iff, not_false_eq_true, not_true_eq_false, true_and, and_true, implies_true, qn_self, rI_i, rJ_l, rV_n, okZ0, okZ1, and1 k hk, h, if_false]
theorem pw6 : ∀ l, l < 7 → (nI 1 <<< (nI l &&& 31)) - nI 1 = nI (2 ^ l - 1) := by decide +kernel
theorem s68 (hn : 44 ≤ nx) (ho : isT o) (hT : TD M o ln is fc dn row nd) (hc : wfC ln is fc dn) : aSem (d + 1) 68 [.ref o] M N (P0 t e) nx Q ↔ Q (some (.int (nI (2 ^ ln - 1)))) M N (P0 t e) nx := by
  simp only [A68, B68_0, false_imp_iff, true_imp_iff, not_false_eq_true, not_true_eq_false, true_and, and_true, implies_true, qn_self, rI_i, rJ_l, rV_n, okZ0, okZ1, oT hn ho, hT.1, pw6 ln (by have := hc.1; omega)]
theorem s70 (hn : 44 ≤ nx) (ho : isT o) (hT : TD M o ln is fc dn row nd) (hc : wfC ln is fc dn) {l : Nat} {v : Int32} (hl : l < ln) : aSem (d + 2) 70 [.ref o, .int (nI l), .int v] M N (P0 t e) nx Q ↔ Q none (uM M (o + 1) l v) N (P0 t e) nx := by
  have c := hc
  unfold wfC at c
  simp only [A70, B70_0, B70_8, B70_17, false_imp_iff, true_imp_iff, not_false_eq_true, not_true_eq_false, true_and, and_true, implies_true, qn_self, rI_i, rJ_l, rV_n, okZ0, okZ1, oT hn ho, s63 hn ho hT hc hl, one0, exP (pT0 ho), ad0, xT1 hn ho (show l < 89 by omega)]
theorem s72 (hn : 44 ≤ nx) (ho : isT o) (hT : TD M o ln is fc dn row nd) (hc : wfC ln is fc dn) {l : Nat} {v : Int32} (hl : l < fc) : aSem (d + 2) 72 [.ref o, .int (nI l), .int v] M N (P0 t e) nx Q ↔ Q none (uM M (o + 1) (6 + l) v) N (P0 t e) nx := by
  have c := hc
  unfold wfC at c
  simp only [A72, B72_0, B72_8, B72_18, false_imp_iff, true_imp_iff, not_false_eq_true, not_true_eq_false, true_and, and_true, implies_true, qn_self, rI_i, rJ_l, rV_n, okZ0, okZ1, oT hn ho, s65 hn ho hT hc hl, one0, exP (pT0 ho), nI_add, xT1 hn ho (show 6 + l < 89 by omega)]
theorem s75 (hn : 44 ≤ nx) (ho : isT o) (hT : TD M o ln is fc dn row nd) (hc : wfC ln is fc dn) {l i : Nat} {v : Int32} (hl : l < ln) (hi : i < is) : aSem (d + 3) 75 [.ref o, .int (nI l), .int (nI i), .int v] M N (P0 t e) nx Q ↔ Q none (uM M (o + 1) (53 + (6 * l + i)) v) N (P0 t e) nx := by
  have c := hc
  unfold wfC at c
  simp only [A75, B75_0, B75_9, B75_24, false_imp_iff, true_imp_iff, not_false_eq_true, not_true_eq_false, true_and, and_true, implies_true, qn_self, rI_i, rJ_l, rV_n, okZ0, okZ1, oT hn ho, s67 hn ho hT hc hl hi, one0, exP (pT0 ho), ad3, xT1 hn ho (show 53 + (6 * l + i) < 89 by omega)]
theorem s77a (hn : 44 ≤ nx) (ho : isT o) (hT : TD M o ln is fc dn row nd) (hc : wfC ln is fc dn) {l i f : Nat} (hl : l < ln) (hi : i < is) (hf : f < fc) : aSem (d + 3) 77 [.ref o, .int (nI l), .int (nI i), .int (nI f), .int (nI 1)] M N (P0 t e) nx Q ↔ Q none (uM M (o + 1) (17 + (6 * l + i)) (nI (2 * f + 2))) N (P0 t e) nx := by
  have c := hc
  unfold wfC at c
  simp only [A77, B77_0, B77_9, B77_14, B77_18, B77_26, B77_30, B77_31, B77_32, B77_52, false_imp_iff, true_imp_iff, not_false_eq_true, not_true_eq_false, true_and, and_true, implies_true, qn_self, rI_i, rJ_l, rV_n, okZ0, okZ1, oT hn ho, s67 hn ho hT hc hl hi, one0, exP (pT0 ho), nI_ng1 (show f < 2 ^ 31 by omega), nI_mul, nI_add, xT1 hn ho (show 17 + l * 6 + i < 89 by omega)]
  rw [show 17 + l * 6 + i = 17 + (6 * l + i) by omega]
theorem s77b (hn : 44 ≤ nx) (ho : isT o) (hT : TD M o ln is fc dn row nd) (hc : wfC ln is fc dn) {l i f : Nat} (hl : l < ln) (hi : i < is) (hf : f < fc) : aSem (d + 3) 77 [.ref o, .int (nI l), .int (nI i), .int (nI f), .int (nI 0)] M N (P0 t e) nx Q ↔ Q none (uM M (o + 1) (17 + (6 * l + i)) (nI (2 * f + 1))) N (P0 t e) nx := by
  have c := hc
  unfold wfC at c
  simp only [A77, B77_0, B77_9, B77_14, B77_18, B77_26, B77_30, B77_31, B77_32, B77_52, false_imp_iff, true_imp_iff, not_false_eq_true, not_true_eq_false, true_and, and_true, implies_true, qn_self, rI_i, rJ_l, rV_n, okZ0, okZ1, oT hn ho, s67 hn ho hT hc hl hi, one0, eq_true nI_0, exP (pT0 ho), nI_ng1 (show f < 2 ^ 31 by omega), nI_mul, nI_add, Nat.add_zero, xT1 hn ho (show 17 + l * 6 + i < 89 by omega)]
  rw [show 17 + l * 6 + i = 17 + (6 * l + i) by omega]
theorem ng1_1 : ng1 + nI 1 = nI 0 := by decide +kernel
theorem s77n (hn : 44 ≤ nx) (ho : isT o) (hT : TD M o ln is fc dn row nd) (hc : wfC ln is fc dn) {l i : Nat} {z : Int32} (hl : l < ln) (hi : i < is) : aSem (d + 3) 77 [.ref o, .int (nI l), .int (nI i), .int ng1, .int z] M N (P0 t e) nx Q ↔ Q none (uM M (o + 1) (17 + (6 * l + i)) (nI 0)) N (P0 t e) nx := by
  have c := hc
  unfold wfC at c
  simp only [A77, B77_0, B77_9, B77_14, B77_18, B77_26, B77_30, B77_31, B77_32, B77_52, false_imp_iff, true_imp_iff, not_false_eq_true, not_true_eq_false, true_and, and_true, implies_true, qn_self, rI_i, rJ_l, rV_n, okZ0, okZ1, oT hn ho, s67 hn ho hT hc hl hi, one0, exP (pT0 ho), ad3, xT1 hn ho (show 17 + (6 * l + i) < 89 by omega), ng1_1]
/-- a cell told anew -/
theorem piC_inj {a b : Nat} (ha : a < 89) (hb : b < 89) (h : piC a = piC b) : a = b := by
  unfold piC at h
  repeat' split at h
  all_goals omega
theorem TD.set (ho : isT o) (hT : TD M o ln is fc dn row nd) {k v : Nat} (hk : k < 89) : TD (uM M (o + 1) k (nI v)) o ln is fc dn (va_up row (piC k) v) nd := by
  have n1 : ∀ j, uM M (o + 1) k (nI v) o j = M o j := fun j => by rw [uM_ne (by omega)]
  have n2 : ∀ j, uM M (o + 1) k (nI v) (o + 2) j = M (o + 2) j := fun j => by rw [uM_ne (by omega)]
  refine ⟨by rw [n1]; exact hT.1, by rw [n1]; exact hT.2.1, by rw [n1]; exact hT.2.2.1, by rw [n1]; exact hT.2.2.2.1, fun j hj hj2 => ?_, fun j hj => by rw [n2]; exact hT.2.2.2.2.2 j hj⟩
  rw [uM_eq]
  by_cases e : j = k
  · subst e
    rw [up_eq, up_eq]
  · rw [up_ne e, up_ne (fun z => e (piC_inj hj hk z))]
    exact hT.2.2.2.2.1 j hj hj2
/-- cells that a Told doesn't reach -/
theorem TD.frame {M' : aM} (hT : TD M o ln is fc dn row nd) (h0 : M' o = M o) (h1 : M' (o + 1) = M (o + 1)) (h2 : M' (o + 2) = M (o + 2)) : TD M' o ln is fc dn row nd := by
  unfold TD
  rw [h0, h1, h2]
  exact hT
end TLD
