/-! THE REFERENCE: what is told, and what is asked of it -/
def MT (M : aM) (ln is fc dn : Nat) (row nd : Nat → Nat) : Prop := M 33 0 = nI ln ∧ M 33 1 = nI is ∧ M 33 2 = nI fc ∧ M 33 3 = nI dn ∧ (∀ k, k < 89 → M 36 k = nI (row k)) ∧ (∀ k, k < dn → M 35 k = nI (nd k)) ∧ wfC ln is fc dn ∧ wfR ln is fc row ∧ ∀ k, k < dn → nd k < 64
/-- memory but for the reference's scratch -/
def eqM (M M' : aM) : Prop := (∀ a, a ≠ 31 → a ≠ 42 → M' a = M a) ∧ ∀ k, k ≠ 0 → k ≠ 26 → k ≠ 27 → k ≠ 28 → M' 31 k = M 31 k
theorem eqM.rf {M : aM} : eqM M M := ⟨fun _ _ _ => rfl, fun _ _ _ _ _ => rfl⟩
theorem eqM.tr {M M' M'' : aM} (h : eqM M M') (h' : eqM M' M'') : eqM M M'' := ⟨fun a x y => (h'.1 a x y).trans (h.1 a x y), fun k x y z w => (h'.2 k x y z w).trans (h.2 k x y z w)⟩
theorem eqM.u {M M' : aM} {k : Nat} {v : Int32} (h : eqM M M') (hk : k = 0 ∨ k = 26 ∨ k = 27 ∨ k = 28) : eqM M (uM M' 31 k v) := ⟨fun a x y => by rw [uM_ne x]; exact h.1 a x y, fun j x y z w => by rw [uM_j (by omega)]; exact h.2 j x y z w⟩
theorem eqM.r {M M' : aM} {k : Nat} {v : Int32} (h : eqM M M') : eqM M (uM M' 42 k v) := ⟨fun a x y => by rw [uM_ne y]; exact h.1 a x y, fun j x y z w => by rw [uM_a (by decide)]; exact h.2 j x y z w⟩
theorem MT.m {M M' : aM} {ln is fc dn : Nat} {row nd : Nat → Nat} (h : MT M ln is fc dn row nd) (he : eqM M M') : MT M' ln is fc dn row nd := by
  unfold MT
  rw [he.1 33 (by decide) (by decide), he.1 35 (by decide) (by decide), he.1 36 (by decide) (by decide)]
  exact h
theorem oI_i {n : Nat} (h : n < 2 ^ 31) : (oI n).toInt = (n : Int) - 1 := by
  by_cases q : n = 0
  · subst q; rw [oI_0, ng1_i]; rfl
  · rw [oI_s (by omega), nI_toInt (by omega)]; omega
theorem wi_vl {x : Int32} {n : Nat} (h : n < 2 ^ 31) : (lN 0 ≤ x.toInt64 ∧ x.toInt64 ≤ (nI n - nI 1).toInt64) ↔ vl x n := by
  have h0 : (lN 0).toInt = 0 := by decide +kernel
  rw [Int64.le_iff_toInt_le, Int64.le_iff_toInt_le, Int32.toInt_toInt64, Int32.toInt_toInt64, h0, oI_sub, oI_i h]
  unfold vl
  omega
theorem wi_c {x : Int32} {n : Nat} (h : n < 2 ^ 31) : (lN 0 ≤ x.toInt64 ∧ x.toInt64 ≤ lN n) ↔ vl x (n + 1) := by
  have h0 : (lN 0).toInt = 0 := by decide +kernel
  have h1 : (lN n).toInt = n := by
    unfold lN
    exact Int64.toInt_ofNat_of_lt (by omega)
  rw [Int64.le_iff_toInt_le, Int64.le_iff_toInt_le, Int32.toInt_toInt64, h0, h1]
  unfold vl
  omega
theorem two0 : ¬ nI 2 = 0 := by decide +kernel
theorem dvI : ∀ k, k < 16 → nI k / nI 2 = nI (k / 2) := by decide +kernel
theorem mdI : ∀ k, k < 16 → nI k - nI (k / 2) * nI 2 = nI (k % 2) := by decide +kernel
section MOD
variable {d : Nat} {M : aM} {N : aN} {P : aP} {t e nx ln is fc dn : Nat} {row nd : Nat → Nat} {Q : aQ}
theorem s131 {a b c : Int64} : aSem (d + 1) 131 [.long a, .long b, .long c] M N P nx Q ↔ Q (some (.int (if b ≤ a ∧ a ≤ c then nI 1 else nI 0))) M N P nx := by
  by_cases h1 : a < b
  · have h2 : ¬ b ≤ a := by rw [Int64.not_le]; exact h1
    simp only [A131, B131_0, B131_6, B131_13, B131_17, B131_18, false_imp_iff, true_imp_iff, not_false_eq_true, not_true_eq_false, true_and, and_true, implies_true, qn_self, rI_i, rJ_l, rV_n, okZ0, okZ1, lg_cmp_lt, h1, h2, false_and, if_false]
  · have h2 : b ≤ a := Int64.not_lt.mp h1
    by_cases h3 : c < a
    · have h4 : ¬ a ≤ c := by rw [Int64.not_le]; exact h3
      simp only [A131, B131_0, B131_6, B131_13, B131_17, B131_18, false_imp_iff, true_imp_iff, not_false_eq_true, not_true_eq_false, true_and, and_true, implies_true, qn_self, rI_i, rJ_l, rV_n, okZ0, okZ1, lg_cmp_lt, lg_cmp_gt, h1, h2, h3, h4, and_false, if_false]
    · have h4 : a ≤ c := Int64.not_lt.mp h3
      simp only [A131, B131_0, B131_6, B131_13, B131_17, B131_18, false_imp_iff, true_imp_iff, not_false_eq_true, not_true_eq_false, true_and, and_true, implies_true, qn_self, rI_i, rJ_l, rV_n, okZ0, okZ1, lg_cmp_lt, lg_cmp_gt, h1, h2, h3, h4, if_true]
theorem vB_iff {x : Int32} {n : Nat} : vl x n ↔ vB x n = true := ⟨vB_t, vB_i⟩
theorem x33 (hn : 44 ≤ nx) {K : Nat} {R : Nat → Prop} (h : K < 8) : (∃ k, okA nx 33 1 (nI K) k ∧ R k) ↔ R K := exA (show kindOf 33 = (1, 8) from rfl) (by omega) (by decide) h
theorem x36 (hn : 44 ≤ nx) {K : Nat} {R : Nat → Prop} (h : K < 89) : (∃ k, okA nx 36 1 (nI K) k ∧ R k) ↔ R K := exA (show kindOf 36 = (1, 89) from rfl) (by omega) (by decide) h
theorem x35 (hn : 44 ≤ nx) {K : Nat} {R : Nat → Prop} (h : K < 16) : (∃ k, okA nx 35 1 (nI K) k ∧ R k) ↔ R K := exA (show kindOf 35 = (1, 16) from rfl) (by omega) (by decide) h
theorem x42 (hn : 44 ≤ nx) {K : Nat} {R : Nat → Prop} (h : K < 8) : (∃ k, okA nx 42 1 (nI K) k ∧ R k) ↔ R K := exA (show kindOf 42 = (1, 8) from rfl) (by omega) (by decide) h
theorem okZb {b : Bool} : okZ (if b = true then nI 1 else nI 0) := by
  cases b
  · exact okZ0
  · exact okZ1
theorem s156 (hn : 44 ≤ nx) (h : MT M ln is fc dn row nd) {x : Int32} : aSem (d + 2) 156 [.ref 31, .int x] M N (P0 t e) nx Q ↔ Q (some (.int (if vB x ln = true then nI 1 else nI 0))) M N (P0 t e) nx := by
  have c6 := h.2.2.2.2.2.2.1
  unfold wfC at c6
  simp only [A156, B156_0, false_imp_iff, true_imp_iff, not_false_eq_true, not_true_eq_false, true_and, and_true, implies_true, qn_self, rI_i, rJ_l, rV_n, okZ0, okZ1, o31 hn, exP (show P0 t e 31 13 = some 33 from rfl), x33 hn (show 0 < 8 by decide), h.1, s131, wi_vl (show ln < 2 ^ 31 by omega), vB_iff, okZb]
theorem s157 (hn : 44 ≤ nx) (h : MT M ln is fc dn row nd) {x : Int32} : aSem (d + 2) 157 [.ref 31, .int x] M N (P0 t e) nx Q ↔ Q (some (.int (if vB x is = true then nI 1 else nI 0))) M N (P0 t e) nx := by
  have c6 := h.2.2.2.2.2.2.1
  unfold wfC at c6
  simp only [A157, B157_0, false_imp_iff, true_imp_iff, not_false_eq_true, not_true_eq_false, true_and, and_true, implies_true, qn_self, rI_i, rJ_l, rV_n, okZ0, okZ1, o31 hn, exP (show P0 t e 31 13 = some 33 from rfl), x33 hn (show 1 < 8 by decide), h.2.1, s131, wi_vl (show is < 2 ^ 31 by omega), vB_iff, okZb]
theorem s158 (hn : 44 ≤ nx) (h : MT M ln is fc dn row nd) {x : Int32} : aSem (d + 2) 158 [.ref 31, .int x] M N (P0 t e) nx Q ↔ Q (some (.int (if vB x fc = true then nI 1 else nI 0))) M N (P0 t e) nx := by
  have c6 := h.2.2.2.2.2.2.1
  unfold wfC at c6
  simp only [A158, B158_0, false_imp_iff, true_imp_iff, not_false_eq_true, not_true_eq_false, true_and, and_true, implies_true, qn_self, rI_i, rJ_l, rV_n, okZ0, okZ1, o31 hn, exP (show P0 t e 31 13 = some 33 from rfl), x33 hn (show 2 < 8 by decide), h.2.2.1, s131, wi_vl (show fc < 2 ^ 31 by omega), vB_iff, okZb]
theorem s159 (hn : 44 ≤ nx) (h : MT M ln is fc dn row nd) {x : Int32} : aSem (d + 2) 159 [.ref 31, .int x] M N (P0 t e) nx Q ↔ Q (some (.int (if vB x dn = true then nI 1 else nI 0))) M N (P0 t e) nx := by
  have c6 := h.2.2.2.2.2.2.1
  unfold wfC at c6
  simp only [A159, B159_0, false_imp_iff, true_imp_iff, not_false_eq_true, not_true_eq_false, true_and, and_true, implies_true, qn_self, rI_i, rJ_l, rV_n, okZ0, okZ1, o31 hn, exP (show P0 t e 31 13 = some 33 from rfl), x33 hn (show 3 < 8 by decide), h.2.2.2.1, s131, wi_vl (show dn < 2 ^ 31 by omega), vB_iff, okZb]
theorem m3 {a l i : Nat} : nI a + nI 6 * nI l + nI i = nI (a + (6 * l + i)) := by rw [nI_mul, nI_add, nI_add]; congr 1; omega
theorem s160 (hn : 44 ≤ nx) (h : MT M ln is fc dn row nd) {l i : Nat} (hl : l < ln) (hi : i < is) : aSem (d + 1) 160 [.ref 31, .int (nI l), .int (nI i)] M N (P0 t e) nx Q ↔ Q (some (.int (nI (ruM row i l)))) M N (P0 t e) nx := by
  obtain ⟨g1, g2, g3, g4, g5, g6, hc, hw, h64⟩ := h
  have c6 := hc
  unfold wfC at c6
  have hh := hw.2.2.2.2 i hi
  simp only [A160, B160_0, false_imp_iff, true_imp_iff, not_false_eq_true, not_true_eq_false, true_and, and_true, implies_true, qn_self, rI_i, rJ_l, rV_n, okZ0, okZ1, o31 hn, exP (show P0 t e 31 16 = some 36 from rfl), show nI 83 + nI i = nI (83 + i) from nI_add 83 i, x36 hn (show 83 + i < 89 by omega), g5 (83 + i) (by omega), m3, x36 hn (show 11 + (6 * l + row (83 + i)) < 89 by omega), g5 (11 + (6 * l + row (83 + i))) (by omega)]
  rfl
theorem ru_b (h : MT M ln is fc dn row nd) {l i : Nat} (hl : l < ln) (hi : i < is) : ruM row i l ≤ 10 := by
  obtain ⟨g1, g2, g3, g4, g5, g6, hc, hw, h64⟩ := h
  unfold wfC at hc
  have hh := hw.2.2.2.2 i hi
  have := hw.2.2.1 (11 + (6 * l + row (83 + i))) (by omega) (by omega)
  unfold ruM
  omega
theorem ru_f (h : MT M ln is fc dn row nd) {l i : Nat} (hl : l < ln) (hi : i < is) (h0 : ¬ ruM row i l = 0) : (ruM row i l - 1) / 2 < fc := by
  obtain ⟨g1, g2, g3, g4, g5, g6, hc, hw, h64⟩ := h
  unfold wfC at hc
  have hh := hw.2.2.2.2 i hi
  have := hw.2.2.1 (11 + (6 * l + row (83 + i))) (by omega) (by omega)
  unfold ruM at h0 ⊢
  omega
theorem nI_z {n : Nat} (h : n < 2 ^ 31) : (nI n = 0) ↔ n = 0 := by rw [← nI_0]; exact nI_eq h (by decide)
theorem nI_lez {n : Nat} (h : n < 2 ^ 31) : (nI n ≤ 0) ↔ n = 0 := by rw [← nI_0, nI_leI h (by decide)]; omega
theorem le00 : nI 0 ≤ 0 := by decide +kernel
theorem s165 (hn : 44 ≤ nx) (h : MT M ln is fc dn row nd) {l i : Nat} (hl : l < ln) (hi : i < is) : aSem (d + 2) 165 [.ref 31, .int (nI l), .int (nI i)] M N (P0 t e) nx Q ↔ Q (some (.int (oI (nxM row i l)))) M N (P0 t e) nx := by
  have hb := ru_b h hl hi
  by_cases h0 : ruM row i l = 0
  · have e1 : nxM row i l = 0 := if_pos h0
    simp only [A165, B165_0, B165_9, B165_31, false_imp_iff, true_imp_iff, not_false_eq_true, not_true_eq_false, true_and, and_true, implies_true, qn_self, rI_i, rJ_l, rV_n, okZ0, okZ1, o31 hn, s160 hn h hl hi, h0, eq_true nI_0, e1, oI_0]
  · have hf := ru_f h hl hi h0
    have c6 := h.2.2.2.2.2.2.1
    unfold wfC at c6
    have e1 : oI (nxM row i l) = nI (row (6 + (ruM row i l - 1) / 2)) := by
      have : nxM row i l = row (6 + (ruM row i l - 1) / 2) + 1 := if_neg h0
      rw [this, oI_s (by omega)]; rfl
    simp only [A165, B165_0, B165_13, B165_31, false_imp_iff, true_imp_iff, not_false_eq_true, not_true_eq_false, true_and, and_true, implies_true, qn_self, rI_i, rJ_l, rV_n, okZ0, okZ1, o31 hn, exP (show P0 t e 31 16 = some 36 from rfl), s160 hn h hl hi, nI_z (show ruM row i l < 2 ^ 31 by omega), h0, two0, nI_sub (show 1 ≤ ruM row i l by omega), dvI (ruM row i l - 1) (by omega), show nI 6 + nI ((ruM row i l - 1) / 2) = nI (6 + (ruM row i l - 1) / 2) from nI_add 6 _, x36 hn (show 6 + (ruM row i l - 1) / 2 < 89 by omega), h.2.2.2.2.1 (6 + (ruM row i l - 1) / 2) (by omega), e1]
theorem s166 (hn : 44 ≤ nx) (h : MT M ln is fc dn row nd) {l i : Nat} (hl : l < ln) (hi : i < is) : aSem (d + 2) 166 [.ref 31, .int (nI l), .int (nI i)] M N (P0 t e) nx Q ↔ Q (some (.int (if whM row i l = true then nI 1 else nI 0))) M N (P0 t e) nx := by
  have hb := ru_b h hl hi
  unfold whM
  by_cases h0 : ruM row i l = 0
  · simp only [A166, B166_0, B166_27, B166_28, false_imp_iff, true_imp_iff, not_false_eq_true, not_true_eq_false, true_and, and_true, implies_true, qn_self, rI_i, rJ_l, rV_n, okZ0, okZ1, o31 hn, s160 hn h hl hi, h0, eq_true le00, beq_self_eq_true, Bool.not_true, Bool.false_and, Bool.false_eq_true, if_false]
  · have hb0 : (ruM row i l == 0) = false := by simp [h0]
    by_cases h1 : (ruM row i l - 1) % 2 = 1
    · simp only [A166, B166_0, B166_9, B166_23, B166_28, false_imp_iff, true_imp_iff, not_false_eq_true, not_true_eq_false, true_and, and_true, implies_true, qn_self, rI_i, rJ_l, rV_n, okZ0, okZ1, o31 hn, s160 hn h hl hi, nI_lez (show ruM row i l < 2 ^ 31 by omega), h0, two0, nI_sub (show 1 ≤ ruM row i l by omega), dvI (ruM row i l - 1) (by omega), mdI (ruM row i l - 1) (by omega), h1, hb0, beq_self_eq_true, Bool.not_false, Bool.true_and, if_true]
    · have h2 : (ruM row i l - 1) % 2 = 0 := by omega
      have e01 : ¬ nI 0 = nI 1 := by decide +kernel
      simp only [A166, B166_0, B166_9, B166_27, B166_28, false_imp_iff, true_imp_iff, not_false_eq_true, not_true_eq_false, true_and, and_true, implies_true, qn_self, rI_i, rJ_l, rV_n, okZ0, okZ1, o31 hn, s160 hn h hl hi, nI_lez (show ruM row i l < 2 ^ 31 by omega), h0, two0, nI_sub (show 1 ≤ ruM row i l by omega), dvI (ruM row i l - 1) (by omega), mdI (ruM row i l - 1) (by omega), h2, e01, hb0, Bool.not_false, Bool.true_and, show ((0 : Nat) == 1) = false from rfl, Bool.false_eq_true, if_false]
end MOD
