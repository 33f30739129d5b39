/-! RENVOIDESK: what is asked, theories and deeds -/
section AS2
variable {d : Nat} {M : aM} {N : aN} {P : aP} {t e nx ln is fc dn : Nat} {row nd : Nat → Nat} {Q : aQ}
theorem s108 {x : Int32} : aSem (d + 1) 108 [.int x] M N P nx Q ↔ Q (some (.int (if vB x 5 = true then nI 1 else nI 0))) M N P nx := by
  by_cases hv : vl x 5
  · rw [if_pos (vB_t hv)]
    obtain ⟨l, hl, rfl⟩ := vl_of hv
    simp only [A108, B108_0, B108_4, B108_9, B108_13, B108_14, false_imp_iff, true_imp_iff, not_false_eq_true, not_true_eq_false, true_and, and_true, implies_true, qn_self, rI_i, rJ_l, rV_n, okZ0, okZ1, nI_pos (show l < 2 ^ 31 by omega), nI_ge hl (show 5 < 2 ^ 31 by decide)]
  · rw [if_neg (vB_f hv)]
    by_cases h0 : x < 0
    · simp only [A108, B108_0, B108_4, B108_9, B108_13, B108_14, false_imp_iff, true_imp_iff, not_false_eq_true, not_true_eq_false, true_and, and_true, implies_true, qn_self, rI_i, rJ_l, rV_n, okZ0, okZ1, h0]
    · simp only [A108, B108_0, B108_4, B108_9, B108_13, B108_14, false_imp_iff, true_imp_iff, not_false_eq_true, not_true_eq_false, true_and, and_true, implies_true, qn_self, rI_i, rJ_l, rV_n, okZ0, okZ1, h0, vl_lt0 hv (show 5 < 2 ^ 31 by decide) h0]
/-- a theory, or none for the own one -/
def isO (x : Int32) : Bool := x == ng1 || vB x 5
theorem s107 {x : Int32} : aSem (d + 2) 107 [.int x] M N P nx Q ↔ Q (some (.int (if isO x = true then nI 1 else nI 0))) M N P nx := by
  unfold isO
  by_cases h : x = ng1
  · simp only [A107, B107_0, B107_5, B107_12, B107_16, B107_17, false_imp_iff, true_imp_iff, not_false_eq_true, not_true_eq_false, true_and, and_true, implies_true, qn_self, rI_i, rJ_l, rV_n, okZ0, okZ1, h, beq_self_eq_true, Bool.true_or, if_true]
  · have hb : (x == ng1) = false := by simp [h]
    rw [hb, Bool.false_or]
    by_cases hv : vB x 5 = true
    · simp only [A107, B107_0, B107_5, B107_12, B107_16, B107_17, false_imp_iff, true_imp_iff, not_false_eq_true, not_true_eq_false, true_and, and_true, implies_true, qn_self, rI_i, rJ_l, rV_n, okZ0, okZ1, h, s108, hv, if_true, one0]
    · simp only [A107, B107_0, B107_5, B107_12, B107_16, B107_17, false_imp_iff, true_imp_iff, not_false_eq_true, not_true_eq_false, true_and, and_true, implies_true, qn_self, rI_i, rJ_l, rV_n, okZ0, okZ1, h, s108, hv, if_false, Bool.false_eq_true, eq_true nI_0]
/-- the theory that is meant -/
def thO (row : Nat → Nat) (l : Nat) (x : Int32) : Nat := if x = ng1 then row l else iN x
theorem thO_le {x : Int32} {l : Nat} (hx : isO x = true) (hr : row l ≤ 4) : thO row l x ≤ 4 := by
  unfold thO
  by_cases h : x = ng1
  · rw [if_pos h]; exact hr
  · rw [if_neg h]
    unfold isO at hx
    have hb : (x == ng1) = false := by simp [h]
    rw [hb, Bool.false_or] at hx
    obtain ⟨k, hk, rfl⟩ := vl_of (vB_i hx)
    rw [iN_nI (by omega)]; omega
theorem thO_x {x : Int32} {l : Nat} (hx : isO x = true) (h : ¬ x = ng1) : x = nI (thO row l x) := by
  unfold thO
  rw [if_neg h]
  unfold isO at hx
  have hb : (x == ng1) = false := by simp [h]
  rw [hb, Bool.false_or] at hx
  obtain ⟨k, hk, rfl⟩ := vl_of (vB_i hx)
  rw [iN_nI (by omega)]
theorem s105n (hn : 44 ≤ nx) (h : CT M t ln is fc dn row nd) {x y z : Int32} (hv : ¬ ((vl x ln ∧ vl y is) ∧ isO z = true)) : aSem (d + 5) 105 [.ref 0, .int x, .int y, .int z] M N (P0 t e) nx Q ↔ Q (some (.int ng2)) M N (P0 t e) nx := by
  obtain ⟨ho, h22, hT, hc, hw, h64⟩ := h
  by_cases h1 : vl x ln ∧ vl y is
  · have h2 : ¬ isO z = true := fun q => hv ⟨h1, q⟩
    obtain ⟨l, hl, rfl⟩ := vl_of h1.1
    obtain ⟨i, hi, rfl⟩ := vl_of h1.2
    simp only [A105, B105_0, B105_12, B105_19, false_imp_iff, true_imp_iff, not_false_eq_true, not_true_eq_false, true_and, and_true, implies_true, qn_self, rI_i, rJ_l, rV_n, okZ0, okZ1, o0 hn, oT hn ho, exP (show P0 t e 0 5 = some t from rfl), s67 hn ho hT hc hl hi, one0, s107, h2, if_false, Bool.false_eq_true, eq_true nI_0]
  · simp only [A105, B105_0, B105_19, false_imp_iff, true_imp_iff, not_false_eq_true, not_true_eq_false, true_and, and_true, implies_true, qn_self, rI_i, rJ_l, rV_n, okZ0, okZ1, o0 hn, oT hn ho, exP (show P0 t e 0 5 = some t from rfl), s67n hn ho hT hc h1, eq_true nI_0]
theorem s105 (hn : 44 ≤ nx) (h : CT M t ln is fc dn row nd) {l i : Nat} {x : Int32} (hl : l < ln) (hi : i < is) (hx : isO x = true) (hQ : ∀ M', eqQ M M' → Q (some (.int (nI (comesM (nxM row i) (whM row i) row l (thO row l x))))) M' N (P0 t e) nx) : aSem (d + 5) 105 [.ref 0, .int (nI l), .int (nI i), .int x] M N (P0 t e) nx Q := by
  obtain ⟨ho, h22, hT, hc, hw, h64⟩ := h
  have c6 := hc
  unfold wfC at c6
  have ht := thO_le (row := row) (l := l) hx (hw.ht c6.1 l hl)
  simp only [A105, B105_0, B105_12, B105_22, false_imp_iff, true_imp_iff, not_false_eq_true, not_true_eq_false, true_and, and_true, implies_true, qn_self, rI_i, rJ_l, rV_n, okZ0, okZ1, o0 hn, oT hn ho, o11 hn, exP (show P0 t e 0 5 = some t from rfl), exP (show P0 t e 0 2 = some 11 from rfl), s67 hn ho hT hc hl hi, one0, s107, hx, if_true]
  refine s32 hn ho i11 hT hc hw hi (fun M1 he1 hT1 hR1 => ?_)
  simp only [false_imp_iff, true_imp_iff, not_false_eq_true, not_true_eq_false, true_and, and_true, implies_true, qn_self, rI_i, rJ_l, rV_n, okZ0, okZ1]
  refine ⟨fun hne => ?_, fun hne => ?_⟩
  · simp only [B105_50, false_imp_iff, true_imp_iff, not_false_eq_true, not_true_eq_false, true_and, and_true, implies_true, qn_self, rI_i, rJ_l, rV_n, okZ0, okZ1, o0 hn, o11 hn, exP (show P0 t e 0 2 = some 11 from rfl)]
    have e1 : (Value.int x) = .int (nI (thO row l x)) := by rw [← thO_x hx hne]
    rw [e1]
    refine s39 hn i11 hR1 c6.1 (nxM_ok hw c6.1 c6.2.1 hi) (hw.ht c6.1) hl ht (fun M2 he2 hR2 => ?_)
    simp only [false_imp_iff, true_imp_iff, not_false_eq_true, not_true_eq_false, true_and, and_true, implies_true, qn_self, rI_i, rJ_l, rV_n, okZ0, okZ1, B105_59]
    exact hQ M2 (he1.Q.tr he2.R.Q)
  · simp only [B105_39, false_imp_iff, true_imp_iff, not_false_eq_true, not_true_eq_false, true_and, and_true, implies_true, qn_self, rI_i, rJ_l, rV_n, okZ0, okZ1, o0 hn, o11 hn, exP (show P0 t e 0 2 = some 11 from rfl)]
    have e1 : thO row l x = row l := if_pos hne
    rw [e1] at hQ
    refine s41 hn i11 hR1 c6.1 (nxM_ok hw c6.1 c6.2.1 hi) (hw.ht c6.1) hl (fun M2 he2 hR2 => ?_)
    simp only [false_imp_iff, true_imp_iff, not_false_eq_true, not_true_eq_false, true_and, and_true, implies_true, qn_self, rI_i, rJ_l, rV_n, okZ0, okZ1, B105_59]
    exact hQ M2 (he1.Q.tr he2.R.Q)
theorem s106n (hn : 44 ≤ nx) (h : CT M t ln is fc dn row nd) {x y z : Int32} (hv : ¬ ((vl x ln ∧ vl y is) ∧ isO z = true)) : aSem (d + 6) 106 [.ref 0, .int x, .int y, .int z] M N (P0 t e) nx Q ↔ Q (some (.int ng2)) M N (P0 t e) nx := by
  obtain ⟨ho, h22, hT, hc, hw, h64⟩ := h
  by_cases h1 : vl x ln ∧ vl y is
  · have h2 : ¬ isO z = true := fun q => hv ⟨h1, q⟩
    obtain ⟨l, hl, rfl⟩ := vl_of h1.1
    obtain ⟨i, hi, rfl⟩ := vl_of h1.2
    simp only [A106, B106_0, B106_12, B106_19, false_imp_iff, true_imp_iff, not_false_eq_true, not_true_eq_false, true_and, and_true, implies_true, qn_self, rI_i, rJ_l, rV_n, okZ0, okZ1, o0 hn, oT hn ho, exP (show P0 t e 0 5 = some t from rfl), s67 hn ho hT hc hl hi, one0, s107, h2, if_false, Bool.false_eq_true, eq_true nI_0]
  · simp only [A106, B106_0, B106_19, false_imp_iff, true_imp_iff, not_false_eq_true, not_true_eq_false, true_and, and_true, implies_true, qn_self, rI_i, rJ_l, rV_n, okZ0, okZ1, o0 hn, oT hn ho, exP (show P0 t e 0 5 = some t from rfl), s67n hn ho hT hc h1, eq_true nI_0]
theorem s106 (hn : 44 ≤ nx) (h : CT M t ln is fc dn row nd) {l i : Nat} {x : Int32} (hl : l < ln) (hi : i < is) (hx : isO x = true) (hQ : ∀ M', eqQ M M' → Q (some (.int (nI (row (47 + (6 * comesM (nxM row i) (whM row i) row l (thO row l x) + i)))))) M' N (P0 t e) nx) : aSem (d + 6) 106 [.ref 0, .int (nI l), .int (nI i), .int x] M N (P0 t e) nx Q := by
  obtain ⟨ho, h22, hT, hc, hw, h64⟩ := h
  have c6 := hc
  unfold wfC at c6
  have ht := thO_le (row := row) (l := l) hx (hw.ht c6.1 l hl)
  have hp := nxM_ok hw c6.1 c6.2.1 hi
  simp only [A106, B106_0, B106_12, B106_22, false_imp_iff, true_imp_iff, not_false_eq_true, not_true_eq_false, true_and, and_true, implies_true, qn_self, rI_i, rJ_l, rV_n, okZ0, okZ1, o0 hn, oT hn ho, o11 hn, exP (show P0 t e 0 5 = some t from rfl), exP (show P0 t e 0 2 = some 11 from rfl), s67 hn ho hT hc hl hi, one0, s107, hx, if_true]
  refine s32 hn ho i11 hT hc hw hi (fun M1 he1 hT1 hR1 => ?_)
  simp only [false_imp_iff, true_imp_iff, not_false_eq_true, not_true_eq_false, true_and, and_true, implies_true, qn_self, rI_i, rJ_l, rV_n, okZ0, okZ1]
  refine ⟨fun hne => ?_, fun hne => ?_⟩
  · simp only [B106_50, false_imp_iff, true_imp_iff, not_false_eq_true, not_true_eq_false, true_and, and_true, implies_true, qn_self, rI_i, rJ_l, rV_n, okZ0, okZ1, o0 hn, oT hn ho, o11 hn, exP (show P0 t e 0 2 = some 11 from rfl), exP (show P0 t e 0 5 = some t from rfl)]
    have e1 : (Value.int x) = .int (nI (thO row l x)) := by rw [← thO_x hx hne]
    rw [e1]
    refine s39 hn i11 hR1 c6.1 hp (hw.ht c6.1) hl ht (fun M2 he2 hR2 => ?_)
    simp only [false_imp_iff, true_imp_iff, not_false_eq_true, not_true_eq_false, true_and, and_true, implies_true, qn_self, rI_i, rJ_l, rV_n, okZ0, okZ1, oT hn ho, s74 hn ho (hT1.R ho i11 he2.R) hc (show comesM (nxM row i) (whM row i) row l (thO row l x) < ln from comesM_lt hp hl) hi, B106_67]
    exact hQ M2 (he1.Q.tr he2.R.Q)
  · simp only [B106_39, false_imp_iff, true_imp_iff, not_false_eq_true, not_true_eq_false, true_and, and_true, implies_true, qn_self, rI_i, rJ_l, rV_n, okZ0, okZ1, o0 hn, o11 hn, exP (show P0 t e 0 2 = some 11 from rfl)]
    have e1 : thO row l x = row l := if_pos hne
    rw [e1] at hQ
    refine s42 hn i11 hR1 c6.1 hp (hw.ht c6.1) hl (fun M2 he2 hR2 => ?_)
    simp only [false_imp_iff, true_imp_iff, not_false_eq_true, not_true_eq_false, true_and, and_true, implies_true, qn_self, rI_i, rJ_l, rV_n, okZ0, okZ1, B106_67]
    exact hQ M2 (he1.Q.tr he2.R.Q)
theorem l109 (hn : 44 ≤ nx) (h6 : ln ≤ 6) {nxt : Nat → Nat} {wh : Nat → Bool} {th la : Nat → Nat} (hp : ptOK ln nxt) (ht : ∀ l, l < ln → th l ≤ 4) {l z : Nat} (hl : l < ln) (hQ : ∀ M', eqR 11 M M' → Q (some (.int (nI z))) M' N (P0 t e) nx) : ∀ n i c M', i + n = 5 → c < 2 ^ i → eqR 11 M M' → RD M' 11 ln nxt wh th la → c + bitF (fun y => !(comesM nxt wh th l y == comesM nxt wh th l 2)) i n = z → WP (aSem (d + 4)) g0 109 nx (qn nx Q) 42 [(0, .ref 0), (1, .int (nI l)), (3, .int (nI (comesM nxt wh th l 2))), (4, .int (nI c)), (5, .int (nI i))] [] M' N (P0 t e) nx := by
  intro n
  induction n with
  | zero =>
    intro i c M' hi hc he hR hz
    simp only [B109_42, B109_77, false_imp_iff, true_imp_iff, not_false_eq_true, not_true_eq_false, true_and, and_true, implies_true, qn_self, rI_i, rJ_l, rV_n, okZ0, okZ1, nI_le (show 5 ≤ i by omega) (show i < 2 ^ 31 by omega)]
    have := hQ M' he
    rw [← hz] at this
    exact this
  | succ n ih =>
    intro i c M' hi hc he hR hz
    have hpw : 2 ^ (i + 1) = 2 * 2 ^ i := by rw [Nat.pow_succ]; omega
    simp only [B109_42, false_imp_iff, true_imp_iff, not_false_eq_true, not_true_eq_false, true_and, and_true, implies_true, qn_self, rI_i, rJ_l, rV_n, okZ0, okZ1, nI_ge (show i < 5 by omega) (show 5 < 2 ^ 31 by decide)]
    simp only [B109_48, false_imp_iff, true_imp_iff, not_false_eq_true, not_true_eq_false, true_and, and_true, implies_true, qn_self, rI_i, rJ_l, rV_n, okZ0, okZ1, o0 hn, o11 hn, exP (show P0 t e 0 2 = some 11 from rfl)]
    refine s39 hn i11 hR h6 hp ht hl (show i ≤ 4 by omega) (fun M2 he2 hR2 => ?_)
    have b1 : comesM nxt wh th l i < ln := comesM_lt hp hl
    have b2 : comesM nxt wh th l 2 < ln := comesM_lt hp hl
    simp only [false_imp_iff, true_imp_iff, not_false_eq_true, not_true_eq_false, true_and, and_true, implies_true, qn_self, rI_i, rJ_l, rV_n, okZ0, okZ1, nI_eq (show comesM nxt wh th l i < 2 ^ 31 by omega) (show comesM nxt wh th l 2 < 2 ^ 31 by omega), B109_62, B109_71, nI_add, or6 i (by omega) c hc]
    have hz2 : c + ((if (!(comesM nxt wh th l i == comesM nxt wh th l 2)) = true then 2 ^ i else 0) + bitF (fun y => !(comesM nxt wh th l y == comesM nxt wh th l 2)) (i + 1) n) = z := hz
    refine ⟨fun h => ?_, fun h => ?_⟩
    · rw [if_neg (by simp [h]), Nat.zero_add] at hz2
      exact ih (i + 1) c M2 (by omega) (by omega) (he.tr he2.R) hR2 hz2
    · rw [if_pos (by simp [h]), ← Nat.add_assoc] at hz2
      exact ih (i + 1) (c + 2 ^ i) M2 (by omega) (by omega) (he.tr he2.R) hR2 hz2
theorem s109n (hn : 44 ≤ nx) (h : CT M t ln is fc dn row nd) {x y : Int32} (hv : ¬ (vl x ln ∧ vl y is)) : aSem (d + 5) 109 [.ref 0, .int x, .int y] M N (P0 t e) nx Q ↔ Q (some (.int ng1)) M N (P0 t e) nx := by
  obtain ⟨ho, h22, hT, hc, hw, h64⟩ := h
  simp only [A109, B109_0, B109_12, false_imp_iff, true_imp_iff, not_false_eq_true, not_true_eq_false, true_and, and_true, implies_true, qn_self, rI_i, rJ_l, rV_n, okZ0, okZ1, o0 hn, oT hn ho, exP (show P0 t e 0 5 = some t from rfl), s67n hn ho hT hc hv, eq_true nI_0]
theorem s109 (hn : 44 ≤ nx) (h : CT M t ln is fc dn row nd) {l i : Nat} (hl : l < ln) (hi : i < is) (hQ : ∀ M', eqQ M M' → Q (some (.int (nI (bitF (fun y => !(comesM (nxM row i) (whM row i) row l y == comesM (nxM row i) (whM row i) row l 2)) 0 5)))) M' N (P0 t e) nx) : aSem (d + 5) 109 [.ref 0, .int (nI l), .int (nI i)] M N (P0 t e) nx Q := by
  obtain ⟨ho, h22, hT, hc, hw, h64⟩ := h
  have c6 := hc
  unfold wfC at c6
  have hp := nxM_ok hw c6.1 c6.2.1 hi
  simp only [A109, B109_0, B109_14, false_imp_iff, true_imp_iff, not_false_eq_true, not_true_eq_false, true_and, and_true, implies_true, qn_self, rI_i, rJ_l, rV_n, okZ0, okZ1, o0 hn, oT hn ho, o11 hn, exP (show P0 t e 0 5 = some t from rfl), exP (show P0 t e 0 2 = some 11 from rfl), s67 hn ho hT hc hl hi, one0]
  refine s32 hn ho i11 hT hc hw hi (fun M1 he1 hT1 hR1 => ?_)
  simp only [false_imp_iff, true_imp_iff, not_false_eq_true, not_true_eq_false, true_and, and_true, implies_true, qn_self, rI_i, rJ_l, rV_n, okZ0, okZ1, o0 hn, o11 hn, exP (show P0 t e 0 2 = some 11 from rfl)]
  refine s39 hn i11 hR1 c6.1 hp (hw.ht c6.1) hl (show 2 ≤ 4 by decide) (fun M2 he2 hR2 => ?_)
  simp only [false_imp_iff, true_imp_iff, not_false_eq_true, not_true_eq_false, true_and, and_true, implies_true, qn_self, rI_i, rJ_l, rV_n, okZ0, okZ1]
  exact l109 hn c6.1 hp (hw.ht c6.1) hl (M := M2) (fun M' he => hQ M' (he1.Q.tr (he2.R.Q.tr he.Q))) 5 0 0 M2 (by omega) (by decide) eqR.rf hR2 (by omega)
theorem s112 {w a b : Int32} : aSem (d + 1) 112 [.int w, .int a, .int b] M N P nx Q ↔ Q (some (.int (fS w a b))) M N P nx := by
  simp only [A112, B112_0, B112_28, B112_30, B112_32, false_imp_iff, true_imp_iff, not_false_eq_true, not_true_eq_false, true_and, and_true, implies_true, qn_self, rI_i, rJ_l, rV_n, okZ0, okZ1]
  unfold fS
  by_cases h0 : w = nI 0
  · simp only [h0, false_imp_iff, true_imp_iff, not_false_eq_true, not_true_eq_false, true_and, and_true, implies_true, qn_self, rI_i, rJ_l, rV_n, okZ0, okZ1, if_true]
  · by_cases h1 : w = nI 1
    · have : ¬ nI 1 = nI 0 := by decide +kernel
      simp only [h1, this, false_imp_iff, true_imp_iff, not_false_eq_true, not_true_eq_false, true_and, and_true, implies_true, qn_self, rI_i, rJ_l, rV_n, okZ0, okZ1, if_true, if_false]
    · simp only [h0, h1, false_imp_iff, true_imp_iff, not_false_eq_true, not_true_eq_false, true_and, and_true, implies_true, qn_self, rI_i, rJ_l, rV_n, okZ0, okZ1, if_false]
/-- the first of the most -/
def arM (g : Nat → Nat) : Nat → Nat → Nat × Nat → Nat × Nat
  | 0, _, z => z
  | n + 1, l, z => arM g n (l + 1) (if g l ≤ z.2 then z else (l, g l))
theorem l110 (hn : 44 ≤ nx) (ho : isT t) (h6 : ln ≤ 6) {nxt : Nat → Nat} {wh : Nat → Bool} {th la : Nat → Nat} (hp : ptOK ln nxt) (ht : ∀ l, l < ln → th l ≤ 4) {w : Int32} {z : Nat × Nat} (hQ : ∀ M', eqR 11 M M' → Q (some (.int (fS w (nI z.1) (nI z.2)))) M' N (P0 t e) nx) : ∀ n i y M', i + n = ln → y.2 ≤ 6 → eqR 11 M M' → TD M' t ln is fc dn row nd → RD M' 11 ln nxt wh th la → arM (fun l => cntF (fun x => ownM nxt wh th x == l) 0 ln) n i y = z → WP (aSem (d + 5)) g0 110 nx (qn nx Q) 33 [(0, .ref 0), (2, .int w), (3, .int (nI y.1)), (4, .int (nI y.2)), (5, .int (nI i))] [] M' N (P0 t e) nx := by
  intro n
  induction n with
  | zero =>
    intro i y M' hi hy he hT hR hz
    have hz2 : y = z := hz
    simp only [B110_33, B110_76, false_imp_iff, true_imp_iff, not_false_eq_true, not_true_eq_false, true_and, and_true, implies_true, qn_self, rI_i, rJ_l, rV_n, okZ0, okZ1, o0 hn, oT hn ho, exP (show P0 t e 0 5 = some t from rfl), hT.1, nI_le (show ln ≤ i by omega) (show i < 2 ^ 31 by omega), s112]
    rw [hz2]
    exact hQ M' he
  | succ n ih =>
    intro i y M' hi hy he hT hR hz
    simp only [B110_33, false_imp_iff, true_imp_iff, not_false_eq_true, not_true_eq_false, true_and, and_true, implies_true, qn_self, rI_i, rJ_l, rV_n, okZ0, okZ1, o0 hn, oT hn ho, exP (show P0 t e 0 5 = some t from rfl), hT.1, nI_ge (show i < ln by omega) (show ln < 2 ^ 31 by omega)]
    simp only [B110_45, false_imp_iff, true_imp_iff, not_false_eq_true, not_true_eq_false, true_and, and_true, implies_true, qn_self, rI_i, rJ_l, rV_n, okZ0, okZ1, o0 hn, o11 hn, exP (show P0 t e 0 2 = some 11 from rfl)]
    refine s43 hn i11 hR h6 hp ht (show i < ln by omega) (fun M2 he2 hR2 => ?_)
    have b1 := cntF_le (fun x => ownM nxt wh th x == i) ln 0
    have hT2 := hT.R ho i11 he2.R
    simp only [false_imp_iff, true_imp_iff, not_false_eq_true, not_true_eq_false, true_and, and_true, implies_true, qn_self, rI_i, rJ_l, rV_n, okZ0, okZ1, nI_leI (show cntF (fun x => ownM nxt wh th x == i) 0 ln < 2 ^ 31 by omega) (show y.2 < 2 ^ 31 by omega), B110_63, B110_70, nI_add]
    have hz2 : arM (fun l => cntF (fun x => ownM nxt wh th x == l) 0 ln) n (i + 1) (if cntF (fun x => ownM nxt wh th x == i) 0 ln ≤ y.2 then y else (i, cntF (fun x => ownM nxt wh th x == i) 0 ln)) = z := hz
    refine ⟨fun h => ?_, fun h => ?_⟩
    · rw [if_pos h] at hz2
      exact ih (i + 1) y M2 (by omega) hy (he.tr he2.R) hT2 hR2 hz2
    · rw [if_neg h] at hz2
      exact ih (i + 1) _ M2 (by omega) (by show cntF (fun x => ownM nxt wh th x == i) 0 ln ≤ 6; omega) (he.tr he2.R) hT2 hR2 hz2
theorem s110n (hn : 44 ≤ nx) (h : CT M t ln is fc dn row nd) {x y : Int32} (hv : ¬ vl x is) : aSem (d + 6) 110 [.ref 0, .int x, .int y] M N (P0 t e) nx Q ↔ Q (some (.int ng1)) M N (P0 t e) nx := by
  obtain ⟨ho, h22, hT, hc, hw, h64⟩ := h
  simp only [A110, B110_0, B110_11, false_imp_iff, true_imp_iff, not_false_eq_true, not_true_eq_false, true_and, and_true, implies_true, qn_self, rI_i, rJ_l, rV_n, okZ0, okZ1, o0 hn, oT hn ho, exP (show P0 t e 0 5 = some t from rfl), s64n hn ho hT hc hv, eq_true nI_0]
theorem fS_n {w : Int32} : fS w ng1 ng1 = ng1 := by
  unfold fS
  split
  · rfl
  · split <;> rfl
theorem s110z (hn : 44 ≤ nx) (h : CT M t 0 is fc dn row nd) {i : Nat} {w : Int32} (hi : i < is) (hQ : ∀ M', eqQ M M' → Q (some (.int ng1)) M' N (P0 t e) nx) : aSem (d + 6) 110 [.ref 0, .int (nI i), .int w] M N (P0 t e) nx Q := by
  obtain ⟨ho, h22, hT, hc, hw, h64⟩ := h
  simp only [A110, B110_0, B110_13, false_imp_iff, true_imp_iff, not_false_eq_true, not_true_eq_false, true_and, and_true, implies_true, qn_self, rI_i, rJ_l, rV_n, okZ0, okZ1, o0 hn, oT hn ho, o11 hn, exP (show P0 t e 0 5 = some t from rfl), exP (show P0 t e 0 2 = some 11 from rfl), s64 hn ho hT hc hi, one0]
  refine s32 hn ho i11 hT hc hw hi (fun M1 he1 hT1 hR1 => ?_)
  simp only [false_imp_iff, true_imp_iff, not_false_eq_true, not_true_eq_false, true_and, and_true, implies_true, qn_self, rI_i, rJ_l, rV_n, okZ0, okZ1, B110_33, B110_76, o0 hn, oT hn ho, exP (show P0 t e 0 5 = some t from rfl), hT1.1, nI_le (show 0 ≤ 0 by decide) (show 0 < 2 ^ 31 by decide), s112, fS_n]
  exact hQ M1 he1.Q
theorem s110 (hn : 44 ≤ nx) (h : CT M t ln is fc dn row nd) {i : Nat} {w : Int32} (hi : i < is) (h0 : 0 < ln) {z : Nat × Nat} (hz : arM (fun l => cntF (fun x => ownLand row i x == l) 0 ln) (ln - 1) 1 (0, cntF (fun x => ownLand row i x == 0) 0 ln) = z) (hQ : ∀ M', eqQ M M' → Q (some (.int (fS w (nI z.1) (nI z.2)))) M' N (P0 t e) nx) : aSem (d + 6) 110 [.ref 0, .int (nI i), .int w] M N (P0 t e) nx Q := by
  obtain ⟨ho, h22, hT, hc, hw, h64⟩ := h
  have c6 := hc
  unfold wfC at c6
  have hp := nxM_ok hw c6.1 c6.2.1 hi
  simp only [A110, B110_0, B110_13, false_imp_iff, true_imp_iff, not_false_eq_true, not_true_eq_false, true_and, and_true, implies_true, qn_self, rI_i, rJ_l, rV_n, okZ0, okZ1, o0 hn, oT hn ho, o11 hn, exP (show P0 t e 0 5 = some t from rfl), exP (show P0 t e 0 2 = some 11 from rfl), s64 hn ho hT hc hi, one0]
  refine s32 hn ho i11 hT hc hw hi (fun M1 he1 hT1 hR1 => ?_)
  simp only [false_imp_iff, true_imp_iff, not_false_eq_true, not_true_eq_false, true_and, and_true, implies_true, qn_self, rI_i, rJ_l, rV_n, okZ0, okZ1, B110_33, o0 hn, oT hn ho, exP (show P0 t e 0 5 = some t from rfl), hT1.1, nI_ge h0 (show ln < 2 ^ 31 by omega)]
  simp only [B110_45, false_imp_iff, true_imp_iff, not_false_eq_true, not_true_eq_false, true_and, and_true, implies_true, qn_self, rI_i, rJ_l, rV_n, okZ0, okZ1, o0 hn, o11 hn, exP (show P0 t e 0 2 = some 11 from rfl)]
  refine s43 hn i11 hR1 c6.1 hp (hw.ht c6.1) h0 (fun M2 he2 hR2 => ?_)
  have b1 := cntF_le (fun x => ownM (nxM row i) (whM row i) row x == 0) ln 0
  have hT2 := hT1.R ho i11 he2.R
  simp only [false_imp_iff, true_imp_iff, not_false_eq_true, not_true_eq_false, true_and, and_true, implies_true, qn_self, rI_i, rJ_l, rV_n, okZ0, okZ1, le_ng1 (show cntF (fun x => ownM (nxM row i) (whM row i) row x == 0) 0 ln < 2 ^ 31 by omega), B110_63, B110_70, nI_add]
  exact l110 hn ho c6.1 hp (hw.ht c6.1) (M := M2) (fun M' he => hQ M' (he1.Q.tr (he2.R.Q.tr he.Q))) (ln - 1) 1 (0, cntF (fun x => ownM (nxM row i) (whM row i) row x == 0) 0 ln) M2 (by omega) (by show cntF (fun x => ownM (nxM row i) (whM row i) row x == 0) 0 ln ≤ 6; omega) eqR.rf hT2 hR2 hz
end AS2
