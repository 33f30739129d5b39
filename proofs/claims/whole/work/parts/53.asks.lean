/-! RENVOIDESK: what is asked -/
def vB (x : Int32) (n : Nat) : Bool := decide (0 ≤ x.toInt ∧ x.toInt < n)
theorem vB_t {x : Int32} {n : Nat} (h : vl x n) : vB x n = true := decide_eq_true h
theorem vB_i {x : Int32} {n : Nat} (h : vB x n = true) : vl x n := by
  have q : 0 ≤ x.toInt ∧ x.toInt < n := of_decide_eq_true h
  exact q
theorem vB_f {x : Int32} {n : Nat} (h : ¬ vl x n) : ¬ vB x n = true := fun q => h (vB_i q)
theorem vB_t2 {x y : Int32} {n m : Nat} (h : vl x n ∧ vl y m) : (vB x n && vB y m) = true := by rw [vB_t h.1, vB_t h.2]; rfl
theorem vB_f2 {x y : Int32} {n m : Nat} (h : ¬ (vl x n ∧ vl y m)) : ¬ (vB x n && vB y m) = true := fun q => h ⟨vB_i (Bool.and_eq_true_iff.mp q).1, vB_i (Bool.and_eq_true_iff.mp q).2⟩
def iN (x : Int32) : Nat := x.toInt.toNat
theorem iN_nI {l : Nat} (h : l < 2 ^ 31) : iN (nI l) = l := by unfold iN; rw [nI_toInt h]; rfl
/-- memory but for the scratch cells of the desk -/
def eqQ (M M' : aM) : Prop := ∀ a, (a < 11 ∨ 24 < a ∨ a = 16) → M' a = M a
theorem eqQ.rf {M : aM} : eqQ M M := fun _ _ => rfl
theorem eqQ.tr {M M' M'' : aM} (h : eqQ M M') (h' : eqQ M' M'') : eqQ M M'' := fun a x => (h' a x).trans (h a x)
theorem eqR.Q {M M' : aM} (h : eqR 11 M M') : eqQ M M' := fun a x => h a (by omega)
theorem eqD.Q {M M' : aM} (h : eqD M M') : eqQ M M' := fun a x => by
  by_cases q : a = 16
  · exact h a (by omega)
  · exact h a (by omega)
theorem i11 : isR 11 := Or.inl rfl
/-- what is told lies at t -/
def CT (M : aM) (t ln is fc dn : Nat) (row nd : Nat → Nat) : Prop := isT t ∧ t ≠ 22 ∧ TD M t ln is fc dn row nd ∧ wfC ln is fc dn ∧ wfR ln is fc row ∧ ∀ k, k < dn → nd k < 64
theorem CT.Q {M M' : aM} {t ln is fc dn : Nat} {row nd : Nat → Nat} (h : CT M t ln is fc dn row nd) (he : eqQ M M') : CT M' t ln is fc dn row nd := by
  obtain ⟨h1, h2, h3, h4⟩ := h
  refine ⟨h1, h2, h3.frame (he _ ?_) (he _ ?_) (he _ ?_), h4⟩ <;> rcases h1 with rfl | rfl | rfl <;> omega
def rdA (z : List Nat × Nat × Nat) (x : Int32) : Int32 := if x = ng1 then nI z.1.length else if vB x z.1.length = true then nI (z.1.getD (iN x) 0) else ng2
def fS (w a b : Int32) : Int32 := if w = nI 0 then a else if w = nI 1 then b else ng1
section ASK
variable {d : Nat} {M : aM} {N : aN} {t e nx ln is fc dn : Nat} {row nd : Nat → Nat} {Q : aQ}
theorem s94 (hn : 44 ≤ nx) (h : CT M t ln is fc dn row nd) {l : Nat} {w : Int32} (hl : l < ln) : aSem (d + 5) 94 [.ref 0, .int (nI l), .int w] M N (P0 t e) nx Q ↔ Q (some (.int (if w = nI 0 then nI (row l) else if w = nI 1 then nI (cntF (hasR row l) 0 is) else if w = nI 2 then nI (bitF (fun i => hasR row l (row (83 + i))) 0 is) else ng1))) M N (P0 t e) nx := by
  obtain ⟨ho, h22, hT, hc, hw, h64⟩ := h
  simp only [A94, B94_0, B94_11, B94_13, B94_40, B94_49, B94_58, B94_67, false_imp_iff, true_imp_iff, not_false_eq_true, not_true_eq_false, true_and, and_true, implies_true, qn_self, rI_i, rJ_l, rV_n, okZ0, okZ1, o0 hn, oT hn ho, exP (show P0 t e 0 5 = some t from rfl), s63 hn ho hT hc hl, one0, s69 hn ho hT hc hl, s80 hn ho hT hc hw hl, s82 hn ho hT hc hw hl]
  by_cases h0 : w = nI 0
  · simp only [h0, false_imp_iff, true_imp_iff, not_false_eq_true, not_true_eq_false, true_and, and_true, implies_true, qn_self, rI_i, rJ_l, rV_n, okZ0, okZ1, if_true]
  · by_cases h1 : w = nI 1
    · have : ¬ nI 1 = nI 0 := by decide +kernel
      simp only [h1, this, false_imp_iff, true_imp_iff, not_false_eq_true, not_true_eq_false, true_and, and_true, implies_true, qn_self, rI_i, rJ_l, rV_n, okZ0, okZ1, if_true, if_false]
    · by_cases h2 : w = nI 2
      · have e1 : ¬ nI 2 = nI 0 := by decide +kernel
        have e2 : ¬ nI 2 = nI 1 := by decide +kernel
        simp only [h2, e1, e2, false_imp_iff, true_imp_iff, not_false_eq_true, not_true_eq_false, true_and, and_true, implies_true, qn_self, rI_i, rJ_l, rV_n, okZ0, okZ1, if_true, if_false]
      · simp only [h0, h1, h2, false_imp_iff, true_imp_iff, not_false_eq_true, not_true_eq_false, true_and, and_true, implies_true, qn_self, rI_i, rJ_l, rV_n, okZ0, okZ1, if_false]
theorem s94n (hn : 44 ≤ nx) (h : CT M t ln is fc dn row nd) {x w : Int32} (hl : ¬ vl x ln) : aSem (d + 5) 94 [.ref 0, .int x, .int w] M N (P0 t e) nx Q ↔ Q (some (.int ng1)) M N (P0 t e) nx := by
  obtain ⟨ho, h22, hT, hc, hw, h64⟩ := h
  simp only [A94, B94_0, B94_11, false_imp_iff, true_imp_iff, not_false_eq_true, not_true_eq_false, true_and, and_true, implies_true, qn_self, rI_i, rJ_l, rV_n, okZ0, okZ1, o0 hn, oT hn ho, exP (show P0 t e 0 5 = some t from rfl), s63n hn ho hT hc hl, eq_true nI_0]
theorem s95 (hn : 44 ≤ nx) (h : CT M t ln is fc dn row nd) {x : Int32} : aSem (d + 3) 95 [.ref 0, .int x] M N (P0 t e) nx Q ↔ Q (some (.int (if vB x fc = true then nI (row (6 + iN x)) else ng1))) M N (P0 t e) nx := by
  obtain ⟨ho, h22, hT, hc, hw, h64⟩ := h
  have c6 := hc
  unfold wfC at c6
  by_cases hv : vl x fc
  · rw [if_pos (vB_t hv)]
    obtain ⟨l, hl, rfl⟩ := vl_of hv
    simp only [A95, B95_0, false_imp_iff, true_imp_iff, not_false_eq_true, not_true_eq_false, true_and, and_true, implies_true, qn_self, rI_i, rJ_l, rV_n, okZ0, okZ1, o0 hn, oT hn ho, exP (show P0 t e 0 5 = some t from rfl), s71 hn ho hT hc hl, iN_nI (show l < 2 ^ 31 by omega)]
  · rw [if_neg (vB_f hv)]
    simp only [A95, B95_0, false_imp_iff, true_imp_iff, not_false_eq_true, not_true_eq_false, true_and, and_true, implies_true, qn_self, rI_i, rJ_l, rV_n, okZ0, okZ1, o0 hn, oT hn ho, exP (show P0 t e 0 5 = some t from rfl), s71n hn ho hT hc hv]
theorem s97 (hn : 44 ≤ nx) (h : CT M t ln is fc dn row nd) {x y : Int32} : aSem (d + 4) 97 [.ref 0, .int x, .int y] M N (P0 t e) nx Q ↔ Q (some (.int (if (vB x ln && vB y is) = true then nI (row (47 + (6 * iN x + iN y))) else ng1))) M N (P0 t e) nx := by
  obtain ⟨ho, h22, hT, hc, hw, h64⟩ := h
  have c6 := hc
  unfold wfC at c6
  by_cases hv : vl x ln ∧ vl y is
  · rw [if_pos (vB_t2 hv)]
    obtain ⟨l, hl, rfl⟩ := vl_of hv.1
    obtain ⟨i, hi, rfl⟩ := vl_of hv.2
    simp only [A97, B97_0, false_imp_iff, true_imp_iff, not_false_eq_true, not_true_eq_false, true_and, and_true, implies_true, qn_self, rI_i, rJ_l, rV_n, okZ0, okZ1, o0 hn, oT hn ho, exP (show P0 t e 0 5 = some t from rfl), s74 hn ho hT hc hl hi, iN_nI (show l < 2 ^ 31 by omega), iN_nI (show i < 2 ^ 31 by omega)]
  · rw [if_neg (vB_f2 hv)]
    simp only [A97, B97_0, false_imp_iff, true_imp_iff, not_false_eq_true, not_true_eq_false, true_and, and_true, implies_true, qn_self, rI_i, rJ_l, rV_n, okZ0, okZ1, o0 hn, oT hn ho, exP (show P0 t e 0 5 = some t from rfl), s74n hn ho hT hc hv]
theorem s98 (hn : 44 ≤ nx) (h : CT M t ln is fc dn row nd) {x : Int32} : aSem (d + 3) 98 [.ref 0, .int x] M N (P0 t e) nx Q ↔ Q (some (.int (if vB x is = true then nI (row (83 + iN x)) else ng1))) M N (P0 t e) nx := by
  obtain ⟨ho, h22, hT, hc, hw, h64⟩ := h
  have c6 := hc
  unfold wfC at c6
  by_cases hv : vl x is
  · rw [if_pos (vB_t hv)]
    obtain ⟨l, hl, rfl⟩ := vl_of hv
    simp only [A98, B98_0, false_imp_iff, true_imp_iff, not_false_eq_true, not_true_eq_false, true_and, and_true, implies_true, qn_self, rI_i, rJ_l, rV_n, okZ0, okZ1, o0 hn, oT hn ho, exP (show P0 t e 0 5 = some t from rfl), s83 hn ho hT hc hl, iN_nI (show l < 2 ^ 31 by omega)]
  · rw [if_neg (vB_f hv)]
    simp only [A98, B98_0, false_imp_iff, true_imp_iff, not_false_eq_true, not_true_eq_false, true_and, and_true, implies_true, qn_self, rI_i, rJ_l, rV_n, okZ0, okZ1, o0 hn, oT hn ho, exP (show P0 t e 0 5 = some t from rfl), s83n hn ho hT hc hv]
theorem s99 (hn : 44 ≤ nx) (h : CT M t ln is fc dn row nd) {x : Int32} : aSem (d + 3) 99 [.ref 0, .int x] M N (P0 t e) nx Q ↔ Q (some (.int (if vB x dn = true then nI (nd (iN x)) else ng1))) M N (P0 t e) nx := by
  obtain ⟨ho, h22, hT, hc, hw, h64⟩ := h
  have c6 := hc
  unfold wfC at c6
  by_cases hv : vl x dn
  · rw [if_pos (vB_t hv)]
    obtain ⟨l, hl, rfl⟩ := vl_of hv
    simp only [A99, B99_0, false_imp_iff, true_imp_iff, not_false_eq_true, not_true_eq_false, true_and, and_true, implies_true, qn_self, rI_i, rJ_l, rV_n, okZ0, okZ1, o0 hn, oT hn ho, exP (show P0 t e 0 5 = some t from rfl), s73 hn ho hT hc hl, iN_nI (show l < 2 ^ 31 by omega)]
  · rw [if_neg (vB_f hv)]
    simp only [A99, B99_0, false_imp_iff, true_imp_iff, not_false_eq_true, not_true_eq_false, true_and, and_true, implies_true, qn_self, rI_i, rJ_l, rV_n, okZ0, okZ1, o0 hn, oT hn ho, exP (show P0 t e 0 5 = some t from rfl), s73n hn ho hT hc hv]
theorem s100n (hn : 44 ≤ nx) (h : CT M t ln is fc dn row nd) {x y z : Int32} (hv : ¬ (vl x ln ∧ vl y is)) : aSem (d + 5) 100 [.ref 0, .int x, .int y, .int z] M N (P0 t e) nx Q ↔ Q (some (.int ng2)) M N (P0 t e) nx := by
  obtain ⟨ho, h22, hT, hc, hw, h64⟩ := h
  simp only [A100, B100_0, B100_12, false_imp_iff, true_imp_iff, not_false_eq_true, not_true_eq_false, true_and, and_true, implies_true, qn_self, rI_i, rJ_l, rV_n, okZ0, okZ1, o0 hn, oT hn ho, exP (show P0 t e 0 5 = some t from rfl), s67n hn ho hT hc hv, eq_true nI_0]
theorem s100 (hn : 44 ≤ nx) (h : CT M t ln is fc dn row nd) {l i : Nat} {x : Int32} (hl : l < ln) (hi : i < is) (hQ : ∀ M', eqQ M M' → Q (some (.int (rdA (road (nxM row i) (whM row i) l) x))) M' N (P0 t e) nx) : aSem (d + 5) 100 [.ref 0, .int (nI l), .int (nI i), .int x] M N (P0 t e) nx Q := by
  obtain ⟨ho, h22, hT, hc, hw, h64⟩ := h
  have c6 := hc
  unfold wfC at c6
  simp only [A100, B100_0, B100_15, false_imp_iff, true_imp_iff, not_false_eq_true, not_true_eq_false, true_and, and_true, implies_true, qn_self, rI_i, rJ_l, rV_n, okZ0, okZ1, o0 hn, oT hn ho, o11 hn, exP (show P0 t e 0 5 = some t from rfl), exP (show P0 t e 0 2 = some 11 from rfl), s67 hn ho hT hc hl hi, one0]
  refine s32 hn ho i11 hT hc hw hi (fun M1 he1 hT1 hR1 => ?_)
  simp only [false_imp_iff, true_imp_iff, not_false_eq_true, not_true_eq_false, true_and, and_true, implies_true, qn_self, rI_i, rJ_l, rV_n, okZ0, okZ1, o0 hn, o11 hn, exP (show P0 t e 0 2 = some 11 from rfl)]
  refine s35 hn i11 hR1 c6.1 (nxM_ok hw c6.1 c6.2.1 hi) hl (fun M2 he2 hR2 hk => ?_)
  have hq := hQ M2 (he1.Q.tr he2.R.Q)
  have hlen := road_len (nxt := nxM row i) (wh := whM row i) (l := l)
  unfold rdA at hq
  simp only [false_imp_iff, true_imp_iff, not_false_eq_true, not_true_eq_false, true_and, and_true, implies_true, qn_self, rI_i, rJ_l, rV_n, okZ0, okZ1]
  refine ⟨fun hx => ?_, fun hx => ?_⟩
  · rw [if_neg hx] at hq
    by_cases hv : vl x (road (nxM row i) (whM row i) l).1.length
    · rw [if_pos (vB_t hv)] at hq
      obtain ⟨k, hk2, rfl⟩ := vl_of hv
      rw [iN_nI (by omega)] at hq
      simp only [B100_50, B100_58, false_imp_iff, true_imp_iff, not_false_eq_true, not_true_eq_false, true_and, and_true, implies_true, qn_self, rI_i, rJ_l, rV_n, okZ0, okZ1, o0 hn, o11 hn, exP (show P0 t e 0 2 = some 11 from rfl), s36 hn i11 hk hlen hk2]
      exact hq
    · rw [if_neg (vB_f hv)] at hq
      simp only [B100_50, B100_58, false_imp_iff, true_imp_iff, not_false_eq_true, not_true_eq_false, true_and, and_true, implies_true, qn_self, rI_i, rJ_l, rV_n, okZ0, okZ1, o0 hn, o11 hn, exP (show P0 t e 0 2 = some 11 from rfl), s36n hn i11 hk hlen hv]
      exact hq
  · rw [if_pos hx] at hq
    simp only [B100_40, B100_58, false_imp_iff, true_imp_iff, not_false_eq_true, not_true_eq_false, true_and, and_true, implies_true, qn_self, rI_i, rJ_l, rV_n, okZ0, okZ1, o0 hn, o11 hn, exP (show P0 t e 0 2 = some 11 from rfl), hk.1]
    exact hq
theorem s101n (hn : 44 ≤ nx) (h : CT M t ln is fc dn row nd) {x y z : Int32} (hv : ¬ (vl x ln ∧ vl y is)) : aSem (d + 5) 101 [.ref 0, .int x, .int y, .int z] M N (P0 t e) nx Q ↔ Q (some (.int ng1)) M N (P0 t e) nx := by
  obtain ⟨ho, h22, hT, hc, hw, h64⟩ := h
  simp only [A101, B101_0, B101_12, false_imp_iff, true_imp_iff, not_false_eq_true, not_true_eq_false, true_and, and_true, implies_true, qn_self, rI_i, rJ_l, rV_n, okZ0, okZ1, o0 hn, oT hn ho, exP (show P0 t e 0 5 = some t from rfl), s67n hn ho hT hc hv, eq_true nI_0]
theorem s101 (hn : 44 ≤ nx) (h : CT M t ln is fc dn row nd) {l i : Nat} {x : Int32} (hl : l < ln) (hi : i < is) (hQ : ∀ M', eqQ M M' → Q (some (.int (fS x (nI (road (nxM row i) (whM row i) l).2.1) (nI (road (nxM row i) (whM row i) l).2.2)))) M' N (P0 t e) nx) : aSem (d + 5) 101 [.ref 0, .int (nI l), .int (nI i), .int x] M N (P0 t e) nx Q := by
  obtain ⟨ho, h22, hT, hc, hw, h64⟩ := h
  have c6 := hc
  unfold wfC at c6
  simp only [A101, B101_0, B101_14, false_imp_iff, true_imp_iff, not_false_eq_true, not_true_eq_false, true_and, and_true, implies_true, qn_self, rI_i, rJ_l, rV_n, okZ0, okZ1, o0 hn, oT hn ho, o11 hn, exP (show P0 t e 0 5 = some t from rfl), exP (show P0 t e 0 2 = some 11 from rfl), s67 hn ho hT hc hl hi, one0]
  refine s32 hn ho i11 hT hc hw hi (fun M1 he1 hT1 hR1 => ?_)
  simp only [false_imp_iff, true_imp_iff, not_false_eq_true, not_true_eq_false, true_and, and_true, implies_true, qn_self, rI_i, rJ_l, rV_n, okZ0, okZ1, o0 hn, o11 hn, exP (show P0 t e 0 2 = some 11 from rfl)]
  refine s35 hn i11 hR1 c6.1 (nxM_ok hw c6.1 c6.2.1 hi) hl (fun M2 he2 hR2 hk => ?_)
  have hq := hQ M2 (he1.Q.tr he2.R.Q)
  unfold fS at hq
  simp only [false_imp_iff, true_imp_iff, not_false_eq_true, not_true_eq_false, true_and, and_true, implies_true, qn_self, rI_i, rJ_l, rV_n, okZ0, okZ1, B101_60, B101_68, B101_76, o0 hn, o11 hn, exP (show P0 t e 0 2 = some 11 from rfl), hk.2.1, hk.2.2.1]
  refine ⟨fun h0 => ?_, fun h0 => ⟨fun h1 => ?_, fun h1 => ?_⟩⟩
  · rw [if_pos h0] at hq; exact hq
  · rw [if_neg h0, if_pos h1] at hq; exact hq
  · rw [if_neg h0, if_neg h1] at hq; exact hq
theorem l102 (hn : 44 ≤ nx) (ho : isT t) (h6 : ln ≤ 6) {nxt : Nat → Nat} {wh : Nat → Bool} {th la : Nat → Nat} (hp : ptOK ln nxt) {z : Nat} (hQ : ∀ M', eqR 11 M M' → Q (some (.int (nI z))) M' N (P0 t e) nx) : ∀ n i c M', i + n = ln → c < 2 ^ i → eqR 11 M M' → TD M' t ln is fc dn row nd → RD M' 11 ln nxt wh th la → c + bitF (fun x => (road nxt wh x).2.1 == 3) i n = z → WP (aSem (d + 4)) g0 102 nx (qn nx Q) 29 [(0, .ref 0), (2, .int (nI c)), (3, .int (nI i))] [] M' N (P0 t e) nx := by
  intro n
  induction n with
  | zero =>
    intro i c M' hi hc he hT hR hz
    simp only [B102_29, B102_71, false_imp_iff, true_imp_iff, not_false_eq_true, not_true_eq_false, true_and, and_true, implies_true, qn_self, rI_i, rJ_l, rV_n, okZ0, okZ1, o0 hn, oT hn ho, exP (show P0 t e 0 5 = some t from rfl), hT.1, nI_le (show ln ≤ i by omega) (show i < 2 ^ 31 by omega)]
    have := hQ M' he
    rw [← hz] at this
    exact this
  | succ n ih =>
    intro i c M' hi hc he hT hR hz
    have hpw : 2 ^ (i + 1) = 2 * 2 ^ i := by rw [Nat.pow_succ]; omega
    simp only [B102_29, false_imp_iff, true_imp_iff, not_false_eq_true, not_true_eq_false, true_and, and_true, implies_true, qn_self, rI_i, rJ_l, rV_n, okZ0, okZ1, o0 hn, oT hn ho, exP (show P0 t e 0 5 = some t from rfl), hT.1, nI_ge (show i < ln by omega) (show ln < 2 ^ 31 by omega)]
    simp only [B102_40, false_imp_iff, true_imp_iff, not_false_eq_true, not_true_eq_false, true_and, and_true, implies_true, qn_self, rI_i, rJ_l, rV_n, okZ0, okZ1, o0 hn, o11 hn, exP (show P0 t e 0 2 = some 11 from rfl)]
    refine s35 hn i11 hR h6 hp (show i < ln by omega) (fun M2 he2 hR2 hk => ?_)
    have h9 := road_how (nxt := nxt) (wh := wh) (l := i)
    simp only [false_imp_iff, true_imp_iff, not_false_eq_true, not_true_eq_false, true_and, and_true, implies_true, qn_self, rI_i, rJ_l, rV_n, okZ0, okZ1, o0 hn, o11 hn, exP (show P0 t e 0 2 = some 11 from rfl), hk.2.1, nI_eq (show (road nxt wh i).2.1 < 2 ^ 31 by omega) (show 3 < 2 ^ 31 by decide), B102_59, B102_65, nI_add, or6 i (by omega) c hc]
    have hz2 : c + ((if ((road nxt wh i).2.1 == 3) = true then 2 ^ i else 0) + bitF (fun x => (road nxt wh x).2.1 == 3) (i + 1) n) = z := hz
    refine ⟨fun h => ?_, fun h => ?_⟩
    · rw [if_neg (by simpa using h), Nat.zero_add] at hz2
      exact ih (i + 1) c M2 (by omega) (by omega) (he.tr he2.R) (hT.R ho i11 he2.R) hR2 hz2
    · rw [if_pos (by simpa using h), ← Nat.add_assoc] at hz2
      exact ih (i + 1) (c + 2 ^ i) M2 (by omega) (by omega) (he.tr he2.R) (hT.R ho i11 he2.R) hR2 hz2
theorem s102n (hn : 44 ≤ nx) (h : CT M t ln is fc dn row nd) {x : Int32} (hv : ¬ vl x is) : aSem (d + 5) 102 [.ref 0, .int x] M N (P0 t e) nx Q ↔ Q (some (.int ng1)) M N (P0 t e) nx := by
  obtain ⟨ho, h22, hT, hc, hw, h64⟩ := h
  simp only [A102, B102_0, B102_11, false_imp_iff, true_imp_iff, not_false_eq_true, not_true_eq_false, true_and, and_true, implies_true, qn_self, rI_i, rJ_l, rV_n, okZ0, okZ1, o0 hn, oT hn ho, exP (show P0 t e 0 5 = some t from rfl), s64n hn ho hT hc hv, eq_true nI_0]
theorem s102 (hn : 44 ≤ nx) (h : CT M t ln is fc dn row nd) {i : Nat} (hi : i < is) (hQ : ∀ M', eqQ M M' → Q (some (.int (nI (bitF (fun x => (road (nxM row i) (whM row i) x).2.1 == 3) 0 ln)))) M' N (P0 t e) nx) : aSem (d + 5) 102 [.ref 0, .int (nI i)] M N (P0 t e) nx Q := by
  obtain ⟨ho, h22, hT, hc, hw, h64⟩ := h
  have c6 := hc
  unfold wfC at c6
  simp only [A102, B102_0, B102_13, false_imp_iff, true_imp_iff, not_false_eq_true, not_true_eq_false, true_and, and_true, implies_true, qn_self, rI_i, rJ_l, rV_n, okZ0, okZ1, o0 hn, oT hn ho, o11 hn, exP (show P0 t e 0 5 = some t from rfl), exP (show P0 t e 0 2 = some 11 from rfl), s64 hn ho hT hc hi, one0]
  refine s32 hn ho i11 hT hc hw hi (fun M1 he1 hT1 hR1 => ?_)
  simp only [false_imp_iff, true_imp_iff, not_false_eq_true, not_true_eq_false, true_and, and_true, implies_true, qn_self, rI_i, rJ_l, rV_n, okZ0, okZ1]
  exact l102 hn ho c6.1 (nxM_ok hw c6.1 c6.2.1 hi) (M := M1) (fun M' he => hQ M' (he1.Q.tr he.Q)) ln 0 0 M1 (by omega) (by decide) eqR.rf hT1 hR1 (by omega)
def lpA (nxt : Nat → Nat) (wh : Nat → Bool) (ln : Nat) (x : Int32) : Int32 := if x = ng1 then nI (cntF (lpS nxt wh ln) 0 64) else if 0 ≤ x then oN (nthX (lpS nxt wh ln) x 64 0 0) else ng2
theorem s103n (hn : 44 ≤ nx) (h : CT M t ln is fc dn row nd) {x y : Int32} (hv : ¬ vl x is) : aSem (d + 5) 103 [.ref 0, .int x, .int y] M N (P0 t e) nx Q ↔ Q (some (.int ng2)) M N (P0 t e) nx := by
  obtain ⟨ho, h22, hT, hc, hw, h64⟩ := h
  simp only [A103, B103_0, B103_11, false_imp_iff, true_imp_iff, not_false_eq_true, not_true_eq_false, true_and, and_true, implies_true, qn_self, rI_i, rJ_l, rV_n, okZ0, okZ1, o0 hn, oT hn ho, exP (show P0 t e 0 5 = some t from rfl), s64n hn ho hT hc hv, eq_true nI_0]
theorem s103 (hn : 44 ≤ nx) (h : CT M t ln is fc dn row nd) {i : Nat} {x : Int32} (hi : i < is) (hQ : ∀ M', eqQ M M' → Q (some (.int (lpA (nxM row i) (whM row i) ln x))) M' N (P0 t e) nx) : aSem (d + 5) 103 [.ref 0, .int (nI i), .int x] M N (P0 t e) nx Q := by
  obtain ⟨ho, h22, hT, hc, hw, h64⟩ := h
  have c6 := hc
  unfold wfC at c6
  simp only [A103, B103_0, B103_14, false_imp_iff, true_imp_iff, not_false_eq_true, not_true_eq_false, true_and, and_true, implies_true, qn_self, rI_i, rJ_l, rV_n, okZ0, okZ1, o0 hn, oT hn ho, o11 hn, exP (show P0 t e 0 5 = some t from rfl), exP (show P0 t e 0 2 = some 11 from rfl), s64 hn ho hT hc hi, one0]
  refine s32 hn ho i11 hT hc hw hi (fun M1 he1 hT1 hR1 => ?_)
  simp only [false_imp_iff, true_imp_iff, not_false_eq_true, not_true_eq_false, true_and, and_true, implies_true, qn_self, rI_i, rJ_l, rV_n, okZ0, okZ1, o0 hn, o11 hn, exP (show P0 t e 0 2 = some 11 from rfl)]
  refine s37 hn i11 hR1 c6.1 (nxM_ok hw c6.1 c6.2.1 hi) (fun M2 v he2 hR2 hv => ?_)
  have hq := hQ M2 (he1.Q.tr he2.R.Q)
  unfold lpA at hq
  simp only [false_imp_iff, true_imp_iff, not_false_eq_true, not_true_eq_false, true_and, and_true, implies_true, qn_self, rI_i, rJ_l, rV_n, okZ0, okZ1]
  refine ⟨fun hx => ?_, fun hx => ?_⟩
  · rw [if_neg hx] at hq
    simp only [B103_44, B103_53, B103_48, B103_58, false_imp_iff, true_imp_iff, not_false_eq_true, not_true_eq_false, true_and, and_true, implies_true, qn_self, rI_i, rJ_l, rV_n, okZ0, okZ1, s104 hv]
    refine ⟨fun h0 => ?_, fun h0 => ?_⟩
    · rw [if_pos h0] at hq; exact hq
    · rw [if_neg h0] at hq; exact hq
  · rw [if_pos hx] at hq
    simp only [B103_39, false_imp_iff, true_imp_iff, not_false_eq_true, not_true_eq_false, true_and, and_true, implies_true, qn_self, rI_i, rJ_l, rV_n, okZ0, okZ1, s219 hv]
    exact hq
end ASK
