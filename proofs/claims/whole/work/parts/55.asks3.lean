/-! RENVOIDESK: what is asked, answers and deeds -/
theorem bt64v : ∀ i, i < 6 → ∀ b, b < 64 → ((nI b >>> (nI i &&& 31)) &&& nI 1) = if b / 2 ^ i % 2 = 1 then nI 1 else nI 0 := by decide +kernel
theorem o16' {nx : Nat} (hn : 44 ≤ nx) : okO nx 16 0 := o16 hn
section AS3
variable {d : Nat} {M : aM} {N : aN} {P : aP} {t e nx ln is fc dn : Nat} {row nd : Nat → Nat} {Q : aQ}
theorem l111 (hn : 44 ≤ nx) (ho : isT t) (h6 : ln ≤ 6) {nxt : Nat → Nat} {wh : Nat → Bool} {th la : Nat → Nat} (hp : ptOK ln nxt) (ht : ∀ l, l < ln → th l ≤ 4) (hla : ∀ l, l < ln → la l ≤ 99) {w : Int32} {z : Nat × Nat} (hQ : ∀ M', eqR 11 M M' → Q (some (.int (fS w (nI z.2) (nI z.1)))) M' N (P0 t e) nx) : ∀ n i y M', i + n = ln → y.2 ≤ 99 → eqR 11 M M' → TD M' t ln is fc dn row nd → RD M' 11 ln nxt wh th la → arM (fun l => la (ownM nxt wh th l)) n i y = z → WP (aSem (d + 5)) g0 111 nx (qn nx Q) 33 [(0, .ref 0), (2, .int w), (3, .int (nI y.1)), (4, .int (nI y.2)), (5, .int (nI i))] [] M' N (P0 t e) nx := by
  intro n
  induction n with
  | zero =>
    intro i y M' hi hy he hT hR hz
    have hz2 : y = z := hz
    simp only [B111_33, B111_76, false_imp_iff, true_imp_iff, not_false_eq_true, not_true_eq_false, true_and, and_true, implies_true, qn_self, rI_i, rJ_l, rV_n, okZ0, okZ1, o0 hn, oT hn ho, exP (show P0 t e 0 5 = some t from rfl), hT.1, nI_le (show ln ≤ i by omega) (show i < 2 ^ 31 by omega), s112]
    rw [hz2]
    exact hQ M' he
  | succ n ih =>
    intro i y M' hi hy he hT hR hz
    simp only [B111_33, false_imp_iff, true_imp_iff, not_false_eq_true, not_true_eq_false, true_and, and_true, implies_true, qn_self, rI_i, rJ_l, rV_n, okZ0, okZ1, o0 hn, oT hn ho, exP (show P0 t e 0 5 = some t from rfl), hT.1, nI_ge (show i < ln by omega) (show ln < 2 ^ 31 by omega)]
    simp only [B111_45, false_imp_iff, true_imp_iff, not_false_eq_true, not_true_eq_false, true_and, and_true, implies_true, qn_self, rI_i, rJ_l, rV_n, okZ0, okZ1, o0 hn, o11 hn, exP (show P0 t e 0 2 = some 11 from rfl)]
    refine s42 hn i11 hR h6 hp ht (show i < ln by omega) (fun M2 he2 hR2 => ?_)
    have b0 : ownM nxt wh th i < ln := comesM_lt hp (by omega)
    have b1 := hla _ b0
    have hT2 := hT.R ho i11 he2.R
    simp only [false_imp_iff, true_imp_iff, not_false_eq_true, not_true_eq_false, true_and, and_true, implies_true, qn_self, rI_i, rJ_l, rV_n, okZ0, okZ1, nI_leI (show la (ownM nxt wh th i) < 2 ^ 31 by omega) (show y.2 < 2 ^ 31 by omega), B111_63, B111_70, nI_add]
    have hz2 : arM (fun l => la (ownM nxt wh th l)) n (i + 1) (if la (ownM nxt wh th i) ≤ y.2 then y else (i, la (ownM nxt wh th i))) = z := hz
    refine ⟨fun h => ?_, fun h => ?_⟩
    · rw [if_pos h] at hz2
      exact ih (i + 1) y M2 (by omega) hy (he.tr he2.R) hT2 hR2 hz2
    · rw [if_neg h] at hz2
      exact ih (i + 1) _ M2 (by omega) b1 (he.tr he2.R) hT2 hR2 hz2
theorem s111n (hn : 44 ≤ nx) (h : CT M t ln is fc dn row nd) {x y : Int32} (hv : ¬ vl x is) : aSem (d + 6) 111 [.ref 0, .int x, .int y] M N (P0 t e) nx Q ↔ Q (some (.int ng1)) M N (P0 t e) nx := by
  obtain ⟨ho, h22, hT, hc, hw, h64⟩ := h
  simp only [A111, B111_0, B111_11, false_imp_iff, true_imp_iff, not_false_eq_true, not_true_eq_false, true_and, and_true, implies_true, qn_self, rI_i, rJ_l, rV_n, okZ0, okZ1, o0 hn, oT hn ho, exP (show P0 t e 0 5 = some t from rfl), s64n hn ho hT hc hv, eq_true nI_0]
theorem s111z (hn : 44 ≤ nx) (h : CT M t 0 is fc dn row nd) {i : Nat} {w : Int32} (hi : i < is) (hQ : ∀ M', eqQ M M' → Q (some (.int ng1)) M' N (P0 t e) nx) : aSem (d + 6) 111 [.ref 0, .int (nI i), .int w] M N (P0 t e) nx Q := by
  obtain ⟨ho, h22, hT, hc, hw, h64⟩ := h
  simp only [A111, B111_0, B111_13, false_imp_iff, true_imp_iff, not_false_eq_true, not_true_eq_false, true_and, and_true, implies_true, qn_self, rI_i, rJ_l, rV_n, okZ0, okZ1, o0 hn, oT hn ho, o11 hn, exP (show P0 t e 0 5 = some t from rfl), exP (show P0 t e 0 2 = some 11 from rfl), s64 hn ho hT hc hi, one0]
  refine s32 hn ho i11 hT hc hw hi (fun M1 he1 hT1 hR1 => ?_)
  simp only [false_imp_iff, true_imp_iff, not_false_eq_true, not_true_eq_false, true_and, and_true, implies_true, qn_self, rI_i, rJ_l, rV_n, okZ0, okZ1, B111_33, B111_76, o0 hn, oT hn ho, exP (show P0 t e 0 5 = some t from rfl), hT1.1, nI_le (show 0 ≤ 0 by decide) (show 0 < 2 ^ 31 by decide), s112, fS_n]
  exact hQ M1 he1.Q
theorem s111 (hn : 44 ≤ nx) (h : CT M t ln is fc dn row nd) {i : Nat} {w : Int32} (hi : i < is) (h0 : 0 < ln) {z : Nat × Nat} (hz : arM (fun l => ownAns row i l) (ln - 1) 1 (0, ownAns row i 0) = z) (hQ : ∀ M', eqQ M M' → Q (some (.int (fS w (nI z.2) (nI z.1)))) M' N (P0 t e) nx) : aSem (d + 6) 111 [.ref 0, .int (nI i), .int w] M N (P0 t e) nx Q := by
  obtain ⟨ho, h22, hT, hc, hw, h64⟩ := h
  have c6 := hc
  unfold wfC at c6
  have hp := nxM_ok hw c6.1 c6.2.1 hi
  have hla := hw.hla c6.1 (show i < 6 by omega)
  simp only [A111, B111_0, B111_13, false_imp_iff, true_imp_iff, not_false_eq_true, not_true_eq_false, true_and, and_true, implies_true, qn_self, rI_i, rJ_l, rV_n, okZ0, okZ1, o0 hn, oT hn ho, o11 hn, exP (show P0 t e 0 5 = some t from rfl), exP (show P0 t e 0 2 = some 11 from rfl), s64 hn ho hT hc hi, one0]
  refine s32 hn ho i11 hT hc hw hi (fun M1 he1 hT1 hR1 => ?_)
  simp only [false_imp_iff, true_imp_iff, not_false_eq_true, not_true_eq_false, true_and, and_true, implies_true, qn_self, rI_i, rJ_l, rV_n, okZ0, okZ1, B111_33, o0 hn, oT hn ho, exP (show P0 t e 0 5 = some t from rfl), hT1.1, nI_ge h0 (show ln < 2 ^ 31 by omega)]
  simp only [B111_45, false_imp_iff, true_imp_iff, not_false_eq_true, not_true_eq_false, true_and, and_true, implies_true, qn_self, rI_i, rJ_l, rV_n, okZ0, okZ1, o0 hn, o11 hn, exP (show P0 t e 0 2 = some 11 from rfl)]
  refine s42 hn i11 hR1 c6.1 hp (hw.ht c6.1) h0 (fun M2 he2 hR2 => ?_)
  have b0 : ownM (nxM row i) (whM row i) row 0 < ln := comesM_lt hp h0
  have b1 := hla _ b0
  have hT2 := hT1.R ho i11 he2.R
  simp only [false_imp_iff, true_imp_iff, not_false_eq_true, not_true_eq_false, true_and, and_true, implies_true, qn_self, rI_i, rJ_l, rV_n, okZ0, okZ1, le_ng1 (show row (47 + (6 * ownM (nxM row i) (whM row i) row 0 + i)) < 2 ^ 31 by omega), B111_63, B111_70, nI_add]
  exact l111 hn ho c6.1 hp (hw.ht c6.1) hla (M := M2) (fun M' he => hQ M' (he1.Q.tr (he2.R.Q.tr he.Q))) (ln - 1) 1 (0, row (47 + (6 * ownM (nxM row i) (whM row i) row 0 + i))) M2 (by omega) b1 eqR.rf hT2 hR2 hz
-- tally
theorem l113b (hn : 44 ≤ nx) (ho : isT t) (h6 : ln ≤ 6) {nxt : Nat → Nat} {wh : Nat → Bool} {th la : Nat → Nat} (hp : ptOK ln nxt) (ht : ∀ l, l < ln → th l ≤ 4) (hla : ∀ l, l < ln → la l ≤ 99) {v j z : Nat} (hv : v < 100) (hQ : ∀ M', eqR 11 M M' → TD M' t ln is fc dn row nd → WP (aSem (d + 5)) g0 113 nx (qn nx Q) 19 [(0, .ref 0), (1, .int (nI v)), (2, .long (lN z)), (4, .int (nI (j + 1)))] [] M' N (P0 t e) nx) : ∀ n i c M', i + n = ln → eqR 11 M M' → TD M' t ln is fc dn row nd → RD M' 11 ln nxt wh th la → c + cntF (fun l => la (ownM nxt wh th l) == v) i n = z → WP (aSem (d + 5)) g0 113 nx (qn nx Q) 47 [(0, .ref 0), (1, .int (nI v)), (2, .long (lN c)), (4, .int (nI j)), (5, .int (nI i))] [] M' N (P0 t e) nx := by
  intro n
  induction n with
  | zero =>
    intro i c M' hi he hT hR hz
    simp only [B113_47, B113_82, false_imp_iff, true_imp_iff, not_false_eq_true, not_true_eq_false, true_and, and_true, implies_true, qn_self, rI_i, rJ_l, rV_n, okZ0, okZ1, o0 hn, oT hn ho, exP (show P0 t e 0 5 = some t from rfl), hT.1, nI_le (show ln ≤ i by omega) (show i < 2 ^ 31 by omega), nI_add]
    have hz2 : c = z := hz
    rw [hz2]
    exact hQ M' he hT
  | succ n ih =>
    intro i c M' hi he hT hR hz
    simp only [B113_47, false_imp_iff, true_imp_iff, not_false_eq_true, not_true_eq_false, true_and, and_true, implies_true, qn_self, rI_i, rJ_l, rV_n, okZ0, okZ1, o0 hn, oT hn ho, exP (show P0 t e 0 5 = some t from rfl), hT.1, nI_ge (show i < ln by omega) (show ln < 2 ^ 31 by omega)]
    simp only [B113_59, false_imp_iff, true_imp_iff, not_false_eq_true, not_true_eq_false, true_and, and_true, implies_true, qn_self, rI_i, rJ_l, rV_n, okZ0, okZ1, o0 hn, o11 hn, exP (show P0 t e 0 2 = some 11 from rfl)]
    refine s42 hn i11 hR h6 hp ht (show i < ln by omega) (fun M2 he2 hR2 => ?_)
    have b0 : ownM nxt wh th i < ln := comesM_lt hp (by omega)
    have b1 := hla _ b0
    have hT2 := hT.R ho i11 he2.R
    simp only [false_imp_iff, true_imp_iff, not_false_eq_true, not_true_eq_false, true_and, and_true, implies_true, qn_self, rI_i, rJ_l, rV_n, okZ0, okZ1, nI_eq (show la (ownM nxt wh th i) < 2 ^ 31 by omega) (show v < 2 ^ 31 by omega), B113_72, B113_76, nI_add, lN_add]
    have hz2 : c + ((if (la (ownM nxt wh th i) == v) = true then 1 else 0) + cntF (fun l => la (ownM nxt wh th l) == v) (i + 1) n) = z := hz
    refine ⟨fun h => ?_, fun h => ?_⟩
    · rw [if_neg (by simpa using h), Nat.zero_add] at hz2
      exact ih (i + 1) c M2 (by omega) (he.tr he2.R) hT2 hR2 hz2
    · rw [if_pos (by simpa using h), ← Nat.add_assoc] at hz2
      exact ih (i + 1) (c + 1) M2 (by omega) (he.tr he2.R) hT2 hR2 hz2
def taM (row : Nat → Nat) (ln v i : Nat) : Nat := cntF (fun l => ownAns row i l == v) 0 ln
theorem l113 (hn : 44 ≤ nx) (ho : isT t) (hc : wfC ln is fc dn) (hw : wfR ln is fc row) {v z : Nat} (hv : v < 100) (hQ : ∀ M', eqR 11 M M' → Q (some (.long (lN z))) M' N (P0 t e) nx) : ∀ n j c M', j + n = is → eqR 11 M M' → TD M' t ln is fc dn row nd → c + sumF (taM row ln v) j n = z → WP (aSem (d + 5)) g0 113 nx (qn nx Q) 19 [(0, .ref 0), (1, .int (nI v)), (2, .long (lN c)), (4, .int (nI j))] [] M' N (P0 t e) nx := by
  have c6 := hc
  unfold wfC at c6
  intro n
  induction n with
  | zero =>
    intro j c M' hj he hT hz
    simp only [B113_19, B113_88, false_imp_iff, true_imp_iff, not_false_eq_true, not_true_eq_false, true_and, and_true, implies_true, qn_self, rI_i, rJ_l, rV_n, okZ0, okZ1, o0 hn, oT hn ho, exP (show P0 t e 0 5 = some t from rfl), hT.2.1, nI_le (show is ≤ j by omega) (show j < 2 ^ 31 by omega)]
    have hz2 : c = z := hz
    rw [hz2]
    exact hQ M' he
  | succ n ih =>
    intro j c M' hj he hT hz
    have hj2 : j < is := by omega
    simp only [B113_19, false_imp_iff, true_imp_iff, not_false_eq_true, not_true_eq_false, true_and, and_true, implies_true, qn_self, rI_i, rJ_l, rV_n, okZ0, okZ1, o0 hn, oT hn ho, exP (show P0 t e 0 5 = some t from rfl), hT.2.1, nI_ge hj2 (show is < 2 ^ 31 by omega)]
    simp only [B113_31, false_imp_iff, true_imp_iff, not_false_eq_true, not_true_eq_false, true_and, and_true, implies_true, qn_self, rI_i, rJ_l, rV_n, okZ0, okZ1, o0 hn, o11 hn, exP (show P0 t e 0 2 = some 11 from rfl), exP (show P0 t e 0 5 = some t from rfl)]
    refine s32 hn ho i11 hT hc hw hj2 (fun M1 he1 hT1 hR1 => ?_)
    simp only [false_imp_iff, true_imp_iff, not_false_eq_true, not_true_eq_false, true_and, and_true, implies_true, qn_self, rI_i, rJ_l, rV_n, okZ0, okZ1]
    have hz2 : c + (taM row ln v j + sumF (taM row ln v) (j + 1) n) = z := hz
    rw [← Nat.add_assoc] at hz2
    exact l113b hn ho c6.1 (nxM_ok hw c6.1 c6.2.1 hj2) (hw.ht c6.1) (hw.hla c6.1 (by omega)) hv (M := M1) (fun M2 he2 hT2 => ih (j + 1) _ M2 (by omega) (he.tr (he1.tr he2)) hT2 hz2) ln 0 c M1 (by omega) eqR.rf hT1 hR1 rfl
theorem s113 (hn : 44 ≤ nx) (h : CT M t ln is fc dn row nd) {v : Nat} (hv : v < 100) (hQ : ∀ M', eqQ M M' → Q (some (.long (lN (sumF (taM row ln v) 0 is)))) M' N (P0 t e) nx) : aSem (d + 6) 113 [.ref 0, .int (nI v)] M N (P0 t e) nx Q := by
  obtain ⟨ho, h22, hT, hc, hw, h64⟩ := h
  simp only [A113, B113_0, B113_4, B113_14, false_imp_iff, true_imp_iff, not_false_eq_true, not_true_eq_false, true_and, and_true, implies_true, qn_self, rI_i, rJ_l, rV_n, okZ0, okZ1, nI_pos (show v < 2 ^ 31 by omega), nI_leI (show v < 2 ^ 31 by omega) (show 99 < 2 ^ 31 by decide), show v ≤ 99 by omega]
  exact l113 hn ho hc hw hv (fun M' he => hQ M' he.Q) is 0 0 M (by omega) eqR.rf hT (by omega)
theorem s113n {x : Int32} (hv : ¬ vl x 100) : aSem (d + 6) 113 [.ref 0, .int x] M N P nx Q ↔ Q (some (.long ngL)) M N P nx := by
  by_cases h0 : x < 0
  · simp only [A113, B113_0, B113_10, false_imp_iff, true_imp_iff, not_false_eq_true, not_true_eq_false, true_and, and_true, implies_true, qn_self, rI_i, rJ_l, rV_n, okZ0, okZ1, h0]
  · have h2 : ¬ x ≤ nI 99 := by
      have h3 := vl_lt0 hv (by decide) h0
      rw [Int32.le_iff_toInt_le, nI_toInt (by decide)] at h3 ⊢
      omega
    simp only [A113, B113_0, B113_4, B113_10, false_imp_iff, true_imp_iff, not_false_eq_true, not_true_eq_false, true_and, and_true, implies_true, qn_self, rI_i, rJ_l, rV_n, okZ0, okZ1, h0, h2]
-- deeds
theorem s114n (hn : 44 ≤ nx) (h : CT M t ln is fc dn row nd) {x y : Int32} (hv : ¬ (vl x dn ∧ vl y ln)) : aSem (d + 7) 114 [.ref 0, .int x, .int y] M N (P0 t e) nx Q ↔ Q (some (.int ng1)) M N (P0 t e) nx := by
  obtain ⟨ho, h22, hT, hc, hw, h64⟩ := h
  by_cases h1 : vl x dn
  · have h2 : ¬ vl y ln := fun q => hv ⟨h1, q⟩
    obtain ⟨k, hk, rfl⟩ := vl_of h1
    simp only [A114, B114_0, B114_11, B114_22, false_imp_iff, true_imp_iff, not_false_eq_true, not_true_eq_false, true_and, and_true, implies_true, qn_self, rI_i, rJ_l, rV_n, okZ0, okZ1, o0 hn, oT hn ho, exP (show P0 t e 0 5 = some t from rfl), s66 hn ho hT hc hk, s63n hn ho hT hc h2, one0, eq_true nI_0]
  · simp only [A114, B114_0, B114_22, false_imp_iff, true_imp_iff, not_false_eq_true, not_true_eq_false, true_and, and_true, implies_true, qn_self, rI_i, rJ_l, rV_n, okZ0, okZ1, o0 hn, oT hn ho, exP (show P0 t e 0 5 = some t from rfl), s66n hn ho hT hc h1, eq_true nI_0]
theorem s114 (hn : 44 ≤ nx) (h : CT M t ln is fc dn row nd) {k l : Nat} (hk : k < dn) (hl : l < ln) (hQ : ∀ M', eqQ M M' → Q (some (.int (if stB row (nd k) is l = true then nI 1 else nI 0))) M' N (P0 t e) nx) : aSem (d + 7) 114 [.ref 0, .int (nI k), .int (nI l)] M N (P0 t e) nx Q := by
  obtain ⟨ho, h22, hT, hc, hw, h64⟩ := h
  have c6 := hc
  unfold wfC at c6
  simp only [A114, B114_0, B114_11, B114_24, false_imp_iff, true_imp_iff, not_false_eq_true, not_true_eq_false, true_and, and_true, implies_true, qn_self, rI_i, rJ_l, rV_n, okZ0, okZ1, o0 hn, oT hn ho, o16 hn, exP (show P0 t e 0 5 = some t from rfl), exP (show P0 t e 0 3 = some 16 from rfl), s66 hn ho hT hc hk, s63 hn ho hT hc hl, one0]
  refine s1 hn ho hT hc hw hk (h64 k hk) (fun M1 b he1 hT1 hb => ?_)
  have hq := hQ M1 he1.D.Q
  have hb2 := hb.2 l (by omega)
  simp only [false_imp_iff, true_imp_iff, not_false_eq_true, not_true_eq_false, true_and, and_true, implies_true, qn_self, rI_i, rJ_l, rV_n, okZ0, okZ1, bt64v l (by omega) b hb.1]
  by_cases hs : stB row (nd k) is l = true
  · rw [if_pos hs] at hq
    rw [if_pos (hb2.mpr ⟨hl, stB_t.mp hs⟩)]
    exact hq
  · rw [if_neg hs] at hq
    rw [if_neg (fun q => hs (stB_t.mpr (hb2.mp q).2))]
    exact hq
theorem s115n (hn : 44 ≤ nx) (h : CT M t ln is fc dn row nd) {x : Int32} (hv : ¬ vl x dn) : aSem (d + 7) 115 [.ref 0, .int x] M N (P0 t e) nx Q ↔ Q (some (.int ng1)) M N (P0 t e) nx := by
  obtain ⟨ho, h22, hT, hc, hw, h64⟩ := h
  simp only [A115, B115_0, B115_26, B115_27, false_imp_iff, true_imp_iff, not_false_eq_true, not_true_eq_false, true_and, and_true, implies_true, qn_self, rI_i, rJ_l, rV_n, okZ0, okZ1, o0 hn, oT hn ho, exP (show P0 t e 0 5 = some t from rfl), s66n hn ho hT hc hv, eq_true nI_0]
theorem s115 (hn : 44 ≤ nx) (h : CT M t ln is fc dn row nd) {k : Nat} (hk : k < dn) (hQ : ∀ M', eqQ M M' → Q (some (.int (nI (whB row (nd k) is ln)))) M' N (P0 t e) nx) : aSem (d + 7) 115 [.ref 0, .int (nI k)] M N (P0 t e) nx Q := by
  obtain ⟨ho, h22, hT, hc, hw, h64⟩ := h
  have c6 := hc
  unfold wfC at c6
  simp only [A115, B115_0, B115_11, false_imp_iff, true_imp_iff, not_false_eq_true, not_true_eq_false, true_and, and_true, implies_true, qn_self, rI_i, rJ_l, rV_n, okZ0, okZ1, o0 hn, oT hn ho, o16 hn, exP (show P0 t e 0 5 = some t from rfl), exP (show P0 t e 0 3 = some 16 from rfl), s66 hn ho hT hc hk, one0]
  refine s1 hn ho hT hc hw hk (h64 k hk) (fun M1 b he1 hT1 hb => ?_)
  simp only [false_imp_iff, true_imp_iff, not_false_eq_true, not_true_eq_false, true_and, and_true, implies_true, qn_self, rI_i, rJ_l, rV_n, okZ0, okZ1, B115_27]
  rw [whB_eq c6.1 hb]
  exact hQ M1 he1.D.Q
def liB (row nd : Nat → Nat) (is ln k : Nat) : Bool := !(whB row (nd k) is ln == 0) && !(whB row (nd k) is ln == 2 ^ ln - 1)
theorem l116 (hn : 44 ≤ nx) (ho : isT t) (hc : wfC ln is fc dn) (hw : wfR ln is fc row) (h64 : ∀ k, k < dn → nd k < 64) {z : Nat} (hQ : ∀ M', eqD M M' → Q (some (.int (nI z))) M' N (P0 t e) nx) : ∀ n k c M', k + n = dn → c < 2 ^ k → eqD M M' → TD M' t ln is fc dn row nd → c + bitF (liB row nd is ln) k n = z → WP (aSem (d + 6)) g0 116 nx (qn nx Q) 4 [(0, .ref 0), (1, .int (nI c)), (2, .int (nI k))] [] M' N (P0 t e) nx := by
  have c6 := hc
  unfold wfC at c6
  intro n
  induction n with
  | zero =>
    intro k c M' hk hcc he hT hz
    simp only [B116_4, B116_55, false_imp_iff, true_imp_iff, not_false_eq_true, not_true_eq_false, true_and, and_true, implies_true, qn_self, rI_i, rJ_l, rV_n, okZ0, okZ1, o0 hn, oT hn ho, exP (show P0 t e 0 5 = some t from rfl), hT.2.2.2.1, nI_le (show dn ≤ k by omega) (show k < 2 ^ 31 by omega)]
    have hz2 : c = z := hz
    rw [hz2]
    exact hQ M' he
  | succ n ih =>
    intro k c M' hk hcc he hT hz
    have hpw : 2 ^ (k + 1) = 2 * 2 ^ k := by rw [Nat.pow_succ]; omega
    simp only [B116_4, false_imp_iff, true_imp_iff, not_false_eq_true, not_true_eq_false, true_and, and_true, implies_true, qn_self, rI_i, rJ_l, rV_n, okZ0, okZ1, o0 hn, oT hn ho, exP (show P0 t e 0 5 = some t from rfl), hT.2.2.2.1, nI_ge (show k < dn by omega) (show dn < 2 ^ 31 by omega)]
    simp only [B116_15, false_imp_iff, true_imp_iff, not_false_eq_true, not_true_eq_false, true_and, and_true, implies_true, qn_self, rI_i, rJ_l, rV_n, okZ0, okZ1, o0 hn, o16 hn, exP (show P0 t e 0 5 = some t from rfl), exP (show P0 t e 0 3 = some 16 from rfl)]
    refine s1 hn ho hT hc hw (show k < dn by omega) (h64 k (by omega)) (fun M1 b he1 hT1 hb => ?_)
    rw [whB_eq c6.1 hb]
    have hB := (whB_BS (row := row) (need := nd k) (is := is) c6.1).1
    have hA := (BS_all c6.1).1
    have e0 : (nI (whB row (nd k) is ln) = 0) ↔ whB row (nd k) is ln = 0 := by rw [← nI_0]; exact nI_eq (by omega) (by decide)
    simp only [false_imp_iff, true_imp_iff, not_false_eq_true, not_true_eq_false, true_and, and_true, implies_true, qn_self, rI_i, rJ_l, rV_n, okZ0, okZ1, e0, B116_32, o0 hn, oT hn ho, exP (show P0 t e 0 5 = some t from rfl), s68 hn ho hT1 hc, nI_eq (show whB row (nd k) is ln < 2 ^ 31 by omega) (show 2 ^ ln - 1 < 2 ^ 31 by omega), B116_43, B116_49, nI_add, or6 k (by omega) c hcc]
    have hz2 : c + ((if liB row nd is ln k = true then 2 ^ k else 0) + bitF (liB row nd is ln) (k + 1) n) = z := hz
    have no : ¬ liB row nd is ln k = true → WP (aSem (d + 6)) g0 116 nx (qn nx Q) 4 [(0, .ref 0), (1, .int (nI c)), (2, .int (nI (k + 1)))] [] M1 N (P0 t e) nx := by
      intro q
      rw [if_neg q, Nat.zero_add] at hz2
      exact ih (k + 1) c M1 (by omega) (by omega) (he.tr he1.D) hT1 hz2
    refine ⟨fun h => no ?_, fun h => ⟨fun h1 => no ?_, fun h1 => ?_⟩⟩
    · unfold liB; simp [h]
    · unfold liB; simp [h1]
    · rw [if_pos (by unfold liB; simp [h, h1]), ← Nat.add_assoc] at hz2
      exact ih (k + 1) (c + 2 ^ k) M1 (by omega) (by omega) (he.tr he1.D) hT1 hz2
theorem s116 (hn : 44 ≤ nx) (h : CT M t ln is fc dn row nd) (hQ : ∀ M', eqQ M M' → Q (some (.int (nI (bitF (liB row nd is ln) 0 dn)))) M' N (P0 t e) nx) : aSem (d + 7) 116 [.ref 0] M N (P0 t e) nx Q := by
  obtain ⟨ho, h22, hT, hc, hw, h64⟩ := h
  simp only [A116, B116_0]
  exact l116 hn ho hc hw h64 (fun M' he => hQ M' he.Q) dn 0 0 M (by omega) (by decide) eqD.rf hT (by omega)
theorem s117n (hn : 44 ≤ nx) (h : CT M t ln is fc dn row nd) {x y : Int32} (hv : ¬ vl x dn) : aSem (d + 8) 117 [.ref 0, .int x, .int y] M N (P0 t e) nx Q ↔ Q (some (.int ng1)) M N (P0 t e) nx := by
  obtain ⟨ho, h22, hT, hc, hw, h64⟩ := h
  simp only [A117, B117_0, B117_27, B117_28, false_imp_iff, true_imp_iff, not_false_eq_true, not_true_eq_false, true_and, and_true, implies_true, qn_self, rI_i, rJ_l, rV_n, okZ0, okZ1, o0 hn, oT hn ho, exP (show P0 t e 0 5 = some t from rfl), s66n hn ho hT hc hv, eq_true nI_0]
theorem s117 (hn : 44 ≤ nx) (h : CT M t ln is fc dn row nd) {k : Nat} {v : Int32} (hk : k < dn) (hQ : ∀ M', eqQ M M' → Q (some (.int (if v = nI 0 then z1 (bsM row (nd k) is ln fc) else if v = nI 1 then z2 (bsM row (nd k) is ln fc) else if v = nI 2 then z3 (bsM row (nd k) is ln fc) else ng1))) M' N (P0 t e) nx) : aSem (d + 8) 117 [.ref 0, .int (nI k), .int v] M N (P0 t e) nx Q := by
  obtain ⟨ho, h22, hT, hc, hw, h64⟩ := h
  simp only [A117, B117_0, B117_11, false_imp_iff, true_imp_iff, not_false_eq_true, not_true_eq_false, true_and, and_true, implies_true, qn_self, rI_i, rJ_l, rV_n, okZ0, okZ1, o0 hn, oT hn ho, o16 hn, exP (show P0 t e 0 5 = some t from rfl), exP (show P0 t e 0 3 = some 16 from rfl), s66 hn ho hT hc hk, one0]
  refine s3 hn ho h22 hT hc hw hk (h64 k hk) (fun M1 he1 => ?_)
  simp only [false_imp_iff, true_imp_iff, not_false_eq_true, not_true_eq_false, true_and, and_true, implies_true, qn_self, rI_i, rJ_l, rV_n, okZ0, okZ1, B117_28]
  exact hQ M1 he1.Q
/-- how few facts are enough -/
def feV (row : Nat → Nat) (need is ln fc : Nat) (v : Int32) : Prop := (stA row need is ln ∧ v = nI 0) ∨ (¬ stA row need is ln ∧ c1 row need is ln fc 0 ∧ v = nI 1) ∨ (¬ stA row need is ln ∧ ¬ c1 row need is ln fc 0 ∧ c2 row need is ln fc ∧ v = nI 2) ∨ (¬ stA row need is ln ∧ ¬ c1 row need is ln fc 0 ∧ ¬ c2 row need is ln fc ∧ v = ng2)
theorem s118n (hn : 44 ≤ nx) (h : CT M t ln is fc dn row nd) {x : Int32} (hv : ¬ vl x dn) : aSem (d + 9) 118 [.ref 0, .int x] M N (P0 t e) nx Q ↔ Q (some (.int ng1)) M N (P0 t e) nx := by
  obtain ⟨ho, h22, hT, hc, hw, h64⟩ := h
  simp only [A118, B118_0, B118_11, false_imp_iff, true_imp_iff, not_false_eq_true, not_true_eq_false, true_and, and_true, implies_true, qn_self, rI_i, rJ_l, rV_n, okZ0, okZ1, o0 hn, oT hn ho, exP (show P0 t e 0 5 = some t from rfl), s66n hn ho hT hc hv, eq_true nI_0]
theorem s118 (hn : 44 ≤ nx) (h : CT M t ln is fc dn row nd) {k : Nat} (hk : k < dn) (hQ : ∀ M' v, eqQ M M' → feV row (nd k) is ln fc v → Q (some (.int v)) M' N (P0 t e) nx) : aSem (d + 9) 118 [.ref 0, .int (nI k)] M N (P0 t e) nx Q := by
  obtain ⟨ho, h22, hT, hc, hw, h64⟩ := h
  simp only [A118, B118_0, B118_13, false_imp_iff, true_imp_iff, not_false_eq_true, not_true_eq_false, true_and, and_true, implies_true, qn_self, rI_i, rJ_l, rV_n, okZ0, okZ1, o0 hn, oT hn ho, o16 hn, exP (show P0 t e 0 5 = some t from rfl), exP (show P0 t e 0 3 = some 16 from rfl), s66 hn ho hT hc hk, one0]
  refine s2 hn ho hT hc hw hk (h64 k hk) (fun M1 he1 hT1 hS => ?_) (fun M1 he1 hT1 hS => ?_)
  · simp only [false_imp_iff, true_imp_iff, not_false_eq_true, not_true_eq_false, true_and, and_true, implies_true, qn_self, rI_i, rJ_l, rV_n, okZ0, okZ1, one0, B118_28]
    exact hQ M1 _ he1.D.Q (Or.inl ⟨hS, rfl⟩)
  · simp only [false_imp_iff, true_imp_iff, not_false_eq_true, not_true_eq_false, true_and, and_true, implies_true, qn_self, rI_i, rJ_l, rV_n, okZ0, okZ1, eq_true nI_0, B118_30, o0 hn, o16 hn, exP (show P0 t e 0 5 = some t from rfl), exP (show P0 t e 0 3 = some 16 from rfl)]
    refine s4 hn ho h22 hT1 hc (fun M2 he2 hT2 => ?_)
    simp only [false_imp_iff, true_imp_iff, not_false_eq_true, not_true_eq_false, true_and, and_true, implies_true, qn_self, rI_i, rJ_l, rV_n, okZ0, okZ1, o0 hn, o16 hn, exP (show P0 t e 0 3 = some 16 from rfl)]
    refine s5 hn hT2 hc hw hk (h64 k hk) (Nat.zero_le _) (fun M3 he3 hc1 => ?_) (fun M3 he3 hT3 hc1 => ?_)
    · simp only [false_imp_iff, true_imp_iff, not_false_eq_true, not_true_eq_false, true_and, and_true, implies_true, qn_self, rI_i, rJ_l, rV_n, okZ0, okZ1, one0, B118_53]
      exact hQ M3 _ (he1.D.tr (he2.tr he3)).Q (Or.inr (Or.inl ⟨hS, hc1, rfl⟩))
    · simp only [false_imp_iff, true_imp_iff, not_false_eq_true, not_true_eq_false, true_and, and_true, implies_true, qn_self, rI_i, rJ_l, rV_n, okZ0, okZ1, eq_true nI_0, B118_55, o0 hn, o16 hn, exP (show P0 t e 0 3 = some 16 from rfl)]
      refine s6 hn hT3 hc hw hk (h64 k hk) (fun M4 he4 hc2 => ?_) (fun M4 he4 hT4 hc2 => ?_)
      · simp only [false_imp_iff, true_imp_iff, not_false_eq_true, not_true_eq_false, true_and, and_true, implies_true, qn_self, rI_i, rJ_l, rV_n, okZ0, okZ1, one0, B118_66, B118_72]
        exact hQ M4 _ (he1.D.tr (he2.tr (he3.tr he4))).Q (Or.inr (Or.inr (Or.inl ⟨hS, hc1, hc2, rfl⟩)))
      · simp only [false_imp_iff, true_imp_iff, not_false_eq_true, not_true_eq_false, true_and, and_true, implies_true, qn_self, rI_i, rJ_l, rV_n, okZ0, okZ1, eq_true nI_0, B118_70, B118_72]
        exact hQ M4 _ (he1.D.tr (he2.tr (he3.tr he4))).Q (Or.inr (Or.inr (Or.inr ⟨hS, hc1, hc2, rfl⟩)))
end AS3
