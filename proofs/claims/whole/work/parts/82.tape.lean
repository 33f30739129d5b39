/-! TAPE -/
/-- the bytes at cell a -/
def BY (M : aM) (a n : Nat) (B : Nat → Nat) : Prop := ∀ k, k < n → M a k = sx (B k) ∧ B k < 256
/-- where the tape is being read: up to n, at p -/
def TS (M : aM) (n p : Nat) : Prop := M 2 2 = nI p ∧ M 2 3 = nI n ∧ p ≤ n ∧ n ≤ 700
/-- memory but for the tape's reading -/
def eqP (M M' : aM) : Prop := (∀ a, a ≠ 2 → M' a = M a) ∧ ∀ k, k ≠ 2 → k ≠ 4 → k ≠ 5 → k ≠ 6 → M' 2 k = M 2 k
theorem eqP.rf {M : aM} : eqP M M := ⟨fun _ _ => rfl, fun _ _ _ _ _ => rfl⟩
theorem eqP.tr {M M' M'' : aM} (h : eqP M M') (h' : eqP M' M'') : eqP M M'' := ⟨fun a x => (h'.1 a x).trans (h.1 a x), fun k x y z w => (h'.2 k x y z w).trans (h.2 k x y z w)⟩
theorem eqP.w {M M' : aM} {k : Nat} {v : Int32} (h : eqP M M') (hk : k = 2 ∨ k = 4 ∨ k = 5 ∨ k = 6) : eqP M (uM M' 2 k v) := ⟨fun a x => by rw [uM_ne x]; exact h.1 a x, fun j x y z w => by rw [uM_j (by omega)]; exact h.2 j x y z w⟩
theorem BY.p {M M' : aM} {n : Nat} {B : Nat → Nat} (h : BY M 3 n B) (he : eqP M M') : BY M' 3 n B := fun k hk => by rw [he.1 3 (by decide)]; exact h k hk
section TAP
variable {d : Nat} {M : aM} {N : aN} {P : aP} {t e nx : Nat} {B : Nat → Nat} {Q : aQ}
theorem x3 (hn : 44 ≤ nx) {K : Nat} {R : Nat → Prop} (h : K < 700) : (∃ k, (okA nx 3 2 (nI K) k ∨ okA nx 3 3 (nI K) k) ∧ R k) ↔ R K := exB2 (show kindOf 3 = (2, 700) from rfl) (by omega) (by decide) h
theorem q97 : ∀ b, b < 256 → (sx b < nI 97 ↔ (b < 97 ∨ 128 ≤ b)) ∧ (nI 122 < sx b ↔ (122 < b ∧ b < 128)) ∧ (sx b < nI 48 ↔ (b < 48 ∨ 128 ≤ b)) ∧ (nI 57 < sx b ↔ (57 < b ∧ b < 128)) ∧ (sx b = nI 59 ↔ b = 59) ∧ (sx b = nI 32 ↔ b = 32) ∧ (sx b = nI 10 ↔ b = 10) := by decide +kernel
theorem s53 {b : Nat} (hb : b < 256) : aSem (d + 1) 53 [.int (sx b)] M N P nx Q ↔ Q (some (.int (nI (so b)))) M N P nx := by
  obtain ⟨a1, a2, a3, a4, a5, a6, a7⟩ := q97 b hb
  simp only [A53, B53_0, B53_6, B53_12, B53_14, B53_20, B53_26, B53_28, B53_34, B53_36, B53_42, B53_48, B53_52, B53_53, false_imp_iff, true_imp_iff, not_false_eq_true, not_true_eq_false, true_and, and_true, implies_true, qn_self, rI_i, rJ_l, rV_n, okZ0, okZ1, a1, a2, a3, a4, a5, a6, a7]
  unfold so
  by_cases c1 : 97 ≤ b ∧ b ≤ 122
  · simp only [show ¬ (b < 97 ∨ 128 ≤ b) by omega, show ¬ (122 < b ∧ b < 128) by omega, if_pos c1, false_imp_iff, true_imp_iff, not_false_eq_true, not_true_eq_false, true_and, and_true, implies_true, qn_self, rI_i, rJ_l, rV_n, okZ0, okZ1]
  · rw [if_neg c1]
    by_cases c2 : 48 ≤ b ∧ b ≤ 57
    · simp only [show (b < 97 ∨ 128 ≤ b) by omega, show ¬ (b < 48 ∨ 128 ≤ b) by omega, show ¬ (57 < b ∧ b < 128) by omega, if_pos c2, false_imp_iff, true_imp_iff, not_false_eq_true, not_true_eq_false, true_and, and_true, implies_true, qn_self, rI_i, rJ_l, rV_n, okZ0, okZ1]
    · rw [if_neg c2]
      have T : ∀ X : Prop, (((b < 48 ∨ 128 ≤ b) → X) ∧ (¬ (b < 48 ∨ 128 ≤ b) → ((57 < b ∧ b < 128 → X) ∧ (¬ (57 < b ∧ b < 128) → Q (some (.int (nI 2))) M N P nx)))) ↔ X := by
        intro X
        by_cases z : b < 48 ∨ 128 ≤ b
        · simp only [z, false_imp_iff, true_imp_iff, not_false_eq_true, not_true_eq_false, true_and, and_true, implies_true, qn_self, rI_i, rJ_l, rV_n, okZ0, okZ1]
        · simp only [z, show 57 < b ∧ b < 128 by omega, false_imp_iff, true_imp_iff, not_false_eq_true, not_true_eq_false, true_and, and_true, implies_true, qn_self, rI_i, rJ_l, rV_n, okZ0, okZ1]
      rw [T]
      have T2 : ∀ X : Prop, (((b < 97 ∨ 128 ≤ b) → X) ∧ (¬ (b < 97 ∨ 128 ≤ b) → ((122 < b ∧ b < 128 → X) ∧ (¬ (122 < b ∧ b < 128) → Q (some (.int (nI 1))) M N P nx)))) ↔ X := by
        intro X
        by_cases z : b < 97 ∨ 128 ≤ b
        · simp only [z, false_imp_iff, true_imp_iff, not_false_eq_true, not_true_eq_false, true_and, and_true, implies_true, qn_self, rI_i, rJ_l, rV_n, okZ0, okZ1]
        · simp only [z, show 122 < b ∧ b < 128 by omega, false_imp_iff, true_imp_iff, not_false_eq_true, not_true_eq_false, true_and, and_true, implies_true, qn_self, rI_i, rJ_l, rV_n, okZ0, okZ1]
      rw [T2]
      by_cases c3 : b = 59
      · simp only [c3, if_true, false_imp_iff, true_imp_iff, not_false_eq_true, not_true_eq_false, true_and, and_true, implies_true, qn_self, rI_i, rJ_l, rV_n, okZ0, okZ1]
      · rw [if_neg c3]
        by_cases c4 : b = 32
        · simp only [c4, true_or, if_true, false_imp_iff, true_imp_iff, not_false_eq_true, not_true_eq_false, true_and, and_true, implies_true, qn_self, rI_i, rJ_l, rV_n, okZ0, okZ1, show ¬ (32 = 59) by decide]
        · by_cases c5 : b = 10
          · simp only [c5, or_true, if_true, false_imp_iff, true_imp_iff, not_false_eq_true, not_true_eq_false, true_and, and_true, implies_true, qn_self, rI_i, rJ_l, rV_n, okZ0, okZ1, show ¬ (10 = 59) by decide, show ¬ (10 = 32) by decide]
          · rw [if_neg (fun z => z.elim c4 c5)]
            simp only [c3, c4, c5, false_imp_iff, true_imp_iff, not_false_eq_true, not_true_eq_false, true_and, and_true, implies_true, qn_self, rI_i, rJ_l, rV_n, okZ0, okZ1]
theorem s52 {x y : Int32} : aSem (d + 1) 52 [.int x, .int y] M N P nx Q ↔ Q (some (.int ((x <<< (nI 5 &&& 31)) ||| ((y - nI 97) + nI 1)))) M N P nx := by
  simp only [A52, B52_0, false_imp_iff, true_imp_iff, not_false_eq_true, not_true_eq_false, true_and, and_true, implies_true, qn_self, rI_i, rJ_l, rV_n, okZ0, okZ1]
theorem s46 (hn : 44 ≤ nx) {a b : Nat} (h : M 2 1 = nI a) (ha : a ≤ 700) (hb : b < 1000) : aSem (d + 1) 46 [.ref 2, .int (nI b)] M N P nx Q ↔ Q (some (.int (if a + b ≤ 700 then nI 1 else nI 0))) M N P nx := by
  simp only [A46, B46_0, B46_12, B46_16, B46_17, false_imp_iff, true_imp_iff, not_false_eq_true, not_true_eq_false, true_and, and_true, implies_true, qn_self, rI_i, rJ_l, rV_n, okZ0, okZ1, o2 hn, h, nI_add, ltN (show 700 < 2 ^ 31 by decide) (show a + b < 2 ^ 31 by omega), okZ0, okZ1]
  by_cases q : a + b ≤ 700
  · simp only [if_pos q, show ¬ 700 < a + b by omega, false_imp_iff, true_imp_iff, not_false_eq_true, not_true_eq_false, true_and, and_true, implies_true, qn_self, rI_i, rJ_l, rV_n, okZ0, okZ1]
  · simp only [if_neg q, show 700 < a + b by omega, false_imp_iff, true_imp_iff, not_false_eq_true, not_true_eq_false, true_and, and_true, implies_true, qn_self, rI_i, rJ_l, rV_n, okZ0, okZ1]
theorem s48 (hn : 44 ≤ nx) {a n : Nat} (h : M 2 1 = nI a) (ha : a ≤ 700) (hna : n ≤ a) (hQ : ∀ M', (∀ c, c ≠ 2 → M' c = M c) → M' 2 1 = M 2 1 → TS M' n 0 → Q none M' N P nx) : aSem (d + 1) 48 [.ref 2, .int (nI n)] M N P nx Q := by
  have e1 : uM M 2 2 (nI 0) 2 1 = nI a := by rw [uM_j (by decide)]; exact h
  have e2 : (if nI a < nI n then nI a else nI n) = nI n := by
    by_cases q : nI a < nI n
    · rw [ltN (by omega) (by omega)] at q; omega
    · rw [if_neg q]
  have e3 : (if nI 0 < nI n then nI n else nI 0) = nI n := by
    by_cases q : nI 0 < nI n
    · rw [if_pos q]
    · rw [if_neg q]
      rw [ltN (by decide) (by omega)] at q
      rw [show n = 0 by omega]
  simp only [A48, B48_0, false_imp_iff, true_imp_iff, not_false_eq_true, not_true_eq_false, true_and, and_true, implies_true, qn_self, rI_i, rJ_l, rV_n, okZ0, okZ1, o2 hn, e1, e2, e3]
  refine hQ _ (fun c hc => by rw [uM_ne hc, uM_ne hc]) (by rw [uM_j (by decide), uM_j (by decide)]) ⟨?_, uM_k, Nat.zero_le _, by omega⟩
  rw [uM_j (by decide), uM_k]
-- words
theorem wl5 {v x : Nat} (hv : v < 2 ^ 25) (hx : x < 32) : (nI v <<< (nI 5 &&& 31)) ||| nI x = nI (v * 32 + x) := by
  have e0 : (nI 5 &&& 31 : Int32) = 5 := by decide +kernel
  rw [e0]
  apply Int32.toBitVec_inj.mp
  apply BitVec.eq_of_toNat_eq
  have a1 : (nI v).toBitVec.toNat = v := by
    show (BitVec.ofNat 32 v).toNat = v
    rw [BitVec.toNat_ofNat]; omega
  have a2 : (nI x).toBitVec.toNat = x := by
    show (BitVec.ofNat 32 x).toNat = x
    rw [BitVec.toNat_ofNat]; omega
  have a3 : (nI (v * 32 + x)).toBitVec.toNat = v * 32 + x := by
    show (BitVec.ofNat 32 (v * 32 + x)).toNat = _
    rw [BitVec.toNat_ofNat]; omega
  have a4 : (nI v <<< (5 : Int32)).toBitVec.toNat = v * 32 := by
    rw [Int32.toBitVec_shiftLeft]
    have : (5 : Int32).toBitVec.smod 32 = 5#32 := by decide +kernel
    rw [this, BitVec.shiftLeft_eq', BitVec.toNat_shiftLeft, a1]
    show v <<< 5 % 2 ^ 32 = v * 32
    rw [Nat.shiftLeft_eq]; omega
  rw [Int32.toBitVec_or, BitVec.toNat_or, a4, a2, a3]
  have := Nat.two_pow_add_eq_or_of_lt (i := 5) hx v
  rw [show v * 32 = 2 ^ 5 * v by omega]
  omega
theorem l50 (hn : 44 ≤ nx) {n q r : Nat} (hb : BY M 3 n B) (hn7 : n ≤ 700) (hK : ∀ M', eqP M M' → M' 2 2 = nI r → M' 2 5 = nI q → M' 2 4 = nI (if r - q ≤ 6 then 1 else 4) → (r - q ≤ 6 → M' 2 6 = nI (wF B q (r - q))) → Q none M' N (P0 t e) nx) : ∀ m j M', j + m = n → q ≤ j → rnF B 1 m j = r → eqP M M' → M' 2 2 = nI j → M' 2 3 = nI n → M' 2 5 = nI q → M' 2 4 = nI 1 → (j - q ≤ 6 → M' 2 6 = nI (wF B q (j - q))) → (∀ i, i < j - q → B (q + i) ≤ 122) → WP (aSem (d + 1)) g0 50 nx (qn nx Q) 0 [(0, .ref 2)] [] M' N (P0 t e) nx := by
  have fin : ∀ j M', j ≤ n → q ≤ j → r = j → eqP M M' → M' 2 2 = nI j → M' 2 5 = nI q → M' 2 4 = nI 1 → (j - q ≤ 6 → M' 2 6 = nI (wF B q (j - q))) → WP (aSem (d + 1)) g0 50 nx (qn nx Q) 60 [(0, .ref 2)] [] M' N (P0 t e) nx := by
    intro j M' hj hq hr he e2 e5 e4 e6
    subst hr
    simp only [B50_60, B50_74, B50_79, false_imp_iff, true_imp_iff, not_false_eq_true, not_true_eq_false, true_and, and_true, implies_true, qn_self, rI_i, rJ_l, rV_n, okZ0, okZ1, o2 hn, e2, e5, nI_sub hq, nI_leI (show r - q < 2 ^ 31 by omega) (show 6 < 2 ^ 31 by decide)]
    refine ⟨fun z => ?_, fun z => ?_⟩
    · exact hK M' he e2 e5 (by rw [if_pos z]; exact e4) e6
    · refine hK _ (he.w (Or.inr (Or.inl rfl))) ?_ ?_ ?_ (fun w => absurd w z)
      · rw [uM_j (by decide)]; exact e2
      · rw [uM_j (by decide)]; exact e5
      · rw [uM_k, if_neg z]
  intro m
  induction m with
  | zero =>
    intro j M' hj hq hr he e2 e3 e5 e4 e6 _
    have hr2 : j = r := hr
    simp only [B50_0, false_imp_iff, true_imp_iff, not_false_eq_true, not_true_eq_false, true_and, and_true, implies_true, qn_self, rI_i, rJ_l, rV_n, okZ0, okZ1, o2 hn, e2, e3, nI_le (show n ≤ j by omega) (show j < 2 ^ 31 by omega)]
    exact fin j M' (by omega) hq hr2.symm he e2 e5 e4 e6
  | succ m ih =>
    intro j M' hj hq hr he e2 e3 e5 e4 e6 hlo
    obtain ⟨g1, g2⟩ := hb.p he j (by omega)
    rw [rnF_s] at hr
    simp only [B50_0, false_imp_iff, true_imp_iff, not_false_eq_true, not_true_eq_false, true_and, and_true, implies_true, qn_self, rI_i, rJ_l, rV_n, okZ0, okZ1, o2 hn, e2, e3, nI_ge (show j < n by omega) (show n < 2 ^ 31 by omega)]
    simp only [B50_11, false_imp_iff, true_imp_iff, not_false_eq_true, not_true_eq_false, true_and, and_true, implies_true, qn_self, rI_i, rJ_l, rV_n, okZ0, okZ1, o2 hn, exP (show P0 t e 2 0 = some 3 from rfl), e2, x3 hn (show j < 700 by omega), g1, s53 g2, nI_eq (show so (B j) < 2 ^ 31 by have := so_le (B j); omega) (show 1 < 2 ^ 31 by decide)]
    refine ⟨fun z => ?_, fun z => ?_⟩
    · rw [if_neg z] at hr
      exact fin j M' (by omega) hq hr.symm he e2 e5 e4 e6
    · rw [if_pos z] at hr
      have hl := so_1.mp z
      have g3 : sx (B j) - nI 97 + nI 1 = nI (B j - 96) := by
        rw [sx_lo _ (by omega), nI_sub (by omega), nI_add]; congr 1; omega
      simp only [B50_27, false_imp_iff, true_imp_iff, not_false_eq_true, not_true_eq_false, true_and, and_true, implies_true, qn_self, rI_i, rJ_l, rV_n, okZ0, okZ1, o2 hn, exP (show P0 t e 2 0 = some 3 from rfl), e2, x3 hn (show j < 700 by omega), g1, s52, g3]
      refine ih (j + 1) _ (by omega) (by omega) hr ((he.w (by omega)).w (by omega)) ?_ ?_ ?_ ?_ (fun h6 => ?_) (fun i hi => ?_)
      · rw [uM_k, uM_j (by decide), e2, nI_add]
      · rw [uM_j (by decide), uM_j (by decide)]; exact e3
      · rw [uM_j (by decide), uM_j (by decide)]; exact e5
      · rw [uM_j (by decide), uM_j (by decide)]; exact e4
      · rw [uM_j (by decide), uM_k, e6 (by omega), show j + 1 - q = (j - q) + 1 by omega]
        have a := wF_lt (B := B) (q := q) (j - q) hlo
        have b : 32 ^ (j - q) ≤ 32 ^ 5 := Nat.pow_le_pow_right (by decide) (by omega)
        have c : (32 : Nat) ^ 5 = 2 ^ 25 := by decide
        rw [wl5 (by omega) (by omega)]
        show _ = nI (wF B q (j - q) * 32 + (B (q + (j - q)) - 96))
        rw [show q + (j - q) = j by omega]
      · by_cases w : i = j - q
        · rw [w, show q + (j - q) = j by omega]; exact hl.2
        · exact hlo i (by omega)
theorem l51 (hn : 44 ≤ nx) {n q r : Nat} (hb : BY M 3 n B) (hn7 : n ≤ 700) (hK : ∀ M', eqP M M' → M' 2 2 = nI r → M' 2 5 = nI q → M' 2 4 = nI (if r - q ≤ 2 then 2 else 4) → (r - q ≤ 2 → M' 2 6 = nI (dF B q (r - q))) → Q none M' N (P0 t e) nx) : ∀ m j M', j + m = n → q ≤ j → rnF B 2 m j = r → eqP M M' → M' 2 2 = nI j → M' 2 3 = nI n → M' 2 5 = nI q → M' 2 4 = nI 2 → (j - q ≤ 2 → M' 2 6 = nI (dF B q (j - q))) → WP (aSem (d + 1)) g0 51 nx (qn nx Q) 0 [(0, .ref 2)] [] M' N (P0 t e) nx := by
  have fin : ∀ j M', j ≤ n → q ≤ j → r = j → eqP M M' → M' 2 2 = nI j → M' 2 5 = nI q → M' 2 4 = nI 2 → (j - q ≤ 2 → M' 2 6 = nI (dF B q (j - q))) → WP (aSem (d + 1)) g0 51 nx (qn nx Q) 64 [(0, .ref 2)] [] M' N (P0 t e) nx := by
    intro j M' hj hq hr he e2 e5 e4 e6
    subst hr
    simp only [B51_64, B51_77, B51_82, false_imp_iff, true_imp_iff, not_false_eq_true, not_true_eq_false, true_and, and_true, implies_true, qn_self, rI_i, rJ_l, rV_n, okZ0, okZ1, o2 hn, e2, e5, nI_sub hq, nI_leI (show r - q < 2 ^ 31 by omega) (show 2 < 2 ^ 31 by decide)]
    refine ⟨fun z => ?_, fun z => ?_⟩
    · exact hK M' he e2 e5 (by rw [if_pos z]; exact e4) e6
    · refine hK _ (he.w (Or.inr (Or.inl rfl))) ?_ ?_ ?_ (fun w => absurd w z)
      · rw [uM_j (by decide)]; exact e2
      · rw [uM_j (by decide)]; exact e5
      · rw [uM_k, if_neg z]
  intro m
  induction m with
  | zero =>
    intro j M' hj hq hr he e2 e3 e5 e4 e6
    have hr2 : j = r := hr
    simp only [B51_0, false_imp_iff, true_imp_iff, not_false_eq_true, not_true_eq_false, true_and, and_true, implies_true, qn_self, rI_i, rJ_l, rV_n, okZ0, okZ1, o2 hn, e2, e3, nI_le (show n ≤ j by omega) (show j < 2 ^ 31 by omega)]
    exact fin j M' (by omega) hq hr2.symm he e2 e5 e4 e6
  | succ m ih =>
    intro j M' hj hq hr he e2 e3 e5 e4 e6
    obtain ⟨g1, g2⟩ := hb.p he j (by omega)
    rw [rnF_s] at hr
    simp only [B51_0, false_imp_iff, true_imp_iff, not_false_eq_true, not_true_eq_false, true_and, and_true, implies_true, qn_self, rI_i, rJ_l, rV_n, okZ0, okZ1, o2 hn, e2, e3, nI_ge (show j < n by omega) (show n < 2 ^ 31 by omega)]
    simp only [B51_11, false_imp_iff, true_imp_iff, not_false_eq_true, not_true_eq_false, true_and, and_true, implies_true, qn_self, rI_i, rJ_l, rV_n, okZ0, okZ1, o2 hn, exP (show P0 t e 2 0 = some 3 from rfl), e2, x3 hn (show j < 700 by omega), g1, s53 g2, nI_eq (show so (B j) < 2 ^ 31 by have := so_le (B j); omega) (show 2 < 2 ^ 31 by decide)]
    refine ⟨fun z => ?_, fun z => ?_⟩
    · rw [if_neg z] at hr
      exact fin j M' (by omega) hq hr.symm he e2 e5 e4 e6
    · rw [if_pos z] at hr
      have hl := so_2.mp z
      have g3 : sx (B j) = nI (B j) := sx_lo _ (by omega)
      simp only [B51_27, false_imp_iff, true_imp_iff, not_false_eq_true, not_true_eq_false, true_and, and_true, implies_true, qn_self, rI_i, rJ_l, rV_n, okZ0, okZ1, o2 hn, exP (show P0 t e 2 0 = some 3 from rfl), e2, x3 hn (show j < 700 by omega), g1, g3]
      refine ih (j + 1) _ (by omega) (by omega) hr ((he.w (by omega)).w (by omega)) ?_ ?_ ?_ ?_ (fun h6 => ?_)
      · rw [uM_k, uM_j (by decide), e2, nI_add]
      · rw [uM_j (by decide), uM_j (by decide)]; exact e3
      · rw [uM_j (by decide), uM_j (by decide)]; exact e5
      · rw [uM_j (by decide), uM_j (by decide)]; exact e4
      · rw [uM_j (by decide), uM_k, e6 (by omega), show j + 1 - q = (j - q) + 1 by omega, nI_mul, nI_add, nI_sub (by omega)]
        show _ = nI (dF B q (j - q) * 10 + (B (q + (j - q)) - 48))
        rw [show q + (j - q) = j by omega]
        congr 1
        omega
/-- the token that was read last: from p on -/
def TO (M : aM) (B : Nat → Nat) (n p : Nat) : Prop := M 2 2 = nI (tE B n p) ∧ M 2 3 = nI n ∧ n ≤ 700 ∧ M 2 4 = nI (tK B n p) ∧ M 2 5 = nI (tP B n p) ∧ ((tK B n p = 1 ∨ tK B n p = 2) → M 2 6 = nI (tV B n p)) ∧ p ≤ n
theorem TO.ts {n p : Nat} (h : TO M B n p) : TS M n (tE B n p) := ⟨h.1, h.2.1, (tE_ge h.2.2.2.2.2.2).2.1, h.2.2.1⟩
theorem l49 (hn : 44 ≤ nx) {n p0 : Nat} (hb : BY M 3 n B) (hp0 : p0 ≤ n) (hn7 : n ≤ 700) (hQ : ∀ M', eqP M M' → TO M' B n p0 → Q none M' N (P0 t e) nx) : ∀ m p M', p + m = n → rnF B 5 m p = tP B n p0 → eqP M M' → M' 2 2 = nI p → M' 2 3 = nI n → WP (aSem (d + 2)) g0 49 nx (qn nx Q) 0 [(0, .ref 2)] [] M' N (P0 t e) nx := by
  have fin : ∀ p M', p ≤ n → p = tP B n p0 → eqP M M' → M' 2 2 = nI p → M' 2 3 = nI n → WP (aSem (d + 2)) g0 49 nx (qn nx Q) 40 [(0, .ref 2)] [] M' N (P0 t e) nx := by
    intro p M' hp hq he e2 e3
    have f2 : uM (uM M' 2 5 (M' 2 2)) 2 6 (nI 0) 2 2 = nI p := by rw [uM_j (by decide), uM_j (by decide)]; exact e2
    have f3 : uM (uM M' 2 5 (M' 2 2)) 2 6 (nI 0) 2 3 = nI n := by rw [uM_j (by decide), uM_j (by decide)]; exact e3
    have f5 : uM (uM M' 2 5 (M' 2 2)) 2 6 (nI 0) 2 5 = nI p := by rw [uM_j (by decide), uM_k]; exact e2
    have f6 : uM (uM M' 2 5 (M' 2 2)) 2 6 (nI 0) 2 6 = nI 0 := uM_k
    have hf : eqP M (uM (uM M' 2 5 (M' 2 2)) 2 6 (nI 0)) := (he.w (by omega)).w (by omega)
    simp only [B49_40, false_imp_iff, true_imp_iff, not_false_eq_true, not_true_eq_false, true_and, and_true, implies_true, qn_self, rI_i, rJ_l, rV_n, okZ0, okZ1, o2 hn, f2, f3, ltN (show p < 2 ^ 31 by omega) (show n < 2 ^ 31 by omega)]
    generalize uM (uM M' 2 5 (M' 2 2)) 2 6 (nI 0) = M2 at f2 f3 f5 f6 hf ⊢
    refine ⟨fun z => ?_, fun z => ?_⟩
    · obtain ⟨g1, g2⟩ := hb.p hf p z
      have s5 := so_le (B p)
      have hn5 : ¬ so (B p) = 5 := by
        rw [hq]
        exact rnF_no B 5 (n - p0) p0 (by unfold tP at hq; omega)
      have h4 : uM M2 2 4 (nI (so (B p))) 2 4 = nI (so (B p)) := uM_k
      simp only [B49_70, false_imp_iff, true_imp_iff, not_false_eq_true, not_true_eq_false, true_and, and_true, implies_true, qn_self, rI_i, rJ_l, rV_n, okZ0, okZ1, o2 hn, exP (show P0 t e 2 0 = some 3 from rfl), f2, x3 hn (show p < 700 by omega), g1, s53 g2, h4, nI_eq (show so (B p) < 2 ^ 31 by omega) (show 1 < 2 ^ 31 by decide)]
      have k2 : uM M2 2 4 (nI (so (B p))) 2 2 = nI p := by rw [uM_j (by decide)]; exact f2
      have k3 : uM M2 2 4 (nI (so (B p))) 2 3 = nI n := by rw [uM_j (by decide)]; exact f3
      have k5 : uM M2 2 4 (nI (so (B p))) 2 5 = nI p := by rw [uM_j (by decide)]; exact f5
      have k6 : uM M2 2 4 (nI (so (B p))) 2 6 = nI 0 := by rw [uM_j (by decide)]; exact f6
      have hf2 : eqP M (uM M2 2 4 (nI (so (B p)))) := hf.w (by omega)
      have hb2 := hb.p hf2
      have u0 : ¬ n ≤ tP B n p0 := by omega
      generalize uM M2 2 4 (nI (so (B p))) = M3 at h4 k2 k3 k5 k6 hf2 hb2 ⊢
      refine ⟨fun z1 => ?_, fun z1 => ?_⟩
      · simp only [B49_101, false_imp_iff, true_imp_iff, not_false_eq_true, not_true_eq_false, true_and, and_true, implies_true, qn_self, rI_i, rJ_l, rV_n, okZ0, okZ1, o2 hn, h4, nI_eq (show so (B p) < 2 ^ 31 by omega) (show 2 < 2 ^ 31 by decide)]
        refine ⟨fun z2 => ?_, fun z2 => ?_⟩
        · simp only [B49_116, B49_126, false_imp_iff, true_imp_iff, not_false_eq_true, not_true_eq_false, true_and, and_true, implies_true, qn_self, rI_i, rJ_l, rV_n, okZ0, okZ1, o2 hn, k2, nI_add]
          refine hQ _ (hf2.w (by omega)) ⟨?_, ?_, hn7, ?_, ?_, fun w => ?_, hp0⟩
          · rw [uM_k]; unfold tE; rw [if_neg u0, ← hq, if_neg z1, if_neg z2]
          · rw [uM_j (by decide)]; exact k3
          · rw [uM_j (by decide), h4]; unfold tK; rw [if_neg u0, ← hq, if_neg z1, if_neg z2]
          · rw [uM_j (by decide), k5, hq]
          · unfold tK at w
            rw [if_neg u0, ← hq, if_neg z1, if_neg z2] at w
            omega
        · simp only [B49_109, false_imp_iff, true_imp_iff, not_false_eq_true, not_true_eq_false, true_and, and_true, implies_true, qn_self, rI_i, rJ_l, rV_n, okZ0, okZ1, o2 hn]
          show aSem (d + 1 + 1) 51 [.ref 2] M3 N (P0 t e) nx _
          rw [A51]
          refine l51 hn (M := M3) (r := tR B n 2 p) hb2 hn7 (fun M4 he4 a2 a5 a4 a6 => ?_) (n - p) p M3 (by omega) (Nat.le_refl _) rfl eqP.rf k2 k3 k5 (by rw [h4, z2]) (fun _ => by rw [k6, Nat.sub_self]; rfl)
          simp only [false_imp_iff, true_imp_iff, not_false_eq_true, not_true_eq_false, true_and, and_true, implies_true, qn_self, rI_i, rJ_l, rV_n, okZ0, okZ1, B49_126]
          refine hQ _ (hf2.tr he4) ⟨?_, ?_, hn7, ?_, ?_, fun w => ?_, hp0⟩
          · rw [a2]; unfold tE; rw [if_neg u0, ← hq, if_neg z1, if_pos z2]
          · rw [he4.2 3 (by decide) (by decide) (by decide) (by decide)]; exact k3
          · rw [a4]; unfold tK; rw [if_neg u0, ← hq, if_neg z1, if_pos z2]
          · rw [a5, hq]
          · unfold tK at w
            rw [if_neg u0, ← hq, if_neg z1, if_pos z2] at w
            have h6 : tR B n 2 p - p ≤ 2 := by
              by_cases y : tR B n 2 p - p ≤ 2
              · exact y
              · rw [if_neg y] at w; omega
            rw [a6 h6]; unfold tV; rw [← hq, if_neg z1]
      · simp only [B49_94, false_imp_iff, true_imp_iff, not_false_eq_true, not_true_eq_false, true_and, and_true, implies_true, qn_self, rI_i, rJ_l, rV_n, okZ0, okZ1, o2 hn]
        show aSem (d + 1 + 1) 50 [.ref 2] M3 N (P0 t e) nx _
        rw [A50]
        refine l50 hn (M := M3) (r := tR B n 1 p) hb2 hn7 (fun M4 he4 a2 a5 a4 a6 => ?_) (n - p) p M3 (by omega) (Nat.le_refl _) rfl eqP.rf k2 k3 k5 (by rw [h4, z1]) (fun _ => by rw [k6, Nat.sub_self]; rfl) (fun i hi => by omega)
        simp only [false_imp_iff, true_imp_iff, not_false_eq_true, not_true_eq_false, true_and, and_true, implies_true, qn_self, rI_i, rJ_l, rV_n, okZ0, okZ1, B49_126]
        refine hQ _ (hf2.tr he4) ⟨?_, ?_, hn7, ?_, ?_, fun w => ?_, hp0⟩
        · rw [a2]; unfold tE; rw [if_neg u0, ← hq, if_pos z1]
        · rw [he4.2 3 (by decide) (by decide) (by decide) (by decide)]; exact k3
        · rw [a4]; unfold tK; rw [if_neg u0, ← hq, if_pos z1]
        · rw [a5, hq]
        · unfold tK at w
          rw [if_neg u0, ← hq, if_pos z1] at w
          have h6 : tR B n 1 p - p ≤ 6 := by
            by_cases y : tR B n 1 p - p ≤ 6
            · exact y
            · rw [if_neg y] at w; omega
          rw [a6 h6]; unfold tV; rw [← hq, if_pos z1]
    · simp only [B49_64, false_imp_iff, true_imp_iff, not_false_eq_true, not_true_eq_false, true_and, and_true, implies_true, qn_self, rI_i, rJ_l, rV_n, okZ0, okZ1, o2 hn]
      have u0 : n ≤ tP B n p0 := by omega
      refine hQ _ (hf.w (by omega)) ⟨?_, ?_, hn7, ?_, ?_, fun w => ?_, hp0⟩
      · rw [uM_j (by decide), f2]; unfold tE; rw [if_pos u0, hq]
      · rw [uM_j (by decide)]; exact f3
      · rw [uM_k]; unfold tK; rw [if_pos u0]
      · rw [uM_j (by decide), f5, hq]
      · unfold tK at w
        rw [if_pos u0] at w
        omega
  intro m
  induction m with
  | zero =>
    intro p M' hp hq he e2 e3
    have hq2 : p = tP B n p0 := hq
    simp only [B49_0, false_imp_iff, true_imp_iff, not_false_eq_true, not_true_eq_false, true_and, and_true, implies_true, qn_self, rI_i, rJ_l, rV_n, okZ0, okZ1, o2 hn, e2, e3, nI_le (show n ≤ p by omega) (show p < 2 ^ 31 by omega)]
    exact fin p M' (by omega) hq2 he e2 e3
  | succ m ih =>
    intro p M' hp hq he e2 e3
    obtain ⟨g1, g2⟩ := hb.p he p (by omega)
    rw [rnF_s] at hq
    simp only [B49_0, false_imp_iff, true_imp_iff, not_false_eq_true, not_true_eq_false, true_and, and_true, implies_true, qn_self, rI_i, rJ_l, rV_n, okZ0, okZ1, o2 hn, e2, e3, nI_ge (show p < n by omega) (show n < 2 ^ 31 by omega)]
    simp only [B49_11, false_imp_iff, true_imp_iff, not_false_eq_true, not_true_eq_false, true_and, and_true, implies_true, qn_self, rI_i, rJ_l, rV_n, okZ0, okZ1, o2 hn, exP (show P0 t e 2 0 = some 3 from rfl), e2, x3 hn (show p < 700 by omega), g1, s53 g2, nI_eq (show so (B p) < 2 ^ 31 by have := so_le (B p); omega) (show 5 < 2 ^ 31 by decide)]
    refine ⟨fun z => ?_, fun z => ?_⟩
    · rw [if_neg z] at hq
      exact fin p M' (by omega) hq he e2 e3
    · rw [if_pos z] at hq
      simp only [B49_27, false_imp_iff, true_imp_iff, not_false_eq_true, not_true_eq_false, true_and, and_true, implies_true, qn_self, rI_i, rJ_l, rV_n, okZ0, okZ1, o2 hn, e2, nI_add]
      refine ih (p + 1) _ (by omega) hq (he.w (by omega)) uM_k ?_
      rw [uM_j (by decide)]; exact e3
theorem s49 (hn : 44 ≤ nx) {n p : Nat} (hb : BY M 3 n B) (hs : TS M n p) (hQ : ∀ M', eqP M M' → TO M' B n p → Q none M' N (P0 t e) nx) : aSem (d + 3) 49 [.ref 2] M N (P0 t e) nx Q := by
  simp only [A49]
  exact l49 hn hb hs.2.2.1 hs.2.2.2 hQ (n - p) p M (by have := hs.2.2.1; omega) rfl eqP.rf hs.1 hs.2.1
end TAP
