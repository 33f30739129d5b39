/-! THE REFERENCE: tokens -/
theorem uN_k {N : aN} {a k : Nat} {v : Int64} : uN N a k v a k = v := by rw [uN_eq, up_eq]
theorem uN_j {N : aN} {a k j : Nat} {v : Int64} (h : j ≠ k) : uN N a k v a j = N a j := by rw [uN_eq, up_ne h]
/-- memory but for the reference's reading -/
def eqH (M M' : aM) : Prop := (∀ a, a ≠ 31 → M' a = M a) ∧ ∀ k, k ≠ 4 → k ≠ 5 → k ≠ 6 → k ≠ 7 → M' 31 k = M 31 k
theorem eqH.rf {M : aM} : eqH M M := ⟨fun _ _ => rfl, fun _ _ _ _ _ => rfl⟩
theorem eqH.tr {M M' M'' : aM} (h : eqH M M') (h' : eqH M' M'') : eqH M M'' := ⟨fun a x => (h'.1 a x).trans (h.1 a x), fun k x y z w => (h'.2 k x y z w).trans (h.2 k x y z w)⟩
theorem eqH.w {M M' : aM} {k : Nat} {v : Int32} (h : eqH M M') (hk : k = 4 ∨ k = 5 ∨ k = 6 ∨ k = 7) : eqH M (uM M' 31 k v) := ⟨fun a x => by rw [uM_ne x]; exact h.1 a x, fun j x y z w => by rw [uM_j (by omega)]; exact h.2 j x y z w⟩
def eqJ (N N' : aN) : Prop := (∀ a, a ≠ 31 → N' a = N a) ∧ ∀ k, k ≠ 8 → N' 31 k = N 31 k
theorem eqJ.rf {N : aN} : eqJ N N := ⟨fun _ _ => rfl, fun _ _ => rfl⟩
theorem eqJ.tr {N N' N'' : aN} (h : eqJ N N') (h' : eqJ N' N'') : eqJ N N'' := ⟨fun a x => (h'.1 a x).trans (h.1 a x), fun k x => (h'.2 k x).trans (h.2 k x)⟩
theorem eqJ.w {N N' : aN} {v : Int64} (h : eqJ N N') : eqJ N (uN N' 31 8 v) := ⟨fun a x => by rw [uN_ne x]; exact h.1 a x, fun j x => by rw [uN_j x]; exact h.2 j x⟩
theorem BY.h {M M' : aM} {n : Nat} {B : Nat → Nat} (h : BY M 32 n B) (he : eqH M M') : BY M' 32 n B := fun k hk => by rw [he.1 32 (by decide)]; exact h k hk
def seI (B : Nat → Nat) (n k : Nat) : Int32 := if n ≤ k then ng1 else nI (B k)
theorem wi_n {a b c : Nat} (ha : a < 2 ^ 31) (hb : b < 2 ^ 31) (hc : c < 2 ^ 31) : (lN a ≤ (nI b).toInt64 ∧ (nI b).toInt64 ≤ lN c) ↔ a ≤ b ∧ b ≤ c := by
  rw [Int64.le_iff_toInt_le, Int64.le_iff_toInt_le, Int32.toInt_toInt64, nI_toInt hb, lN_toInt ha, lN_toInt hc]
  omega
theorem wi_m {a c : Nat} (ha : a < 2 ^ 31) : ¬ (lN a ≤ ng1.toInt64 ∧ ng1.toInt64 ≤ lN c) := by
  rw [Int64.le_iff_toInt_le, Int32.toInt_toInt64, lN_toInt ha, ng1_i]
  omega
theorem wl5L {v x : Nat} (hv : v < 2 ^ 25) (hx : x < 32) : (lN v <<< ((nI 5).toInt64 &&& 63)) ||| lN x = lN (v * 32 + x) := by
  have e0 : ((nI 5).toInt64 &&& 63 : Int64) = 5 := by decide +kernel
  rw [e0]
  apply Int64.toBitVec_inj.mp
  apply BitVec.eq_of_toNat_eq
  have a1 : (lN v).toBitVec.toNat = v := by
    show (BitVec.ofNat 64 v).toNat = v
    rw [BitVec.toNat_ofNat]; omega
  have a2 : (lN x).toBitVec.toNat = x := by
    show (BitVec.ofNat 64 x).toNat = x
    rw [BitVec.toNat_ofNat]; omega
  have a3 : (lN (v * 32 + x)).toBitVec.toNat = v * 32 + x := by
    show (BitVec.ofNat 64 (v * 32 + x)).toNat = _
    rw [BitVec.toNat_ofNat]; omega
  have a4 : (lN v <<< (5 : Int64)).toBitVec.toNat = v * 32 := by
    rw [Int64.toBitVec_shiftLeft]
    have : (5 : Int64).toBitVec.smod 64 = 5#64 := by decide +kernel
    rw [this, BitVec.shiftLeft_eq', BitVec.toNat_shiftLeft, a1]
    show v <<< 5 % 2 ^ 64 = v * 32
    rw [Nat.shiftLeft_eq]; omega
  rw [Int64.toBitVec_or, BitVec.toNat_or, a4, a2, a3]
  have := Nat.two_pow_add_eq_or_of_lt (i := 5) hx v
  rw [show v * 32 = 2 ^ 5 * v by omega]
  omega
section MST
variable {d : Nat} {M : aM} {N : aN} {P : aP} {t e nx : Nat} {B : Nat → Nat} {Q : aQ}
theorem x32 (hn : 44 ≤ nx) {K : Nat} {R : Nat → Prop} (h : K < 700) : (∃ k, (okA nx 32 2 (nI K) k ∨ okA nx 32 3 (nI K) k) ∧ R k) ↔ R K := exB2 (show kindOf 32 = (2, 700) from rfl) (by omega) (by decide) h
theorem s134 (hn : 44 ≤ nx) {n k : Nat} (hb : BY M 32 n B) (h3 : M 31 3 = nI n) (hn7 : n ≤ 700) (hk : k ≤ 700) : aSem (d + 1) 134 [.ref 31, .int (nI k)] M N (P0 t e) nx Q ↔ Q (some (.int (seI B n k))) M N (P0 t e) nx := by
  unfold seI
  by_cases q : n ≤ k
  · simp only [A134, B134_0, B134_21, B134_22, false_imp_iff, true_imp_iff, not_false_eq_true, not_true_eq_false, true_and, and_true, implies_true, qn_self, rI_i, rJ_l, rV_n, okZ0, okZ1, o31 hn, h3, nI_le q (show k < 2 ^ 31 by omega), if_pos q]
  · obtain ⟨g1, g2⟩ := hb k (by omega)
    simp only [A134, B134_0, B134_8, B134_22, false_imp_iff, true_imp_iff, not_false_eq_true, not_true_eq_false, true_and, and_true, implies_true, qn_self, rI_i, rJ_l, rV_n, okZ0, okZ1, o31 hn, h3, nI_ge (show k < n by omega) (show n < 2 ^ 31 by omega), if_neg q, exP (show P0 t e 31 1 = some 32 from rfl), x32 hn (show k < 700 by omega), g1, sx_and _ g2]
theorem sWi {n k a c : Nat} (ha : a < 2 ^ 31) (hc : c < 2 ^ 31) (hb : k < n → B k < 256) : aSem (d + 1) 131 [.long (seI B n k).toInt64, .long (lN a), .long (lN c)] M N P nx Q ↔ Q (some (.int (if k < n ∧ a ≤ B k ∧ B k ≤ c then nI 1 else nI 0))) M N P nx := by
  rw [s131]
  unfold seI
  by_cases q : n ≤ k
  · rw [if_pos q, if_neg (wi_m ha), if_neg (by omega)]
  · rw [if_neg q]
    by_cases w : a ≤ B k ∧ B k ≤ c
    · rw [if_pos ((wi_n ha (by have := hb (by omega); omega) hc).mpr w), if_pos ⟨by omega, w⟩]
    · rw [if_neg (fun z => w ((wi_n ha (by have := hb (by omega); omega) hc).mp z)), if_neg (fun z => w z.2)]
theorem seI_eq {n k b : Nat} (hb : k < n → B k < 256) (h : b < 2 ^ 31) : seI B n k = nI b ↔ k < n ∧ B k = b := by
  unfold seI
  by_cases q : n ≤ k
  · rw [if_pos q]
    exact ⟨fun z => absurd z.symm (nI_ng1 h), fun z => by omega⟩
  · rw [if_neg q, nI_eq (by have := hb (by omega); omega) h]
    exact ⟨fun z => ⟨by omega, z⟩, fun z => z.2⟩
theorem seI_ng {n k : Nat} (hb : k < n → B k < 256) : seI B n k = ng1 ↔ n ≤ k := by
  unfold seI
  by_cases q : n ≤ k
  · rw [if_pos q]; exact ⟨fun _ => q, fun _ => rfl⟩
  · rw [if_neg q]; exact ⟨fun z => absurd z (nI_ng1 (by have := hb (by omega); omega)), fun z => absurd z q⟩
/-- the reference's token: from p on -/
def RO (M : aM) (N : aN) (B : Nat → Nat) (n p : Nat) : Prop := M 31 4 = nI (tP B n p) ∧ M 31 5 = nI (tE B n p) ∧ M 31 3 = nI n ∧ n ≤ 700 ∧ M 31 6 = nI (tK B n p) ∧ (tK B n p = 2 → M 31 7 = nI (tV B n p)) ∧ (tK B n p = 1 → N 31 8 = lN (tV B n p)) ∧ p ≤ n
theorem l135w (hn : 44 ≤ nx) {n q r : Nat} (hb : BY M 32 n B) (h3 : M 31 3 = nI n) (hn7 : n ≤ 700) (hK : ∀ M' N', eqH M M' → eqJ N N' → M' 31 5 = nI r → M' 31 4 = nI q → M' 31 6 = nI (if r - q ≤ 6 then 1 else 4) → (r - q ≤ 6 → N' 31 8 = lN (wF B q (r - q))) → Q none M' N' (P0 t e) nx) : ∀ m j M' N', j + m = n → q ≤ j → rnF B 1 m j = r → eqH M M' → eqJ N N' → M' 31 5 = nI j → M' 31 4 = nI q → (j - q ≤ 6 → N' 31 8 = lN (wF B q (j - q))) → (∀ i, i < j - q → B (q + i) ≤ 122) → WP (aSem (d + 1)) g0 135 nx (qn nx Q) 138 [(0, .ref 31)] [] M' N' (P0 t e) nx := by
  have fin : ∀ j M' N', j ≤ n → q ≤ j → r = j → eqH M M' → eqJ N N' → M' 31 5 = nI j → M' 31 4 = nI q → (j - q ≤ 6 → N' 31 8 = lN (wF B q (j - q))) → WP (aSem (d + 1)) g0 135 nx (qn nx Q) 217 [(0, .ref 31)] [] M' N' (P0 t e) nx := by
    intro j M' N' hj hq hr he hj2 e5 e4 e8
    subst hr
    simp only [B135_217, false_imp_iff, true_imp_iff, not_false_eq_true, not_true_eq_false, true_and, and_true, implies_true, qn_self, rI_i, rJ_l, rV_n, okZ0, okZ1, o31 hn, e5, e4, nI_sub hq, nI_leI (show 7 < 2 ^ 31 by decide) (show r - q < 2 ^ 31 by omega)]
    refine ⟨fun z => ?_, fun z => ?_⟩
    · simp only [B135_236, B135_237, B135_364, false_imp_iff, true_imp_iff, not_false_eq_true, not_true_eq_false, true_and, and_true, implies_true, qn_self, rI_i, rJ_l, rV_n, okZ0, okZ1, o31 hn]
      refine hK _ _ (he.w (by omega)) hj2 (by rw [uM_j (by decide)]; exact e5) (by rw [uM_j (by decide)]; exact e4) ?_ e8
      rw [uM_k, if_neg (by omega)]
    · simp only [B135_232, B135_237, B135_364, false_imp_iff, true_imp_iff, not_false_eq_true, not_true_eq_false, true_and, and_true, implies_true, qn_self, rI_i, rJ_l, rV_n, okZ0, okZ1, o31 hn]
      refine hK _ _ (he.w (by omega)) hj2 (by rw [uM_j (by decide)]; exact e5) (by rw [uM_j (by decide)]; exact e4) ?_ e8
      rw [uM_k, if_pos (by omega)]
  intro m
  induction m with
  | zero =>
    intro j M' N' hj hq hr he hj2 e5 e4 e8 _
    have hr2 : j = r := hr
    have h3' : M' 31 3 = nI n := by rw [he.2 3 (by decide) (by decide) (by decide) (by decide)]; exact h3
    have hb' := hb.h he
    simp only [B135_138, false_imp_iff, true_imp_iff, not_false_eq_true, not_true_eq_false, true_and, and_true, implies_true, qn_self, rI_i, rJ_l, rV_n, okZ0, okZ1, o31 hn, e5, s134 hn hb' h3' hn7 (show j ≤ 700 by omega), sWi (B := B) (n := n) (k := j) (show 97 < 2 ^ 31 by decide) (show 122 < 2 ^ 31 by decide) (fun z => (hb j z).2), show ¬ (j < n ∧ 97 ≤ B j ∧ B j ≤ 122) by omega, if_false, eq_true nI_0]
    exact fin j M' N' (by omega) hq hr2.symm he hj2 e5 e4 e8
  | succ m ih =>
    intro j M' N' hj hq hr he hj2 e5 e4 e8 hlo
    have h3' : M' 31 3 = nI n := by rw [he.2 3 (by decide) (by decide) (by decide) (by decide)]; exact h3
    have hb' := hb.h he
    rw [rnF_s] at hr
    simp only [B135_138, false_imp_iff, true_imp_iff, not_false_eq_true, not_true_eq_false, true_and, and_true, implies_true, qn_self, rI_i, rJ_l, rV_n, okZ0, okZ1, o31 hn, e5, s134 hn hb' h3' hn7 (show j ≤ 700 by omega), sWi (B := B) (n := n) (k := j) (show 97 < 2 ^ 31 by decide) (show 122 < 2 ^ 31 by decide) (fun z => (hb j z).2)]
    by_cases z : so (B j) = 1
    · have hl := so_1.mp z
      rw [if_pos z] at hr
      simp only [show (j < n ∧ 97 ≤ B j ∧ B j ≤ 122) from ⟨by omega, hl⟩, and_self, if_true, one0, false_imp_iff, true_imp_iff, not_false_eq_true, not_true_eq_false, true_and, and_true, implies_true, qn_self, rI_i, rJ_l, rV_n, okZ0, okZ1]
      simp only [B135_159, false_imp_iff, true_imp_iff, not_false_eq_true, not_true_eq_false, true_and, and_true, implies_true, qn_self, rI_i, rJ_l, rV_n, okZ0, okZ1, o31 hn, e5, e4, nI_sub hq, nI_leI (show 6 < 2 ^ 31 by decide) (show j - q < 2 ^ 31 by omega)]
      refine ⟨fun w => ?_, fun w => ?_⟩
      · simp only [B135_197, B135_201, false_imp_iff, true_imp_iff, not_false_eq_true, not_true_eq_false, true_and, and_true, implies_true, qn_self, rI_i, rJ_l, rV_n, okZ0, okZ1, o31 hn, e5, nI_add]
        refine ih (j + 1) _ _ (by omega) (by omega) hr (he.w (by omega)) hj2.w uM_k ?_ (fun h6 => by omega) (fun i hi => ?_)
        · rw [uM_j (by decide)]; exact e4
        · by_cases y : i = j - q
          · rw [y, show q + (j - q) = j by omega]; exact hl.2
          · exact hlo i (by omega)
      · have g : seI B n j = nI (B j) := by unfold seI; rw [if_neg (by omega)]
        have g2 : (nI (B j)).toInt64 - lN 96 = lN (B j - 96) := by rw [nI_l (by omega), lN_sub (by omega)]
        have a := wF_lt (B := B) (q := q) (j - q) hlo
        have b : 32 ^ (j - q) ≤ 32 ^ 5 := Nat.pow_le_pow_right (by decide) (by omega)
        have c : (32 : Nat) ^ 5 = 2 ^ 25 := by decide
        simp only [B135_174, B135_201, false_imp_iff, true_imp_iff, not_false_eq_true, not_true_eq_false, true_and, and_true, implies_true, qn_self, rI_i, rJ_l, rV_n, okZ0, okZ1, o31 hn, e5, s134 hn hb' h3' hn7 (show j ≤ 700 by omega), g, g2, e8 (show j - q ≤ 6 by omega), wl5L (show wF B q (j - q) < 2 ^ 25 by omega) (show B j - 96 < 32 by omega), nI_add]
        refine ih (j + 1) _ _ (by omega) (by omega) hr (he.w (by omega)) hj2.w uM_k ?_ (fun h6 => ?_) (fun i hi => ?_)
        · rw [uM_j (by decide)]; exact e4
        · rw [uN_k, show j + 1 - q = (j - q) + 1 by omega]
          show _ = lN (wF B q (j - q) * 32 + (B (q + (j - q)) - 96))
          rw [show q + (j - q) = j by omega]
        · by_cases y : i = j - q
          · rw [y, show q + (j - q) = j by omega]; exact hl.2
          · exact hlo i (by omega)
    · have hl : ¬ (j < n ∧ 97 ≤ B j ∧ B j ≤ 122) := fun y => z (so_1.mpr y.2)
      rw [if_neg z] at hr
      simp only [hl, if_false, eq_true nI_0, false_imp_iff, true_imp_iff, not_false_eq_true, not_true_eq_false, true_and, and_true, implies_true, qn_self, rI_i, rJ_l, rV_n, okZ0, okZ1]
      exact fin j M' N' (by omega) hq hr.symm he hj2 e5 e4 e8
theorem l135d (hn : 44 ≤ nx) {n q r : Nat} (hb : BY M 32 n B) (h3 : M 31 3 = nI n) (hn7 : n ≤ 700) (hK : ∀ M', eqH M M' → M' 31 5 = nI r → M' 31 4 = nI q → M' 31 6 = nI (if r - q ≤ 2 then 2 else 4) → (r - q ≤ 2 → M' 31 7 = nI (dF B q (r - q))) → Q none M' N (P0 t e) nx) : ∀ m j M', j + m = n → q ≤ j → rnF B 2 m j = r → eqH M M' → M' 31 5 = nI j → M' 31 4 = nI q → (j - q ≤ 2 → M' 31 7 = nI (dF B q (j - q))) → WP (aSem (d + 1)) g0 135 nx (qn nx Q) 265 [(0, .ref 31)] [] M' N (P0 t e) nx := by
  have fin : ∀ j M', j ≤ n → q ≤ j → r = j → eqH M M' → M' 31 5 = nI j → M' 31 4 = nI q → (j - q ≤ 2 → M' 31 7 = nI (dF B q (j - q))) → WP (aSem (d + 1)) g0 135 nx (qn nx Q) 342 [(0, .ref 31)] [] M' N (P0 t e) nx := by
    intro j M' hj hq hr he e5 e4 e8
    subst hr
    simp only [B135_342, false_imp_iff, true_imp_iff, not_false_eq_true, not_true_eq_false, true_and, and_true, implies_true, qn_self, rI_i, rJ_l, rV_n, okZ0, okZ1, o31 hn, e5, e4, nI_sub hq, nI_leI (show 3 < 2 ^ 31 by decide) (show r - q < 2 ^ 31 by omega)]
    refine ⟨fun z => ?_, fun z => ?_⟩
    · simp only [B135_360, B135_361, B135_364, false_imp_iff, true_imp_iff, not_false_eq_true, not_true_eq_false, true_and, and_true, implies_true, qn_self, rI_i, rJ_l, rV_n, okZ0, okZ1, o31 hn]
      refine hK _ (he.w (by omega)) (by rw [uM_j (by decide)]; exact e5) (by rw [uM_j (by decide)]; exact e4) ?_ (fun w => by omega)
      rw [uM_k, if_neg (by omega)]
    · simp only [B135_356, B135_361, B135_364, false_imp_iff, true_imp_iff, not_false_eq_true, not_true_eq_false, true_and, and_true, implies_true, qn_self, rI_i, rJ_l, rV_n, okZ0, okZ1, o31 hn]
      refine hK _ (he.w (by omega)) (by rw [uM_j (by decide)]; exact e5) (by rw [uM_j (by decide)]; exact e4) ?_ (fun w => by rw [uM_j (by decide)]; exact e8 w)
      rw [uM_k, if_pos (by omega)]
  intro m
  induction m with
  | zero =>
    intro j M' hj hq hr he e5 e4 e8
    have hr2 : j = r := hr
    have h3' : M' 31 3 = nI n := by rw [he.2 3 (by decide) (by decide) (by decide) (by decide)]; exact h3
    have hb' := hb.h he
    simp only [B135_265, false_imp_iff, true_imp_iff, not_false_eq_true, not_true_eq_false, true_and, and_true, implies_true, qn_self, rI_i, rJ_l, rV_n, okZ0, okZ1, o31 hn, e5, s134 hn hb' h3' hn7 (show j ≤ 700 by omega), sWi (B := B) (n := n) (k := j) (show 48 < 2 ^ 31 by decide) (show 57 < 2 ^ 31 by decide) (fun z => (hb j z).2), show ¬ (j < n ∧ 48 ≤ B j ∧ B j ≤ 57) by omega, if_false, eq_true nI_0]
    exact fin j M' (by omega) hq hr2.symm he e5 e4 e8
  | succ m ih =>
    intro j M' hj hq hr he e5 e4 e8
    have h3' : M' 31 3 = nI n := by rw [he.2 3 (by decide) (by decide) (by decide) (by decide)]; exact h3
    have hb' := hb.h he
    rw [rnF_s] at hr
    simp only [B135_265, false_imp_iff, true_imp_iff, not_false_eq_true, not_true_eq_false, true_and, and_true, implies_true, qn_self, rI_i, rJ_l, rV_n, okZ0, okZ1, o31 hn, e5, s134 hn hb' h3' hn7 (show j ≤ 700 by omega), sWi (B := B) (n := n) (k := j) (show 48 < 2 ^ 31 by decide) (show 57 < 2 ^ 31 by decide) (fun z => (hb j z).2)]
    by_cases z : so (B j) = 2
    · have hl := so_2.mp z
      rw [if_pos z] at hr
      simp only [show (j < n ∧ 48 ≤ B j ∧ B j ≤ 57) from ⟨by omega, hl⟩, and_self, if_true, one0, false_imp_iff, true_imp_iff, not_false_eq_true, not_true_eq_false, true_and, and_true, implies_true, qn_self, rI_i, rJ_l, rV_n, okZ0, okZ1]
      simp only [B135_286, false_imp_iff, true_imp_iff, not_false_eq_true, not_true_eq_false, true_and, and_true, implies_true, qn_self, rI_i, rJ_l, rV_n, okZ0, okZ1, o31 hn, e5, e4, nI_sub hq, nI_leI (show 2 < 2 ^ 31 by decide) (show j - q < 2 ^ 31 by omega)]
      refine ⟨fun w => ?_, fun w => ?_⟩
      · simp only [B135_322, B135_326, false_imp_iff, true_imp_iff, not_false_eq_true, not_true_eq_false, true_and, and_true, implies_true, qn_self, rI_i, rJ_l, rV_n, okZ0, okZ1, o31 hn]
        refine ih (j + 1) _ (by omega) (by omega) hr ((he.w (by omega)).w (by omega)) ?_ ?_ (fun h6 => by omega)
        · rw [uM_k, uM_j (by decide), e5, nI_add]
        · rw [uM_j (by decide), uM_j (by decide)]; exact e4
      · have g : seI B n j = nI (B j) := by unfold seI; rw [if_neg (by omega)]
        simp only [B135_300, B135_326, false_imp_iff, true_imp_iff, not_false_eq_true, not_true_eq_false, true_and, and_true, implies_true, qn_self, rI_i, rJ_l, rV_n, okZ0, okZ1, o31 hn, e5, s134 hn hb' h3' hn7 (show j ≤ 700 by omega), g, e8 (show j - q ≤ 2 by omega), nI_mul, nI_add]
        refine ih (j + 1) _ (by omega) (by omega) hr ((he.w (by omega)).w (by omega)) ?_ ?_ (fun h6 => ?_)
        · rw [uM_k, uM_j (by decide), e5, nI_add]
        · rw [uM_j (by decide), uM_j (by decide)]; exact e4
        · rw [uM_j (by decide), uM_k, show j + 1 - q = (j - q) + 1 by omega, nI_sub (by omega)]
          show _ = nI (dF B q (j - q) * 10 + (B (q + (j - q)) - 48))
          rw [show q + (j - q) = j by omega]
          congr 1
          omega
    · have hl : ¬ (j < n ∧ 48 ≤ B j ∧ B j ≤ 57) := fun y => z (so_2.mpr y.2)
      rw [if_neg z] at hr
      simp only [hl, if_false, eq_true nI_0, false_imp_iff, true_imp_iff, not_false_eq_true, not_true_eq_false, true_and, and_true, implies_true, qn_self, rI_i, rJ_l, rV_n, okZ0, okZ1]
      exact fin j M' (by omega) hq hr.symm he e5 e4 e8
theorem l135 (hn : 44 ≤ nx) {n p0 : Nat} (hb : BY M 32 n B) (h3 : M 31 3 = nI n) (hp0 : p0 ≤ n) (hn7 : n ≤ 700) (hQ : ∀ M' N', eqH M M' → eqJ N N' → RO M' N' B n p0 → Q none M' N' (P0 t e) nx) : ∀ m p M', p + m = n → rnF B 5 m p = tP B n p0 → eqH M M' → M' 31 4 = nI p → WP (aSem (d + 1)) g0 135 nx (qn nx Q) 8 [(0, .ref 31)] [] M' N (P0 t e) nx := by
  have fin : ∀ p M', p ≤ n → p = tP B n p0 → (p < n → ¬ so (B p) = 5) → eqH M M' → M' 31 4 = nI p → WP (aSem (d + 1)) g0 135 nx (qn nx Q) 47 [(0, .ref 31)] [] M' N (P0 t e) nx := by
    intro p M' hp hq h5 he e4
    have h3' : M' 31 3 = nI n := by rw [he.2 3 (by decide) (by decide) (by decide) (by decide)]; exact h3
    have hb' := hb.h he
    have hB : p < n → B p < 256 := fun z => (hb p z).2
    have f4 : uM (uM (uM M' 31 5 (nI (p + 1))) 31 6 (nI 4)) 31 7 (nI 0) 31 4 = nI p := by rw [uM_j (by decide), uM_j (by decide), uM_j (by decide)]; exact e4
    have f5 : uM (uM (uM M' 31 5 (nI (p + 1))) 31 6 (nI 4)) 31 7 (nI 0) 31 5 = nI (p + 1) := by rw [uM_j (by decide), uM_j (by decide), uM_k]
    have f6 : uM (uM (uM M' 31 5 (nI (p + 1))) 31 6 (nI 4)) 31 7 (nI 0) 31 6 = nI 4 := by rw [uM_j (by decide), uM_k]
    have f7 : uM (uM (uM M' 31 5 (nI (p + 1))) 31 6 (nI 4)) 31 7 (nI 0) 31 7 = nI 0 := uM_k
    have f3 : uM (uM (uM M' 31 5 (nI (p + 1))) 31 6 (nI 4)) 31 7 (nI 0) 31 3 = nI n := by rw [uM_j (by decide), uM_j (by decide), uM_j (by decide)]; exact h3'
    have hf : eqH M (uM (uM (uM M' 31 5 (nI (p + 1))) 31 6 (nI 4)) 31 7 (nI 0)) := ((he.w (by omega)).w (by omega)).w (by omega)
    have g8 : uN N 31 8 (lN 0) 31 8 = lN 0 := uN_k
    have hj : eqJ N (uN N 31 8 (lN 0)) := eqJ.rf.w
    simp only [B135_47, false_imp_iff, true_imp_iff, not_false_eq_true, not_true_eq_false, true_and, and_true, implies_true, qn_self, rI_i, rJ_l, rV_n, okZ0, okZ1, o31 hn, e4, s134 hn hb' h3' hn7 (show p ≤ 700 by omega), nI_add, seI_ng hB]
    generalize uM (uM (uM M' 31 5 (nI (p + 1))) 31 6 (nI 4)) 31 7 (nI 0) = M2 at f3 f4 f5 f6 f7 hf ⊢
    generalize uN N 31 8 (lN 0) = N2 at g8 hj ⊢
    refine ⟨fun z => ?_, fun z => ?_⟩
    · have hz : p < n := by omega
      have u0 : ¬ n ≤ tP B n p0 := by omega
      have hb2 := hb.h hf
      simp only [B135_102, false_imp_iff, true_imp_iff, not_false_eq_true, not_true_eq_false, true_and, and_true, implies_true, qn_self, rI_i, rJ_l, rV_n, okZ0, okZ1, seI_eq hB (show 59 < 2 ^ 31 by decide)]
      refine ⟨fun z1 => ?_, fun z1 => ?_⟩
      · simp only [B135_116, false_imp_iff, true_imp_iff, not_false_eq_true, not_true_eq_false, true_and, and_true, implies_true, qn_self, rI_i, rJ_l, rV_n, okZ0, okZ1, sWi (B := B) (n := n) (k := p) (show 97 < 2 ^ 31 by decide) (show 122 < 2 ^ 31 by decide) hB]
        by_cases w1 : so (B p) = 1
        · have hl := so_1.mp w1
          simp only [show (p < n ∧ 97 ≤ B p ∧ B p ≤ 122) from ⟨hz, hl⟩, and_self, if_true, one0, false_imp_iff, true_imp_iff, not_false_eq_true, not_true_eq_false, true_and, and_true, implies_true, qn_self, rI_i, rJ_l, rV_n, okZ0, okZ1]
          simp only [B135_130, false_imp_iff, true_imp_iff, not_false_eq_true, not_true_eq_false, true_and, and_true, implies_true, qn_self, rI_i, rJ_l, rV_n, okZ0, okZ1, o31 hn, f4]
          refine l135w hn (M := uM M2 31 5 (nI p)) (N := N2) (q := p) (r := tR B n 1 p) (hb.h (hf.w (by omega))) (by rw [uM_j (by decide)]; exact f3) hn7 (fun M3 N3 he3 hj3 a5 a4 a6 a8 => ?_) (n - p) p _ _ (by omega) (Nat.le_refl _) rfl eqH.rf eqJ.rf uM_k (by rw [uM_j (by decide)]; exact f4) (fun _ => by rw [g8, Nat.sub_self]; rfl) (fun i hi => by omega)
          refine hQ _ _ ((hf.w (by omega)).tr he3) (hj.tr hj3) ⟨?_, ?_, ?_, hn7, ?_, fun w => ?_, fun w => ?_, hp0⟩
          · rw [a4, hq]
          · rw [a5]; unfold tE; rw [if_neg u0, ← hq, if_pos w1]
          · rw [he3.2 3 (by decide) (by decide) (by decide) (by decide), uM_j (by decide)]; exact f3
          · rw [a6]; unfold tK; rw [if_neg u0, ← hq, if_pos w1]
          · unfold tK at w
            rw [if_neg u0, ← hq, if_pos w1] at w
            split at w <;> omega
          · unfold tK at w
            rw [if_neg u0, ← hq, if_pos w1] at w
            have h6 : tR B n 1 p - p ≤ 6 := by
              by_cases y : tR B n 1 p - p ≤ 6
              · exact y
              · rw [if_neg y] at w; omega
            rw [a8 h6]; unfold tV; rw [← hq, if_pos w1]
        · have hl : ¬ (p < n ∧ 97 ≤ B p ∧ B p ≤ 122) := fun y => w1 (so_1.mpr y.2)
          simp only [hl, if_false, eq_true nI_0, false_imp_iff, true_imp_iff, not_false_eq_true, not_true_eq_false, true_and, and_true, implies_true, qn_self, rI_i, rJ_l, rV_n, okZ0, okZ1, B135_243, sWi (B := B) (n := n) (k := p) (show 48 < 2 ^ 31 by decide) (show 57 < 2 ^ 31 by decide) hB]
          by_cases w2 : so (B p) = 2
          · have hl2 := so_2.mp w2
            simp only [show (p < n ∧ 48 ≤ B p ∧ B p ≤ 57) from ⟨hz, hl2⟩, and_self, if_true, one0, false_imp_iff, true_imp_iff, not_false_eq_true, not_true_eq_false, true_and, and_true, implies_true, qn_self, rI_i, rJ_l, rV_n, okZ0, okZ1]
            simp only [B135_257, false_imp_iff, true_imp_iff, not_false_eq_true, not_true_eq_false, true_and, and_true, implies_true, qn_self, rI_i, rJ_l, rV_n, okZ0, okZ1, o31 hn, f4]
            refine l135d hn (M := uM M2 31 5 (nI p)) (N := N2) (q := p) (r := tR B n 2 p) (hb.h (hf.w (by omega))) (by rw [uM_j (by decide)]; exact f3) hn7 (fun M3 he3 a5 a4 a6 a7 => ?_) (n - p) p _ (by omega) (Nat.le_refl _) rfl eqH.rf uM_k (by rw [uM_j (by decide)]; exact f4) (fun _ => by rw [uM_j (by decide), f7, Nat.sub_self]; rfl)
            refine hQ _ _ ((hf.w (by omega)).tr he3) hj ⟨?_, ?_, ?_, hn7, ?_, fun w => ?_, fun w => ?_, hp0⟩
            · rw [a4, hq]
            · rw [a5]; unfold tE; rw [if_neg u0, ← hq, if_neg w1, if_pos w2]
            · rw [he3.2 3 (by decide) (by decide) (by decide) (by decide), uM_j (by decide)]; exact f3
            · rw [a6]; unfold tK; rw [if_neg u0, ← hq, if_neg w1, if_pos w2]
            · unfold tK at w
              rw [if_neg u0, ← hq, if_neg w1, if_pos w2] at w
              have h6 : tR B n 2 p - p ≤ 2 := by
                by_cases y : tR B n 2 p - p ≤ 2
                · exact y
                · rw [if_neg y] at w; omega
              rw [a7 h6]; unfold tV; rw [← hq, if_neg w1]
            · unfold tK at w
              rw [if_neg u0, ← hq, if_neg w1, if_pos w2] at w
              split at w <;> omega
          · have hl2 : ¬ (p < n ∧ 48 ≤ B p ∧ B p ≤ 57) := fun y => w2 (so_2.mpr y.2)
            have s4 : so (B p) = 4 := by
              have h1 : ¬ (97 ≤ B p ∧ B p ≤ 122) := fun y => hl ⟨hz, y⟩
              have h2 : ¬ (48 ≤ B p ∧ B p ≤ 57) := fun y => hl2 ⟨hz, y⟩
              have h6 : ¬ (B p = 32 ∨ B p = 10) := fun y => h5 hz (so_5.mpr y)
              unfold so
              rw [if_neg h1, if_neg h2, if_neg (fun y => z1 ⟨hz, y⟩), if_neg h6]
            simp only [hl2, if_false, eq_true nI_0, false_imp_iff, true_imp_iff, not_false_eq_true, not_true_eq_false, true_and, and_true, implies_true, qn_self, rI_i, rJ_l, rV_n, okZ0, okZ1, B135_364]
            refine hQ _ _ hf hj ⟨?_, ?_, f3, hn7, ?_, fun w => ?_, fun w => ?_, hp0⟩
            · rw [f4, hq]
            · rw [f5]; unfold tE; rw [if_neg u0, ← hq, if_neg w1, if_neg w2]
            · rw [f6]; unfold tK; rw [if_neg u0, ← hq, if_neg w1, if_neg w2, s4]
            · unfold tK at w
              rw [if_neg u0, ← hq, if_neg w1, if_neg w2] at w; omega
            · unfold tK at w
              rw [if_neg u0, ← hq, if_neg w1, if_neg w2] at w; omega
      · have s3 : so (B p) = 3 := by rw [z1.2]; decide
        simp only [B135_108, B135_364, false_imp_iff, true_imp_iff, not_false_eq_true, not_true_eq_false, true_and, and_true, implies_true, qn_self, rI_i, rJ_l, rV_n, okZ0, okZ1, o31 hn]
        refine hQ _ _ (hf.w (by omega)) hj ⟨?_, ?_, ?_, hn7, ?_, fun w => ?_, fun w => ?_, hp0⟩
        · rw [uM_j (by decide), f4, hq]
        · rw [uM_j (by decide), f5]; unfold tE; rw [if_neg u0, ← hq, if_neg (by omega), if_neg (by omega)]
        · rw [uM_j (by decide)]; exact f3
        · rw [uM_k]; unfold tK; rw [if_neg u0, ← hq, if_neg (by omega), if_neg (by omega), s3]
        · unfold tK at w
          rw [if_neg u0, ← hq, if_neg (by omega), if_neg (by omega)] at w; omega
        · unfold tK at w
          rw [if_neg u0, ← hq, if_neg (by omega), if_neg (by omega)] at w; omega
    · have u0 : n ≤ tP B n p0 := by omega
      simp only [B135_86, B135_364, false_imp_iff, true_imp_iff, not_false_eq_true, not_true_eq_false, true_and, and_true, implies_true, qn_self, rI_i, rJ_l, rV_n, okZ0, okZ1, o31 hn, f4]
      refine hQ _ _ ((hf.w (by omega)).w (by omega)) hj ⟨?_, ?_, ?_, hn7, ?_, fun w => ?_, fun w => ?_, hp0⟩
      · rw [uM_j (by decide), uM_j (by decide), f4, hq]
      · rw [uM_j (by decide), uM_k]; unfold tE; rw [if_pos u0, hq]
      · rw [uM_j (by decide), uM_j (by decide)]; exact f3
      · rw [uM_k]; unfold tK; rw [if_pos u0]
      · unfold tK at w
        rw [if_pos u0] at w; omega
      · unfold tK at w
        rw [if_pos u0] at w; omega
  intro m
  induction m with
  | zero =>
    intro p M' hp hq he e4
    have hq2 : p = tP B n p0 := hq
    have h3' : M' 31 3 = nI n := by rw [he.2 3 (by decide) (by decide) (by decide) (by decide)]; exact h3
    have hb' := hb.h he
    have hB : p < n → B p < 256 := fun z => (hb p z).2
    simp only [B135_8, B135_21, false_imp_iff, true_imp_iff, not_false_eq_true, not_true_eq_false, true_and, and_true, implies_true, qn_self, rI_i, rJ_l, rV_n, okZ0, okZ1, o31 hn, e4, s134 hn hb' h3' hn7 (show p ≤ 700 by omega), seI_eq hB (show 32 < 2 ^ 31 by decide), seI_eq hB (show 10 < 2 ^ 31 by decide), show ¬ (p < n ∧ B p = 32) by omega, show ¬ (p < n ∧ B p = 10) by omega]
    exact fin p M' (by omega) hq2 (fun z => by omega) he e4
  | succ m ih =>
    intro p M' hp hq he e4
    have h3' : M' 31 3 = nI n := by rw [he.2 3 (by decide) (by decide) (by decide) (by decide)]; exact h3
    have hb' := hb.h he
    have hB : p < n → B p < 256 := fun z => (hb p z).2
    rw [rnF_s] at hq
    have go : so (B p) = 5 → WP (aSem (d + 1)) g0 135 nx (qn nx Q) 34 [(0, .ref 31)] [] M' N (P0 t e) nx := by
      intro z
      rw [if_pos z] at hq
      simp only [B135_34, false_imp_iff, true_imp_iff, not_false_eq_true, not_true_eq_false, true_and, and_true, implies_true, qn_self, rI_i, rJ_l, rV_n, okZ0, okZ1, o31 hn, e4, nI_add]
      exact ih (p + 1) _ (by omega) hq (he.w (by omega)) uM_k
    simp only [B135_8, false_imp_iff, true_imp_iff, not_false_eq_true, not_true_eq_false, true_and, and_true, implies_true, qn_self, rI_i, rJ_l, rV_n, okZ0, okZ1, o31 hn, e4, s134 hn hb' h3' hn7 (show p ≤ 700 by omega), seI_eq hB (show 32 < 2 ^ 31 by decide)]
    refine ⟨fun z => go (so_5.mpr (Or.inl z.2)), fun z => ?_⟩
    simp only [B135_21, false_imp_iff, true_imp_iff, not_false_eq_true, not_true_eq_false, true_and, and_true, implies_true, qn_self, rI_i, rJ_l, rV_n, okZ0, okZ1, o31 hn, e4, s134 hn hb' h3' hn7 (show p ≤ 700 by omega), seI_eq hB (show 10 < 2 ^ 31 by decide)]
    refine ⟨fun z1 => ?_, fun z1 => go (so_5.mpr (Or.inr z1.2))⟩
    have h5 : ¬ so (B p) = 5 := fun y => (so_5.mp y).elim (fun w => z ⟨by omega, w⟩) (fun w => z1 ⟨by omega, w⟩)
    rw [if_neg h5] at hq
    exact fin p M' (by omega) hq (fun _ => h5) he e4
theorem s135 (hn : 44 ≤ nx) {n p : Nat} (hb : BY M 32 n B) (h3 : M 31 3 = nI n) (h5 : M 31 5 = nI p) (hp : p ≤ n) (hn7 : n ≤ 700) (hQ : ∀ M' N', eqH M M' → eqJ N N' → RO M' N' B n p → Q none M' N' (P0 t e) nx) : aSem (d + 2) 135 [.ref 31] M N (P0 t e) nx Q := by
  simp only [A135, B135_0, false_imp_iff, true_imp_iff, not_false_eq_true, not_true_eq_false, true_and, and_true, implies_true, qn_self, rI_i, rJ_l, rV_n, okZ0, okZ1, o31 hn, h5]
  refine l135 hn (M := M) hb h3 hp hn7 hQ (n - p) p _ (by omega) rfl (eqH.rf.w (by omega)) uM_k
end MST
