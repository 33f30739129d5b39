/-! DEEDS -/
theorem bitF_form (p : Nat → Bool) : ∀ n i, ∃ K, bitF p i n = 2 ^ i * K ∧ K < 2 ^ n ∧ ∀ j, j < n → (K / 2 ^ j % 2 = 1 ↔ p (i + j) = true)
  | 0, i => ⟨0, rfl, by decide, fun j hj => by omega⟩
  | n + 1, i => by
    obtain ⟨K, h1, h2, h3⟩ := bitF_form p n (i + 1)
    refine ⟨(if p i = true then 1 else 0) + 2 * K, ?_, ?_, fun j hj => ?_⟩
    · show (if p i = true then 2 ^ i else 0) + bitF p (i + 1) n = _
      rw [h1, Nat.pow_succ, Nat.mul_add]
      split
      · rw [Nat.mul_one, Nat.mul_assoc]
      · rw [Nat.mul_zero, Nat.mul_assoc]
    · rw [Nat.pow_succ]
      split <;> omega
    · cases j with
      | zero =>
        rw [Nat.pow_zero, Nat.div_one, Nat.add_zero]
        by_cases q : p i = true
        · rw [if_pos q]; exact ⟨fun _ => q, fun _ => by omega⟩
        · rw [if_neg q]; exact ⟨fun z => absurd z (by omega), fun z => absurd z q⟩
      | succ j =>
        rw [Nat.pow_succ, Nat.mul_comm (2 ^ j) 2, ← Nat.div_div_eq_div_mul]
        have : ((if p i = true then 1 else 0) + 2 * K) / 2 = K := by split <;> omega
        rw [this, h3 j (by omega), show i + 1 + j = i + (j + 1) by omega]
theorem BS_bitF {p : Nat → Bool} {n : Nat} (hn : n ≤ 6) : BS (bitF p 0 n) (fun l => l < n ∧ p l = true) := by
  obtain ⟨K, h1, h2, h3⟩ := bitF_form p n 0
  rw [Nat.pow_zero, Nat.one_mul] at h1
  have h64 : 2 ^ n ≤ 2 ^ 6 := Nat.pow_le_pow_right (by decide) hn
  refine ⟨by rw [h1]; omega, fun j hj => ?_⟩
  rw [h1]
  by_cases q : j < n
  · rw [h3 j q, Nat.zero_add]
    exact ⟨fun z => ⟨q, z⟩, fun z => z.2⟩
  · have h5 : 2 ^ n ≤ 2 ^ j := Nat.pow_le_pow_right (by decide) (by omega)
    rw [Nat.div_eq_of_lt (by omega)]
    exact ⟨fun z => absurd z (by decide), fun z => absurd z.1 q⟩
theorem and64 : ∀ a, a < 64 → ∀ b, b < 64 → nI a &&& nI b = nI (a &&& b) := by decide +kernel
theorem and64_lt : ∀ a, a < 64 → ∀ b, b < 64 → a &&& b < 64 := fun a ha b _ => Nat.lt_of_le_of_lt Nat.and_le_left ha
theorem and64_bt : ∀ j, j < 6 → ∀ a, a < 64 → ∀ b, b < 64 → ((a &&& b) / 2 ^ j % 2 = 1 ↔ (a / 2 ^ j % 2 = 1 ∧ b / 2 ^ j % 2 = 1)) := by
  intro j _ a _ b _
  have e : ∀ x : Nat, x / 2 ^ j % 2 = 1 ↔ x.testBit j = true := by
    intro x
    rw [Nat.testBit_eq_decide_div_mod_eq]
    simp
  rw [e, e, e, Nat.testBit_and, Bool.and_eq_true]
theorem BS.and {a b : Nat} {S T : Nat → Prop} (h : BS a S) (h' : BS b T) : BS (a &&& b) (fun j => S j ∧ T j) := ⟨and64_lt a h.1 b h'.1, fun j hj => by rw [and64_bt j hj a h.1 b h'.1, h.2 j hj, h'.2 j hj]⟩
theorem all64 : ∀ n, n ≤ 6 → 2 ^ n - 1 < 64 ∧ ∀ j, j < 6 → ((2 ^ n - 1) / 2 ^ j % 2 = 1 ↔ j < n) := by decide +kernel
theorem BS_all {n : Nat} (h : n ≤ 6) : BS (2 ^ n - 1) (fun l => l < n) := all64 n h
/-- a deed that needs the issues `need` stands in land l -/
def stD (row : Nat → Nat) (need is l : Nat) : Prop := ∀ i, i < is → need / 2 ^ i % 2 = 1 → ¬ ownAns row i l = 0
def stA (row : Nat → Nat) (need is ln : Nat) : Prop := ∀ l, l < ln → stD row need is l
def c1 (row : Nat → Nat) (need is ln fc b : Nat) : Prop := ∃ f, b ≤ f ∧ f < fc ∧ ∃ l, l < ln ∧ ¬ l = row (6 + f) ∧ stA (va_up row (6 + f) l) need is ln
def c2 (row : Nat → Nat) (need is ln fc : Nat) : Prop := ∃ f, f < fc ∧ ∃ l, l < ln ∧ ¬ l = row (6 + f) ∧ c1 (va_up row (6 + f) l) need is ln fc (f + 1)
/-- memory that differs in the trial's cells alone -/
def eqD (M M' : aM) : Prop := ∀ a, (a < 17 ∨ 24 < a) → M' a = M a
theorem eqD.rf {M : aM} : eqD M M := fun _ _ => rfl
theorem eqD.tr {M M' M'' : aM} (h : eqD M M') (h' : eqD M' M'') : eqD M M'' := fun a x => (h' a x).trans (h a x)
theorem eqR.D {M M' : aM} (h : eqR 17 M M') : eqD M M' := fun a x => h a (by omega)
theorem eqT.D {M M' : aM} (h : eqT 22 M M') : eqD M M' := fun a x => h a (by omega) (by omega) (by omega)
theorem uM_D {M : aM} {k : Nat} {v : Int32} : eqD M (uM M 23 k v) := fun a x => uM_ne (by omega)
theorem i17 : isR 17 := Or.inr rfl
theorem i22 : isT 22 := Or.inr (Or.inl rfl)
theorem wfR.ht {ln is fc : Nat} {row : Nat → Nat} (h : wfR ln is fc row) (h6 : ln ≤ 6) : ∀ l, l < ln → row l ≤ 4 := fun l hl => h.1 l (by omega)
theorem wfR.hla {ln is fc : Nat} {row : Nat → Nat} (h : wfR ln is fc row) (h6 : ln ≤ 6) {i : Nat} (hi : i < 6) : ∀ l, l < ln → row (47 + (6 * l + i)) ≤ 99 := fun l hl => h.2.2.2.1 _ (by omega) (by omega)
theorem wfR.fa {ln is fc : Nat} {row : Nat → Nat} (h : wfR ln is fc row) (h5 : fc ≤ 5) {f l : Nat} (hf : f < fc) (hl : l < ln) : wfR ln is fc (va_up row (6 + f) l) := by
  have hn : ∀ k, k ≠ 6 + f → va_up row (6 + f) l k = row k := fun k hk => up_ne hk
  refine ⟨fun l' h' => by rw [hn _ (by omega)]; exact h.1 l' h', fun f' h' => ?_, fun k h1 h2 => by rw [hn _ (by omega)]; exact h.2.2.1 k h1 h2, fun k h1 h2 => by rw [hn _ (by omega)]; exact h.2.2.2.1 k h1 h2, fun i h' => by rw [hn _ (by omega)]; exact h.2.2.2.2 i h'⟩
  by_cases q : f' = f
  · subst q; rw [up_eq]; exact hl
  · rw [hn _ (by omega)]; exact h.2.1 f' h'
theorem up_up {α : Type} {f : Nat → α} {k : Nat} {a b : α} : va_up (va_up f k a) k b = va_up f k b := by
  funext j
  by_cases q : j = k
  · subst q; rw [up_eq, up_eq]
  · rw [up_ne q, up_ne q, up_ne q]
section DEE
variable {d : Nat} {M : aM} {N : aN} {t e nx o ln is fc dn : Nat} {row nd : Nat → Nat} {Q : aQ}
theorem l1 (hn : 44 ≤ nx) (ho : isT o) (hc : wfC ln is fc dn) (hw : wfR ln is fc row) {need : Nat} (h64 : need < 64) (hQ : ∀ M' b, eqR 17 M M' → TD M' o ln is fc dn row nd → BS b (fun l => l < ln ∧ stD row need is l) → Q (some (.int (nI b))) M' N (P0 t e) nx) : ∀ n i b M', i + n = is → eqR 17 M M' → TD M' o ln is fc dn row nd → BS b (fun l => l < ln ∧ stD row need i l) → WP (aSem (d + 5)) g0 1 nx (qn nx Q) 15 [(0, .ref 16), (1, .ref o), (3, .int (nI need)), (4, .int (nI b)), (5, .int (nI i))] [] M' N (P0 t e) nx := by
  have c6 := hc
  unfold wfC at c6
  intro n
  induction n with
  | zero =>
    intro i b M' hi he hT hb
    simp only [B1_15, B1_67, false_imp_iff, true_imp_iff, not_false_eq_true, not_true_eq_false, true_and, and_true, implies_true, qn_self, rI_i, rJ_l, rV_n, okZ0, okZ1, oT hn ho, hT.2.1, nI_le (show is ≤ i by omega) (show i < 2 ^ 31 by omega)]
    rw [show i = is by omega] at hb
    exact hQ M' b he hT hb
  | succ n ih =>
    intro i b M' hi he hT hb
    have e0 : (nI b = 0) ↔ b = 0 := by rw [← nI_0]; exact nI_eq (by have := hb.1; omega) (by decide)
    simp only [B1_15, false_imp_iff, true_imp_iff, not_false_eq_true, not_true_eq_false, true_and, and_true, implies_true, qn_self, rI_i, rJ_l, rV_n, okZ0, okZ1, oT hn ho, hT.2.1, nI_ge (show i < is by omega) (show is < 2 ^ 31 by omega)]
    simp only [B1_24, B1_67, false_imp_iff, true_imp_iff, not_false_eq_true, not_true_eq_false, true_and, and_true, implies_true, qn_self, rI_i, rJ_l, rV_n, okZ0, okZ1, e0]
    refine ⟨fun h => ?_, fun h => ?_⟩
    · refine hQ M' b he hT ⟨hb.1, fun j hj => ?_⟩
      have h0 := hb.2 j hj
      subst h
      constructor
      · intro q; simp at q
      · intro q
        exact absurd (h0.mpr ⟨q.1, fun i' h' => q.2 i' (by omega)⟩) (by simp)
    · simp only [B1_29, false_imp_iff, true_imp_iff, not_false_eq_true, not_true_eq_false, true_and, and_true, implies_true, qn_self, rI_i, rJ_l, rV_n, okZ0, okZ1, bt64 i (by omega) need h64]
      refine ⟨fun hq => ?_, fun hq => ?_⟩
      · simp only [B1_61, nI_add]
        refine ih (i + 1) b M' (by omega) he hT (hb.cg (fun j hj => ?_))
        constructor
        · rintro ⟨q1, q2⟩
          refine ⟨q1, fun i' h' hb' => ?_⟩
          by_cases z : i' = i
          · subst z; exact absurd hb' hq
          · exact q2 i' (by omega) hb'
        · rintro ⟨q1, q2⟩
          exact ⟨q1, fun i' h' hb' => q2 i' (by omega) hb'⟩
      · simp only [B1_39, false_imp_iff, true_imp_iff, not_false_eq_true, not_true_eq_false, true_and, and_true, implies_true, qn_self, rI_i, rJ_l, rV_n, okZ0, okZ1, o16 hn, o17 hn, exP (show P0 t e 16 0 = some 17 from rfl)]
        refine s32 hn ho i17 hT hc hw (show i < is by omega) (fun M2 he2 hT2 hR2 => ?_)
        simp only [false_imp_iff, true_imp_iff, not_false_eq_true, not_true_eq_false, true_and, and_true, implies_true, qn_self, rI_i, rJ_l, rV_n, okZ0, okZ1, o16 hn, o17 hn, exP (show P0 t e 16 0 = some 17 from rfl)]
        refine s44 hn i17 hR2 c6.1 (nxM_ok hw c6.1 c6.2.1 (by omega)) (hw.ht c6.1) (hw.hla c6.1 (by omega)) (fun M3 he3 hR3 => ?_)
        have hB := BS_bitF (p := fun x => !(row (47 + (6 * ownM (nxM row i) (whM row i) row x + i)) == 0)) c6.1
        simp only [false_imp_iff, true_imp_iff, not_false_eq_true, not_true_eq_false, true_and, and_true, implies_true, qn_self, rI_i, rJ_l, rV_n, okZ0, okZ1, B1_61, nI_add, and64 b hb.1 _ hB.1]
        refine ih (i + 1) _ M3 (by omega) (he.tr (he2.tr he3.R)) (hT2.R ho i17 he3.R) ((hb.and hB).cg (fun j hj => ?_))
        constructor
        · rintro ⟨⟨q1, q2⟩, -, q3⟩
          refine ⟨q1, fun i' h' hb' => ?_⟩
          by_cases z : i' = i
          · subst z
            have q4 : ¬ row (47 + (6 * ownM (nxM row i') (whM row i') row j + i')) = 0 := by simpa using q3
            exact q4
          · exact q2 i' (by omega) hb'
        · rintro ⟨q1, q2⟩
          refine ⟨⟨q1, fun i' h' hb' => q2 i' (by omega) hb'⟩, q1, ?_⟩
          have : ¬ row (47 + (6 * ownM (nxM row i) (whM row i) row j + i)) = 0 := q2 i (by omega) hq
          simpa using this
theorem s1 (hn : 44 ≤ nx) (ho : isT o) (hT : TD M o ln is fc dn row nd) (hc : wfC ln is fc dn) (hw : wfR ln is fc row) {k : Nat} (hk : k < dn) (h64 : nd k < 64) (hQ : ∀ M' b, eqR 17 M M' → TD M' o ln is fc dn row nd → BS b (fun l => l < ln ∧ stD row (nd k) is l) → Q (some (.int (nI b))) M' N (P0 t e) nx) : aSem (d + 6) 1 [.ref 16, .ref o, .int (nI k)] M N (P0 t e) nx Q := by
  have c6 := hc
  unfold wfC at c6
  simp only [A1, B1_0, false_imp_iff, true_imp_iff, not_false_eq_true, not_true_eq_false, true_and, and_true, implies_true, qn_self, rI_i, rJ_l, rV_n, okZ0, okZ1, oT hn ho, s73 hn ho hT hc hk, s68 hn ho hT hc]
  exact l1 hn ho hc hw h64 hQ is 0 _ M (by omega) eqR.rf hT ((BS_all c6.1).cg (fun j hj => ⟨fun q => ⟨q, fun i h => by omega⟩, fun q => q.1⟩))
theorem l2 (hn : 44 ≤ nx) (ho : isT o) (hc : wfC ln is fc dn) (hw : wfR ln is fc row) {need : Nat} (h64 : need < 64) (hQ1 : ∀ M', eqR 17 M M' → TD M' o ln is fc dn row nd → stA row need is ln → Q (some (.int (nI 1))) M' N (P0 t e) nx) (hQ0 : ∀ M', eqR 17 M M' → TD M' o ln is fc dn row nd → ¬ stA row need is ln → Q (some (.int (nI 0))) M' N (P0 t e) nx) : ∀ n i M', i + n = is → eqR 17 M M' → TD M' o ln is fc dn row nd → (∀ l, l < ln → stD row need i l) → WP (aSem (d + 5)) g0 2 nx (qn nx Q) 9 [(0, .ref 16), (1, .ref o), (3, .int (nI need)), (4, .int (nI i))] [] M' N (P0 t e) nx := by
  have c6 := hc
  unfold wfC at c6
  intro n
  induction n with
  | zero =>
    intro i M' hi he hT hb
    simp only [B2_9, B2_60, false_imp_iff, true_imp_iff, not_false_eq_true, not_true_eq_false, true_and, and_true, implies_true, qn_self, rI_i, rJ_l, rV_n, okZ0, okZ1, oT hn ho, hT.2.1, nI_le (show is ≤ i by omega) (show i < 2 ^ 31 by omega)]
    rw [show i = is by omega] at hb
    exact hQ1 M' he hT hb
  | succ n ih =>
    intro i M' hi he hT hb
    simp only [B2_9, false_imp_iff, true_imp_iff, not_false_eq_true, not_true_eq_false, true_and, and_true, implies_true, qn_self, rI_i, rJ_l, rV_n, okZ0, okZ1, oT hn ho, hT.2.1, nI_ge (show i < is by omega) (show is < 2 ^ 31 by omega)]
    simp only [B2_18, false_imp_iff, true_imp_iff, not_false_eq_true, not_true_eq_false, true_and, and_true, implies_true, qn_self, rI_i, rJ_l, rV_n, okZ0, okZ1, bt64 i (by omega) need h64]
    refine ⟨fun hq => ?_, fun hq => ?_⟩
    · simp only [B2_54, nI_add]
      refine ih (i + 1) M' (by omega) he hT (fun l hl i' h' hb' => ?_)
      by_cases z : i' = i
      · subst z; exact absurd hb' hq
      · exact hb l hl i' (by omega) hb'
    · simp only [B2_28, false_imp_iff, true_imp_iff, not_false_eq_true, not_true_eq_false, true_and, and_true, implies_true, qn_self, rI_i, rJ_l, rV_n, okZ0, okZ1, o16 hn, o17 hn, exP (show P0 t e 16 0 = some 17 from rfl)]
      refine s32 hn ho i17 hT hc hw (show i < is by omega) (fun M2 he2 hT2 hR2 => ?_)
      simp only [false_imp_iff, true_imp_iff, not_false_eq_true, not_true_eq_false, true_and, and_true, implies_true, qn_self, rI_i, rJ_l, rV_n, okZ0, okZ1, o16 hn, o17 hn, exP (show P0 t e 16 0 = some 17 from rfl)]
      refine s44 hn i17 hR2 c6.1 (nxM_ok hw c6.1 c6.2.1 (by omega)) (hw.ht c6.1) (hw.hla c6.1 (by omega)) (fun M3 he3 hR3 => ?_)
      have hT3 := hT2.R ho i17 he3.R
      have hB := BS_bitF (p := fun x => !(row (47 + (6 * ownM (nxM row i) (whM row i) row x + i)) == 0)) c6.1
      have hA := BS_all c6.1
      simp only [false_imp_iff, true_imp_iff, not_false_eq_true, not_true_eq_false, true_and, and_true, implies_true, qn_self, rI_i, rJ_l, rV_n, okZ0, okZ1, oT hn ho, s68 hn ho hT3 hc, nI_eq (show bitF (fun x => !(row (47 + (6 * ownM (nxM row i) (whM row i) row x + i)) == 0)) 0 ln < 2 ^ 31 by have := hB.1; omega) (show 2 ^ ln - 1 < 2 ^ 31 by have := hA.1; omega), B2_54, B2_52, nI_add]
      refine ⟨fun h => ?_, fun h => ?_⟩
      · refine ih (i + 1) M3 (by omega) (he.tr (he2.tr he3.R)) hT3 (fun l hl i' h' hb' => ?_)
        by_cases z : i' = i
        · subst z
          have h2 := hB.2 l (by omega)
          rw [h, hA.2 l (by omega)] at h2
          have h3 := (h2.mp hl).2
          have h4 : ¬ row (47 + (6 * ownM (nxM row i') (whM row i') row l + i')) = 0 := by simpa using h3
          exact h4
        · exact hb l hl i' (by omega) hb'
      · refine hQ0 M3 (he.tr (he2.tr he3.R)) hT3 (fun hS => h (BS.inj hB (hA.cg (fun j hj => ⟨fun q => ⟨q, ?_⟩, fun q => q.1⟩))))
        have : ¬ row (47 + (6 * ownM (nxM row i) (whM row i) row j + i)) = 0 := hS j q i (by omega) hq
        simpa using this
theorem s2 (hn : 44 ≤ nx) (ho : isT o) (hT : TD M o ln is fc dn row nd) (hc : wfC ln is fc dn) (hw : wfR ln is fc row) {k : Nat} (hk : k < dn) (h64 : nd k < 64) (hQ1 : ∀ M', eqR 17 M M' → TD M' o ln is fc dn row nd → stA row (nd k) is ln → Q (some (.int (nI 1))) M' N (P0 t e) nx) (hQ0 : ∀ M', eqR 17 M M' → TD M' o ln is fc dn row nd → ¬ stA row (nd k) is ln → Q (some (.int (nI 0))) M' N (P0 t e) nx) : aSem (d + 6) 2 [.ref 16, .ref o, .int (nI k)] M N (P0 t e) nx Q := by
  simp only [A2, B2_0, false_imp_iff, true_imp_iff, not_false_eq_true, not_true_eq_false, true_and, and_true, implies_true, qn_self, rI_i, rJ_l, rV_n, okZ0, okZ1, oT hn ho, s73 hn ho hT hc hk]
  exact l2 hn ho hc hw h64 hQ1 hQ0 is 0 M (by omega) eqR.rf hT (fun l _ i h => by omega)
theorem s4 (hn : 44 ≤ nx) (ho : isT o) (h22 : o ≠ 22) (hT : TD M o ln is fc dn row nd) (hc : wfC ln is fc dn) (hQ : ∀ M', eqD M M' → TD M' 22 ln is fc dn row nd → Q none M' N (P0 t e) nx) : aSem (d + 2) 4 [.ref 16, .ref o] M N (P0 t e) nx Q := by
  simp only [A4, B4_0, false_imp_iff, true_imp_iff, not_false_eq_true, not_true_eq_false, true_and, and_true, implies_true, qn_self, rI_i, rJ_l, rV_n, okZ0, okZ1, o16 hn, o22 hn, exP (show P0 t e 16 1 = some 22 from rfl)]
  refine s56 hn i22 ho h22 hT hc (fun M' he hT' => ?_)
  simp only [false_imp_iff, true_imp_iff, not_false_eq_true, not_true_eq_false, true_and, and_true, implies_true, qn_self, rI_i, rJ_l, rV_n, okZ0, okZ1]
  exact hQ M' he.D hT'
/-- a fact of the trial tells land l -/
theorem TD.tri {M' : aM} {f x : Nat} (hT : TD M' 22 ln is fc dn (va_up row (6 + f) x) nd) (hf : f < 5) (l : Nat) : TD (uM M' (22 + 1) (6 + f) (nI l)) 22 ln is fc dn (va_up row (6 + f) l) nd := by
  have := hT.set i22 (k := 6 + f) (v := l) (by omega)
  rw [pi_th (by omega), up_up] at this
  exact this
theorem l5b (hn : 44 ≤ nx) (hc : wfC ln is fc dn) (hw : wfR ln is fc row) {k f : Nat} (hk : k < dn) (h64 : nd k < 64) (hf : f < fc) (hQ1 : ∀ M', eqD M M' → (∃ l, l < ln ∧ ¬ l = row (6 + f) ∧ stA (va_up row (6 + f) l) (nd k) is ln) → Q (some (.int (nI 1))) M' N (P0 t e) nx) (hQ0 : ∀ M', eqD M M' → TD M' 22 ln is fc dn row nd → ¬ (∃ l, l < ln ∧ ¬ l = row (6 + f) ∧ stA (va_up row (6 + f) l) (nd k) is ln) → WP (aSem (d + 6)) g0 5 nx (qn nx Q) 2 [(0, .ref 16), (1, .int (nI k)), (3, .int (nI (f + 1)))] [] M' N (P0 t e) nx) : ∀ n l x M', l + n = ln → x < ln → eqD M M' → TD M' 22 ln is fc dn (va_up row (6 + f) x) nd → ¬ (∃ j, j < l ∧ ¬ j = row (6 + f) ∧ stA (va_up row (6 + f) j) (nd k) is ln) → WP (aSem (d + 6)) g0 5 nx (qn nx Q) 26 [(0, .ref 16), (1, .int (nI k)), (3, .int (nI f)), (4, .int (nI (row (6 + f)))), (5, .int (nI l))] [] M' N (P0 t e) nx := by
  have c6 := hc
  unfold wfC at c6
  have ho := hw.2.1 f hf
  intro n
  induction n with
  | zero =>
    intro l x M' hl hx he hT hno
    simp only [B5_26, false_imp_iff, true_imp_iff, not_false_eq_true, not_true_eq_false, true_and, and_true, implies_true, qn_self, rI_i, rJ_l, rV_n, okZ0, okZ1, o16 hn, o22 hn, exP (show P0 t e 16 1 = some 22 from rfl), hT.1, nI_le (show ln ≤ l by omega) (show l < 2 ^ 31 by omega)]
    simp only [B5_75, false_imp_iff, true_imp_iff, not_false_eq_true, not_true_eq_false, true_and, and_true, implies_true, qn_self, rI_i, rJ_l, rV_n, okZ0, okZ1, o16 hn, o22 hn, exP (show P0 t e 16 1 = some 22 from rfl), s72 hn i22 hT hc hf, nI_add]
    have hT2 := hT.tri (by omega) (row (6 + f))
    rw [up_id] at hT2
    rw [show l = ln by omega] at hno
    exact hQ0 _ (he.tr uM_D) hT2 hno
  | succ n ih =>
    intro l x M' hl hx he hT hno
    have hT2 := hT.tri (show f < 5 by omega) l
    have hw2 := hw.fa c6.2.2.1 hf (show l < ln by omega)
    have nxt : ∀ M2, eqD M M2 → TD M2 22 ln is fc dn (va_up row (6 + f) l) nd → (¬ l = row (6 + f) → ¬ stA (va_up row (6 + f) l) (nd k) is ln) → WP (aSem (d + 6)) g0 5 nx (qn nx Q) 69 [(0, .ref 16), (1, .int (nI k)), (3, .int (nI f)), (4, .int (nI (row (6 + f)))), (5, .int (nI l))] [] M2 N (P0 t e) nx := by
      intro M2 he2 hT3 hs
      simp only [B5_69, nI_add]
      refine ih (l + 1) l M2 (by omega) (by omega) he2 hT3 ?_
      rintro ⟨j, h1, h2, h3⟩
      by_cases q : j = l
      · subst q; exact hs h2 h3
      · exact hno ⟨j, by omega, h2, h3⟩
    simp only [B5_26, false_imp_iff, true_imp_iff, not_false_eq_true, not_true_eq_false, true_and, and_true, implies_true, qn_self, rI_i, rJ_l, rV_n, okZ0, okZ1, o16 hn, o22 hn, exP (show P0 t e 16 1 = some 22 from rfl), hT.1, nI_ge (show l < ln by omega) (show ln < 2 ^ 31 by omega)]
    simp only [B5_38, false_imp_iff, true_imp_iff, not_false_eq_true, not_true_eq_false, true_and, and_true, implies_true, qn_self, rI_i, rJ_l, rV_n, okZ0, okZ1, o16 hn, o22 hn, exP (show P0 t e 16 1 = some 22 from rfl), s72 hn i22 hT hc hf, nI_eq (show l < 2 ^ 31 by omega) (show row (6 + f) < 2 ^ 31 by omega)]
    refine ⟨fun h => ?_, fun h => ?_⟩
    · exact nxt _ (he.tr uM_D) hT2 (fun q => absurd h q)
    · simp only [B5_55, false_imp_iff, true_imp_iff, not_false_eq_true, not_true_eq_false, true_and, and_true, implies_true, qn_self, rI_i, rJ_l, rV_n, okZ0, okZ1, o16 hn, exP (show P0 t e 16 1 = some 22 from rfl)]
      refine s2 hn i22 hT2 hc hw2 hk h64 (fun M3 he3 hT3 hS => ?_) (fun M3 he3 hT3 hS => ?_)
      · simp only [false_imp_iff, true_imp_iff, not_false_eq_true, not_true_eq_false, true_and, and_true, implies_true, qn_self, rI_i, rJ_l, rV_n, okZ0, okZ1, one0, B5_67]
        exact hQ1 M3 (he.tr (uM_D.tr he3.D)) ⟨l, by omega, h, hS⟩
      · simp only [false_imp_iff, true_imp_iff, not_false_eq_true, not_true_eq_false, true_and, and_true, implies_true, qn_self, rI_i, rJ_l, rV_n, okZ0, okZ1, eq_true nI_0]
        exact nxt _ (he.tr (uM_D.tr he3.D)) hT3 (fun _ => hS)
theorem l5 (hn : 44 ≤ nx) (hc : wfC ln is fc dn) (hw : wfR ln is fc row) {k b : Nat} (hk : k < dn) (h64 : nd k < 64) (hQ1 : ∀ M', eqD M M' → c1 row (nd k) is ln fc b → Q (some (.int (nI 1))) M' N (P0 t e) nx) (hQ0 : ∀ M', eqD M M' → TD M' 22 ln is fc dn row nd → ¬ c1 row (nd k) is ln fc b → Q (some (.int (nI 0))) M' N (P0 t e) nx) : ∀ n f M', f + n = fc ∨ (fc ≤ f ∧ f ≤ 6 ∧ n = 0) → b ≤ f → eqD M M' → TD M' 22 ln is fc dn row nd → ¬ c1 row (nd k) is ln f b → WP (aSem (d + 6)) g0 5 nx (qn nx Q) 2 [(0, .ref 16), (1, .int (nI k)), (3, .int (nI f))] [] M' N (P0 t e) nx := by
  have c6 := hc
  unfold wfC at c6
  intro n
  induction n with
  | zero =>
    intro f M' hf hbf he hT hno
    simp only [B5_2, B5_91, false_imp_iff, true_imp_iff, not_false_eq_true, not_true_eq_false, true_and, and_true, implies_true, qn_self, rI_i, rJ_l, rV_n, okZ0, okZ1, o16 hn, o22 hn, exP (show P0 t e 16 1 = some 22 from rfl), hT.2.2.1, nI_le (show fc ≤ f by omega) (show f < 2 ^ 31 by omega)]
    refine hQ0 M' he hT ?_
    rintro ⟨g, h1, h2, h3⟩
    exact hno ⟨g, h1, by omega, h3⟩
  | succ n ih =>
    intro f M' hf hbf he hT hno
    have hf2 : f < fc := by omega
    have ho := hw.2.1 f hf2
    simp only [B5_2, false_imp_iff, true_imp_iff, not_false_eq_true, not_true_eq_false, true_and, and_true, implies_true, qn_self, rI_i, rJ_l, rV_n, okZ0, okZ1, o16 hn, o22 hn, exP (show P0 t e 16 1 = some 22 from rfl), hT.2.2.1, nI_ge hf2 (show fc < 2 ^ 31 by omega)]
    simp only [B5_13, false_imp_iff, true_imp_iff, not_false_eq_true, not_true_eq_false, true_and, and_true, implies_true, qn_self, rI_i, rJ_l, rV_n, okZ0, okZ1, o16 hn, o22 hn, exP (show P0 t e 16 1 = some 22 from rfl), s71 hn i22 hT hc hf2]
    have hT2 : TD M' 22 ln is fc dn (va_up row (6 + f) (row (6 + f))) nd := by rw [up_id]; exact hT
    refine l5b hn hc hw hk h64 hf2 (M := M') (fun M2 he2 hx => ?_) (fun M2 he2 hT3 hx => ?_) ln 0 (row (6 + f)) M' (by omega) ho eqD.rf hT2 (fun ⟨j, h, _⟩ => by omega)
    · obtain ⟨l, hl⟩ := hx
      exact hQ1 M2 (he.tr he2) ⟨f, hbf, hf2, l, hl⟩
    · refine ih (f + 1) M2 (by omega) (by omega) (he.tr he2) hT3 ?_
      rintro ⟨g, h1, h2, h3⟩
      by_cases q : g = f
      · subst q; exact hx h3
      · exact hno ⟨g, h1, by omega, h3⟩
theorem s5 (hn : 44 ≤ nx) (hT : TD M 22 ln is fc dn row nd) (hc : wfC ln is fc dn) (hw : wfR ln is fc row) {k b : Nat} (hk : k < dn) (h64 : nd k < 64) (hb : b ≤ fc) (hQ1 : ∀ M', eqD M M' → c1 row (nd k) is ln fc b → Q (some (.int (nI 1))) M' N (P0 t e) nx) (hQ0 : ∀ M', eqD M M' → TD M' 22 ln is fc dn row nd → ¬ c1 row (nd k) is ln fc b → Q (some (.int (nI 0))) M' N (P0 t e) nx) : aSem (d + 7) 5 [.ref 16, .int (nI k), .int (nI b)] M N (P0 t e) nx Q := by
  simp only [A5, B5_0]
  exact l5 hn hc hw hk h64 hQ1 hQ0 (fc - b) b M (by omega) (Nat.le_refl _) eqD.rf hT (fun ⟨g, h1, h2, _⟩ => by omega)
theorem l6b (hn : 44 ≤ nx) (hc : wfC ln is fc dn) (hw : wfR ln is fc row) {k f : Nat} (hk : k < dn) (h64 : nd k < 64) (hf : f < fc) (hQ1 : ∀ M', eqD M M' → (∃ l, l < ln ∧ ¬ l = row (6 + f) ∧ c1 (va_up row (6 + f) l) (nd k) is ln fc (f + 1)) → Q (some (.int (nI 1))) M' N (P0 t e) nx) (hQ0 : ∀ M', eqD M M' → TD M' 22 ln is fc dn row nd → ¬ (∃ l, l < ln ∧ ¬ l = row (6 + f) ∧ c1 (va_up row (6 + f) l) (nd k) is ln fc (f + 1)) → WP (aSem (d + 7)) g0 6 nx (qn nx Q) 2 [(0, .ref 16), (1, .int (nI k)), (2, .int (nI (f + 1)))] [] M' N (P0 t e) nx) : ∀ n l x M', l + n = ln → x < ln → eqD M M' → TD M' 22 ln is fc dn (va_up row (6 + f) x) nd → ¬ (∃ j, j < l ∧ ¬ j = row (6 + f) ∧ c1 (va_up row (6 + f) j) (nd k) is ln fc (f + 1)) → WP (aSem (d + 7)) g0 6 nx (qn nx Q) 25 [(0, .ref 16), (1, .int (nI k)), (2, .int (nI f)), (3, .int (nI (row (6 + f)))), (4, .int (nI l))] [] M' N (P0 t e) nx := by
  have c6 := hc
  unfold wfC at c6
  have ho := hw.2.1 f hf
  intro n
  induction n with
  | zero =>
    intro l x M' hl hx he hT hno
    simp only [B6_25, false_imp_iff, true_imp_iff, not_false_eq_true, not_true_eq_false, true_and, and_true, implies_true, qn_self, rI_i, rJ_l, rV_n, okZ0, okZ1, o16 hn, o22 hn, exP (show P0 t e 16 1 = some 22 from rfl), hT.1, nI_le (show ln ≤ l by omega) (show l < 2 ^ 31 by omega)]
    simp only [B6_72, false_imp_iff, true_imp_iff, not_false_eq_true, not_true_eq_false, true_and, and_true, implies_true, qn_self, rI_i, rJ_l, rV_n, okZ0, okZ1, o16 hn, o22 hn, exP (show P0 t e 16 1 = some 22 from rfl), s72 hn i22 hT hc hf, nI_add]
    have hT2 := hT.tri (by omega) (row (6 + f))
    rw [up_id] at hT2
    rw [show l = ln by omega] at hno
    exact hQ0 _ (he.tr uM_D) hT2 hno
  | succ n ih =>
    intro l x M' hl hx he hT hno
    have hT2 := hT.tri (show f < 5 by omega) l
    have hw2 := hw.fa c6.2.2.1 hf (show l < ln by omega)
    have nxt : ∀ M2, eqD M M2 → TD M2 22 ln is fc dn (va_up row (6 + f) l) nd → (¬ l = row (6 + f) → ¬ c1 (va_up row (6 + f) l) (nd k) is ln fc (f + 1)) → WP (aSem (d + 7)) g0 6 nx (qn nx Q) 66 [(0, .ref 16), (1, .int (nI k)), (2, .int (nI f)), (3, .int (nI (row (6 + f)))), (4, .int (nI l))] [] M2 N (P0 t e) nx := by
      intro M2 he2 hT3 hs
      simp only [B6_66, nI_add]
      refine ih (l + 1) l M2 (by omega) (by omega) he2 hT3 ?_
      rintro ⟨j, h1, h2, h3⟩
      by_cases q : j = l
      · subst q; exact hs h2 h3
      · exact hno ⟨j, by omega, h2, h3⟩
    simp only [B6_25, false_imp_iff, true_imp_iff, not_false_eq_true, not_true_eq_false, true_and, and_true, implies_true, qn_self, rI_i, rJ_l, rV_n, okZ0, okZ1, o16 hn, o22 hn, exP (show P0 t e 16 1 = some 22 from rfl), hT.1, nI_ge (show l < ln by omega) (show ln < 2 ^ 31 by omega)]
    simp only [B6_37, false_imp_iff, true_imp_iff, not_false_eq_true, not_true_eq_false, true_and, and_true, implies_true, qn_self, rI_i, rJ_l, rV_n, okZ0, okZ1, o16 hn, o22 hn, exP (show P0 t e 16 1 = some 22 from rfl), s72 hn i22 hT hc hf, nI_eq (show l < 2 ^ 31 by omega) (show row (6 + f) < 2 ^ 31 by omega)]
    refine ⟨fun h => ?_, fun h => ?_⟩
    · exact nxt _ (he.tr uM_D) hT2 (fun q => absurd h q)
    · simp only [B6_53, false_imp_iff, true_imp_iff, not_false_eq_true, not_true_eq_false, true_and, and_true, implies_true, qn_self, rI_i, rJ_l, rV_n, okZ0, okZ1, o16 hn, nI_add]
      refine s5 hn hT2 hc hw2 hk h64 (show f + 1 ≤ fc by omega) (fun M3 he3 hS => ?_) (fun M3 he3 hT3 hS => ?_)
      · simp only [false_imp_iff, true_imp_iff, not_false_eq_true, not_true_eq_false, true_and, and_true, implies_true, qn_self, rI_i, rJ_l, rV_n, okZ0, okZ1, one0, B6_64]
        exact hQ1 M3 (he.tr (uM_D.tr he3)) ⟨l, by omega, h, hS⟩
      · simp only [false_imp_iff, true_imp_iff, not_false_eq_true, not_true_eq_false, true_and, and_true, implies_true, qn_self, rI_i, rJ_l, rV_n, okZ0, okZ1, eq_true nI_0]
        exact nxt _ (he.tr (uM_D.tr he3)) hT3 (fun _ => hS)
theorem l6 (hn : 44 ≤ nx) (hc : wfC ln is fc dn) (hw : wfR ln is fc row) {k : Nat} (hk : k < dn) (h64 : nd k < 64) (hQ1 : ∀ M', eqD M M' → c2 row (nd k) is ln fc → Q (some (.int (nI 1))) M' N (P0 t e) nx) (hQ0 : ∀ M', eqD M M' → TD M' 22 ln is fc dn row nd → ¬ c2 row (nd k) is ln fc → Q (some (.int (nI 0))) M' N (P0 t e) nx) : ∀ n f M', f + n = fc → eqD M M' → TD M' 22 ln is fc dn row nd → ¬ (∃ g, g < f ∧ ∃ l, l < ln ∧ ¬ l = row (6 + g) ∧ c1 (va_up row (6 + g) l) (nd k) is ln fc (g + 1)) → WP (aSem (d + 7)) g0 6 nx (qn nx Q) 2 [(0, .ref 16), (1, .int (nI k)), (2, .int (nI f))] [] M' N (P0 t e) nx := by
  have c6 := hc
  unfold wfC at c6
  intro n
  induction n with
  | zero =>
    intro f M' hf he hT hno
    simp only [B6_2, B6_87, false_imp_iff, true_imp_iff, not_false_eq_true, not_true_eq_false, true_and, and_true, implies_true, qn_self, rI_i, rJ_l, rV_n, okZ0, okZ1, o16 hn, o22 hn, exP (show P0 t e 16 1 = some 22 from rfl), hT.2.2.1, nI_le (show fc ≤ f by omega) (show f < 2 ^ 31 by omega)]
    refine hQ0 M' he hT ?_
    rintro ⟨g, h2, h3⟩
    exact hno ⟨g, by omega, h3⟩
  | succ n ih =>
    intro f M' hf he hT hno
    have hf2 : f < fc := by omega
    have ho := hw.2.1 f hf2
    simp only [B6_2, false_imp_iff, true_imp_iff, not_false_eq_true, not_true_eq_false, true_and, and_true, implies_true, qn_self, rI_i, rJ_l, rV_n, okZ0, okZ1, o16 hn, o22 hn, exP (show P0 t e 16 1 = some 22 from rfl), hT.2.2.1, nI_ge hf2 (show fc < 2 ^ 31 by omega)]
    simp only [B6_13, false_imp_iff, true_imp_iff, not_false_eq_true, not_true_eq_false, true_and, and_true, implies_true, qn_self, rI_i, rJ_l, rV_n, okZ0, okZ1, o16 hn, o22 hn, exP (show P0 t e 16 1 = some 22 from rfl), s71 hn i22 hT hc hf2]
    have hT2 : TD M' 22 ln is fc dn (va_up row (6 + f) (row (6 + f))) nd := by rw [up_id]; exact hT
    refine l6b hn hc hw hk h64 hf2 (M := M') (fun M2 he2 hx => ?_) (fun M2 he2 hT3 hx => ?_) ln 0 (row (6 + f)) M' (by omega) ho eqD.rf hT2 (fun ⟨j, h, _⟩ => by omega)
    · obtain ⟨l, hl⟩ := hx
      exact hQ1 M2 (he.tr he2) ⟨f, hf2, l, hl⟩
    · refine ih (f + 1) M2 (by omega) (he.tr he2) hT3 ?_
      rintro ⟨g, h2, h3⟩
      by_cases q : g = f
      · subst q; exact hx h3
      · exact hno ⟨g, by omega, h3⟩
theorem s6 (hn : 44 ≤ nx) (hT : TD M 22 ln is fc dn row nd) (hc : wfC ln is fc dn) (hw : wfR ln is fc row) {k : Nat} (hk : k < dn) (h64 : nd k < 64) (hQ1 : ∀ M', eqD M M' → c2 row (nd k) is ln fc → Q (some (.int (nI 1))) M' N (P0 t e) nx) (hQ0 : ∀ M', eqD M M' → TD M' 22 ln is fc dn row nd → ¬ c2 row (nd k) is ln fc → Q (some (.int (nI 0))) M' N (P0 t e) nx) : aSem (d + 8) 6 [.ref 16, .int (nI k)] M N (P0 t e) nx Q := by
  simp only [A6, B6_0]
  exact l6 hn hc hw hk h64 hQ1 hQ0 fc 0 M (by omega) eqD.rf hT (fun ⟨g, h, _⟩ => by omega)
end DEE
