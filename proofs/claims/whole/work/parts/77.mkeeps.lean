/-! THE REFERENCE: what is kept, and acts -/
def MU (M : aM) (u : Nat) (hs : Nat → Nat → Nat) (kp : Nat → Bool) (ks : Nat → Nat → Nat) : Prop := u ≤ 12 ∧ M 31 20 = nI u ∧ (∀ j, j < u → ∀ k, k < 89 → M 39 (89 * j + k) = nI (hs j k)) ∧ (∀ j, j < 2 → M 41 j = if kp j = true then nI 1 else nI 0) ∧ ∀ j, j < 2 → kp j = true → ∀ k, k < 89 → M 40 (89 * j + k) = nI (ks j k)
/-- memory but for what acts of the reference write -/
def eqB (M M' : aM) : Prop := (∀ a, a ≠ 31 → a ≠ 36 → a ≠ 39 → a ≠ 40 → a ≠ 41 → a ≠ 42 → M' a = M a) ∧ ∀ k, k ≠ 0 → k ≠ 20 → k ≠ 26 → k ≠ 27 → k ≠ 28 → M' 31 k = M 31 k
theorem eqB.rf {M : aM} : eqB M M := ⟨fun _ _ _ _ _ _ _ => rfl, fun _ _ _ _ _ _ => rfl⟩
theorem eqB.tr {M M' M'' : aM} (h : eqB M M') (h' : eqB M' M'') : eqB M M'' := ⟨fun a x y z w p q => (h'.1 a x y z w p q).trans (h.1 a x y z w p q), fun k x y z w p => (h'.2 k x y z w p).trans (h.2 k x y z w p)⟩
theorem eqM.B {M M' : aM} (h : eqM M M') : eqB M M' := ⟨fun a x _ _ _ _ w => h.1 a x w, fun k x _ y z w => h.2 k x y z w⟩
theorem eqB.s {M M' : aM} {k : Nat} {v : Int32} (h : eqB M M') : eqB M (uM M' 36 k v) := ⟨fun a x y z w p q => by rw [uM_ne y]; exact h.1 a x y z w p q, fun j x y z w p => by rw [uM_a (by decide)]; exact h.2 j x y z w p⟩
/-- memory but for the rows that undo -/
def eqK (M M' : aM) : Prop := (∀ a, a ≠ 31 → a ≠ 39 → M' a = M a) ∧ ∀ k, k ≠ 20 → M' 31 k = M 31 k
theorem eqK.B {M M' : aM} (h : eqK M M') : eqB M M' := ⟨fun a x _ y _ _ _ => h.1 a x y, fun k _ x _ _ _ => h.2 k x⟩
theorem MT.k {M M' : aM} {ln is fc dn : Nat} {row nd : Nat → Nat} (h : MT M ln is fc dn row nd) (he : eqK M M') : MT M' ln is fc dn row nd := by
  unfold MT
  rw [he.1 33 (by decide) (by decide), he.1 35 (by decide) (by decide), he.1 36 (by decide) (by decide)]
  exact h
theorem MU.m {M M' : aM} {u : Nat} {hs : Nat → Nat → Nat} {kp : Nat → Bool} {ks : Nat → Nat → Nat} (h : MU M u hs kp ks) (he : eqM M M') : MU M' u hs kp ks := by
  unfold MU
  rw [he.1 39 (by decide) (by decide), he.1 40 (by decide) (by decide), he.1 41 (by decide) (by decide), he.2 20 (by decide) (by decide) (by decide) (by decide)]
  exact h
theorem MU.s {M : aM} {u k : Nat} {v : Int32} {hs : Nat → Nat → Nat} {kp : Nat → Bool} {ks : Nat → Nat → Nat} (h : MU M u hs kp ks) : MU (uM M 36 k v) u hs kp ks := by
  unfold MU
  rw [uM_ne (show 39 ≠ 36 by decide), uM_ne (show 40 ≠ 36 by decide), uM_ne (show 41 ≠ 36 by decide), uM_ne (show 31 ≠ 36 by decide)]
  exact h
theorem x39 {nx : Nat} (hn : 44 ≤ nx) {K : Nat} {R : Nat → Prop} (h : K < 1068) : (∃ k, okA nx 39 1 (nI K) k ∧ R k) ↔ R K := exA (show kindOf 39 = (1, 1068) from rfl) (by omega) (by decide) h
theorem x40 {nx : Nat} (hn : 44 ≤ nx) {K : Nat} {R : Nat → Prop} (h : K < 178) : (∃ k, okA nx 40 1 (nI K) k ∧ R k) ↔ R K := exA (show kindOf 40 = (1, 178) from rfl) (by omega) (by decide) h
section MKE
variable {d : Nat} {M : aM} {N : aN} {P : aP} {t e nx ln is fc dn u : Nat} {row nd : Nat → Nat} {hs ks : Nat → Nat → Nat} {kp : Nat → Bool} {Q : aQ}
theorem l200 (hn : 44 ≤ nx) (hR : ∀ k, k < 89 → M 36 k = nI (row k)) {v : Nat} (hv : v < 12) (hU : M 31 20 = nI v) (hK : ∀ M', (∀ a, a ≠ 39 → M' a = M a) → (∀ j, j < 89 → M' 39 (89 * v + j) = nI (row j)) → (∀ j, j < 89 * v → M' 39 j = M 39 j) → Q none (uM M' 31 20 (nI (v + 1))) N (P0 t e) nx) : ∀ n k M', k + n = 89 → (∀ a, a ≠ 39 → M' a = M a) → (∀ j, j < k → M' 39 (89 * v + j) = nI (row j)) → (∀ j, j < 89 * v → M' 39 j = M 39 j) → WP (aSem d) g0 200 nx (qn nx Q) 51 [(0, .ref 31), (1, .int (nI k))] [] M' N (P0 t e) nx := by
  intro n
  induction n with
  | zero =>
    intro k M' hk he h1 h2
    have e1 : M' 31 20 = nI v := by rw [he 31 (by decide)]; exact hU
    simp only [B200_51, B200_83, false_imp_iff, true_imp_iff, not_false_eq_true, not_true_eq_false, true_and, and_true, implies_true, qn_self, rI_i, rJ_l, rV_n, okZ0, okZ1, nI_le (show 89 ≤ k by omega) (show k < 2 ^ 31 by omega), o31 hn, e1, nI_add]
    exact hK M' he (fun j hj => h1 j (by omega)) h2
  | succ n ih =>
    intro k M' hk he h1 h2
    have e1 : M' 31 20 = nI v := by rw [he 31 (by decide)]; exact hU
    have e2 : M' 36 k = nI (row k) := by rw [he 36 (by decide)]; exact hR k (by omega)
    simp only [B200_51, false_imp_iff, true_imp_iff, not_false_eq_true, not_true_eq_false, true_and, and_true, implies_true, qn_self, rI_i, rJ_l, rV_n, okZ0, okZ1, nI_ge (show k < 89 by omega) (show 89 < 2 ^ 31 by decide)]
    simp only [B200_57, false_imp_iff, true_imp_iff, not_false_eq_true, not_true_eq_false, true_and, and_true, implies_true, qn_self, rI_i, rJ_l, rV_n, okZ0, okZ1, o31 hn, exP (show P0 t e 31 19 = some 39 from rfl), exP (show P0 t e 31 16 = some 36 from rfl), x36 hn (show k < 89 by omega), e1, e2, nI_mul, nI_add, x39 hn (show 89 * v + k < 1068 by omega)]
    refine ih (k + 1) _ (by omega) (fun a ha => by rw [uM_ne ha]; exact he a ha) (fun j hj => ?_) (fun j hj => by rw [uM_j (by omega)]; exact h2 j hj)
    by_cases q : j = k
    · subst q; rw [uM_k]
    · rw [uM_j (by omega)]; exact h1 j (by omega)
theorem m200 (hn : 44 ≤ nx) (hK : ∀ M', (∀ a, a ≠ 39 → M' a = M a) → (∀ j, j < 979 → M' 39 j = M 39 (j + 89)) → WP (aSem d) g0 200 nx (qn nx Q) 39 [(0, .ref 31), (1, .int (nI 979))] [] M' N (P0 t e) nx) : ∀ n k M', k + n = 979 → (∀ a, a ≠ 39 → M' a = M a) → (∀ j, j < k → M' 39 j = M 39 (j + 89)) → (∀ j, k ≤ j → M' 39 j = M 39 j) → WP (aSem d) g0 200 nx (qn nx Q) 11 [(0, .ref 31), (1, .int (nI k))] [] M' N (P0 t e) nx := by
  intro n
  induction n with
  | zero =>
    intro k M' hk he h1 h2
    have hk2 : k = 979 := by omega
    subst hk2
    simp only [B200_11, false_imp_iff, true_imp_iff, not_false_eq_true, not_true_eq_false, true_and, and_true, implies_true, qn_self, rI_i, rJ_l, rV_n, okZ0, okZ1, nI_le (show 979 ≤ 979 by decide) (show 979 < 2 ^ 31 by decide)]
    exact hK M' he h1
  | succ n ih =>
    intro k M' hk he h1 h2
    simp only [B200_11, false_imp_iff, true_imp_iff, not_false_eq_true, not_true_eq_false, true_and, and_true, implies_true, qn_self, rI_i, rJ_l, rV_n, okZ0, okZ1, nI_ge (show k < 979 by omega) (show 979 < 2 ^ 31 by decide)]
    simp only [B200_18, false_imp_iff, true_imp_iff, not_false_eq_true, not_true_eq_false, true_and, and_true, implies_true, qn_self, rI_i, rJ_l, rV_n, okZ0, okZ1, o31 hn, exP (show P0 t e 31 19 = some 39 from rfl), nI_add, x39 hn (show k + 89 < 1068 by omega), x39 hn (show k < 1068 by omega)]
    refine ih (k + 1) _ (by omega) (fun a ha => by rw [uM_ne ha]; exact he a ha) (fun j hj => ?_) (fun j hj => by rw [uM_j (by omega)]; exact h2 j (by omega))
    by_cases q : j = k
    · subst q; rw [uM_k]; exact h2 _ (by omega)
    · rw [uM_j (by omega)]; exact h1 j (by omega)
theorem s200 (hn : 44 ≤ nx) (hR : ∀ k, k < 89 → M 36 k = nI (row k)) (hU : MU M u hs kp ks) (hQ : ∀ M', eqK M M' → MU M' (psU u) (psH u hs row) kp ks → Q none M' N (P0 t e) nx) : aSem (d + 1) 200 [.ref 31] M N (P0 t e) nx Q := by
  obtain ⟨hu, h20, hh, hb, hks⟩ := hU
  simp only [A200, B200_0, false_imp_iff, true_imp_iff, not_false_eq_true, not_true_eq_false, true_and, and_true, implies_true, qn_self, rI_i, rJ_l, rV_n, okZ0, okZ1, o31 hn, h20, nI_eq (show u < 2 ^ 31 by omega) (show 12 < 2 ^ 31 by decide)]
  refine ⟨fun q => ?_, fun q => ?_⟩
  · have hu2 : u < 12 := by omega
    simp only [B200_49]
    refine l200 hn hR hu2 h20 (fun M' he h1 h2 => ?_) 89 0 M (by omega) (fun _ _ => rfl) (fun j hj => by omega) (fun _ _ => rfl)
    refine hQ _ ⟨fun a x y => by rw [uM_ne x]; exact he a y, fun k x => by rw [uM_j x]; rw [he 31 (by decide)]⟩ ⟨?_, ?_, ?_, ?_, ?_⟩
    · unfold psU; rw [if_pos hu2]; omega
    · rw [uM_k]; unfold psU; rw [if_pos hu2]
    · intro j hj k hk
      unfold psU at hj
      rw [if_pos hu2] at hj
      rw [uM_a (by decide)]
      unfold psH
      rw [if_pos hu2]
      by_cases w : j = u
      · rw [if_pos w, w]; exact h1 k hk
      · rw [if_neg w, h2 _ (by omega)]; exact hh j (by omega) k hk
    · intro j hj; rw [uM_a (by decide), he 41 (by decide)]; exact hb j hj
    · intro j hj hq k hk; rw [uM_a (by decide), he 40 (by decide)]; exact hks j hj hq k hk
  · simp only [B200_9]
    refine m200 hn (fun M1 he1 hs1 => ?_) 979 0 M (by omega) (fun _ _ => rfl) (fun j hj => by omega) (fun _ _ => rfl)
    have e1 : M1 31 20 = nI 12 := by rw [he1 31 (by decide), h20, q]
    have e2 : nI 12 - nI 1 = nI 11 := by decide +kernel
    simp only [B200_39, B200_49, false_imp_iff, true_imp_iff, not_false_eq_true, not_true_eq_false, true_and, and_true, implies_true, qn_self, rI_i, rJ_l, rV_n, okZ0, okZ1, o31 hn, e1, e2]
    refine l200 (M := uM M1 31 20 (nI 11)) hn (row := row) (fun k hk => by rw [uM_a (by decide), he1 36 (by decide)]; exact hR k hk) (show 11 < 12 by decide) uM_k (fun M' he h1 h2 => ?_) 89 0 _ (by omega) (fun _ _ => rfl) (fun j hj => by omega) (fun _ _ => rfl)
    refine hQ _ ⟨fun a x y => by rw [uM_ne x, he a y, uM_ne x]; exact he1 a y, fun k x => by rw [uM_j x, he 31 (by decide), uM_j x, he1 31 (by decide)]⟩ ⟨?_, ?_, ?_, ?_, ?_⟩
    · unfold psU; rw [if_neg (by omega)]; exact Nat.le_refl _
    · rw [uM_k]; unfold psU; rw [if_neg (by omega)]
    · intro j hj k hk
      unfold psU at hj
      rw [if_neg (by omega)] at hj
      rw [uM_a (by decide)]
      unfold psH
      rw [if_neg (by omega)]
      by_cases w : j = 11
      · rw [if_pos w, w]; exact h1 k hk
      · rw [if_neg w, h2 _ (by omega), uM_a (by decide), hs1 _ (by omega), show 89 * j + k + 89 = 89 * (j + 1) + k by omega]
        exact hh (j + 1) (by omega) k hk
    · intro j hj; rw [uM_a (by decide), he 41 (by decide), uM_a (by decide), he1 41 (by decide)]; exact hb j hj
    · intro j hj hq k hk; rw [uM_a (by decide), he 40 (by decide), uM_a (by decide), he1 40 (by decide)]; exact hks j hj hq k hk
theorem MT.up {K y : Nat} (h : MT M ln is fc dn row nd) (hK : K < 89) (hw : wfR ln is fc (va_up row K y)) : MT (uM M 36 K (nI y)) ln is fc dn (va_up row K y) nd := by
  obtain ⟨h1, h2, h3, h4, h5, h6, h7, h8, h9⟩ := h
  refine ⟨?_, ?_, ?_, ?_, ?_, ?_, h7, hw, h9⟩
  · rw [uM_a (by decide)]; exact h1
  · rw [uM_a (by decide)]; exact h2
  · rw [uM_a (by decide)]; exact h3
  · rw [uM_a (by decide)]; exact h4
  · intro k hk
    by_cases q : k = K
    · subst q; rw [uM_k, up_eq]
    · rw [uM_j q, up_ne q]; exact h5 k hk
  · intro k hk
    rw [uM_a (by decide)]; exact h6 k hk
theorem s201 (hn : 44 ≤ nx) (h : MT M ln is fc dn row nd) (hU : MU M u hs kp ks) {K y : Nat} (hK : K < 89) (hw : wfR ln is fc (va_up row K y)) (hQ : ∀ M', eqB M M' → MT M' ln is fc dn (va_up row K y) nd → MU M' (psU u) (psH u hs row) kp ks → Q (some (.int (nI (row K)))) M' N (P0 t e) nx) : aSem (d + 2) 201 [.ref 31, .int (nI K), .int (nI y)] M N (P0 t e) nx Q := by
  simp only [A201, B201_0, false_imp_iff, true_imp_iff, not_false_eq_true, not_true_eq_false, true_and, and_true, implies_true, qn_self, rI_i, rJ_l, rV_n, okZ0, okZ1, o31 hn]
  refine s200 hn h.2.2.2.2.1 hU (fun M1 he1 hU1 => ?_)
  have h1 := h.k he1
  simp only [false_imp_iff, true_imp_iff, not_false_eq_true, not_true_eq_false, true_and, and_true, implies_true, qn_self, rI_i, rJ_l, rV_n, okZ0, okZ1, o31 hn, exP (show P0 t e 31 16 = some 36 from rfl), x36 hn hK, h1.2.2.2.2.1 K hK]
  exact hQ _ he1.B.s (h1.up hK hw) hU1.s
-- rows stay well formed
theorem wfR.th (h : wfR ln is fc row) {l y : Nat} (hl : l < 6) (hy : y ≤ 4) (h5 : fc ≤ 5) : wfR ln is fc (va_up row l y) := by
  obtain ⟨h1, h2, h3, h4, h6⟩ := h
  refine ⟨fun k hk => ?_, fun f hf => ?_, fun k a b => ?_, fun k a b => ?_, fun i hi => ?_⟩
  · by_cases q : k = l
    · rw [q, up_eq]; exact hy
    · rw [up_ne q]; exact h1 k hk
  · rw [up_ne (by omega)]; exact h2 f hf
  · rw [up_ne (by omega)]; exact h3 k a b
  · rw [up_ne (by omega)]; exact h4 k a b
  · rw [up_ne (by omega)]; exact h6 i hi
theorem wfR.ru (h : wfR ln is fc row) {K y : Nat} (hl : 11 ≤ K) (hl2 : K < 47) (hy : y ≤ 2 * fc) (h5 : fc ≤ 5) : wfR ln is fc (va_up row K y) := by
  obtain ⟨h1, h2, h3, h4, h6⟩ := h
  refine ⟨fun k hk => ?_, fun f hf => ?_, fun k a b => ?_, fun k a b => ?_, fun i hi => ?_⟩
  · rw [up_ne (by omega)]; exact h1 k hk
  · rw [up_ne (by omega)]; exact h2 f hf
  · by_cases q : k = K
    · rw [q, up_eq]; exact hy
    · rw [up_ne q]; exact h3 k a b
  · rw [up_ne (by omega)]; exact h4 k a b
  · rw [up_ne (by omega)]; exact h6 i hi
theorem wfR.la (h : wfR ln is fc row) {K y : Nat} (hl : 47 ≤ K) (hl2 : K < 83) (hy : y ≤ 99) (h5 : fc ≤ 5) : wfR ln is fc (va_up row K y) := by
  obtain ⟨h1, h2, h3, h4, h6⟩ := h
  refine ⟨fun k hk => ?_, fun f hf => ?_, fun k a b => ?_, fun k a b => ?_, fun i hi => ?_⟩
  · rw [up_ne (by omega)]; exact h1 k hk
  · rw [up_ne (by omega)]; exact h2 f hf
  · rw [up_ne (by omega)]; exact h3 k a b
  · by_cases q : k = K
    · rw [q, up_eq]; exact hy
    · rw [up_ne q]; exact h4 k a b
  · rw [up_ne (by omega)]; exact h6 i hi
theorem wfH.up (h : wfH is row) (hr : ∀ i, i < is → row (83 + i) < is) {K y : Nat} (hK : K < 83) : wfH is (va_up row K y) := by
  intro i hi
  rw [up_ne (show 83 + i ≠ K by omega), up_ne (show 83 + row (83 + i) ≠ K by omega)]
  exact h i hi
end MKE
