/-! THE REFERENCE: words of a line -/
theorem C138_0 {d : Nat} {G : aG} {lim : Nat} {Q : aQ} (v0 v1 : Nat) (M : aM) (N : aN) (P : aP) (nx : Nat) : WP (aSem d) G 138 lim Q 0 [(0, .ref v0), (1, .retAddr v1)] [] M N P nx ↔ (okO nx v0 7 ∧ ((¬ M v0 6 = nI 1 → WP (aSem d) G 138 lim Q 24 [] [] M N P nx) ∧ (M v0 6 = nI 1 → WP (aSem d) G 138 lim Q 8 [(0, .ref v0), (1, .retAddr v1)] [] M N P nx))) := WP_seg (aSem_mono d) [(.aload_n 0, 1), (.getfield 70, 3), (.iconst 1, 1), (.if_icmp .ne 19, 3)] (by decide +kernel)
theorem C138_8 {d : Nat} {G : aG} {lim : Nat} {Q : aQ} (v0 v1 : Nat) (M : aM) (N : aN) (P : aP) (nx : Nat) : WP (aSem d) G 138 lim Q 8 [(0, .ref v0), (1, .retAddr v1)] [] M N P nx ↔ (okO nx v0 7 ∧ aSem d 137 [.retAddr v1] M N P nx (rJ fun r1 M2 N3 P4 nx5 => ((¬ lg_cmp (N v0 8) r1 = 0 → WP (aSem d) G 138 lim Q 24 [] [] M2 N3 P4 nx5) ∧ (lg_cmp (N v0 8) r1 = 0 → WP (aSem d) G 138 lim Q 20 [(0, .ref v0), (1, .retAddr v1)] [] M2 N3 P4 nx5)))) := WP_seg (aSem_mono d) [(.aload_n 0, 1), (.getfield 76, 3), (.aload_n 1, 1), (.invokestatic 110, 3), (.lcmp, 1), (.ifCond .ne 7, 3)] (by decide +kernel)
theorem C138_20 {d : Nat} {G : aG} {lim : Nat} {Q : aQ} (v0 v1 : Nat) (M : aM) (N : aN) (P : aP) (nx : Nat) : WP (aSem d) G 138 lim Q 20 [(0, .ref v0), (1, .retAddr v1)] [] M N P nx ↔ WP (aSem d) G 138 lim Q 25 [] [.int (nI 1)] M N P nx := WP_seg (aSem_mono d) [(.iconst 1, 1), (.goto 4, 3)] (by decide +kernel)
theorem A137s {d : Nat} {M : aM} {N : aN} {P : aP} {nx k : Nat} {Q : aQ} : aSem (d + 1) 137 [.retAddr (k + 1)] M N P nx Q ↔ k < 8 ∧ Q (some (.long (wordL k))) M N P nx := Iff.rfl
theorem wordL_k : ∀ k, k < 8 → wordL k = lN (kwV k) := by decide +kernel
theorem lNq {a b : Nat} (ha : a < 2 ^ 31) (hb : b < 2 ^ 31) : lN a = lN b ↔ a = b := by
  constructor
  · intro h
    have := congrArg Int64.toInt h
    rw [lN_toInt ha, lN_toInt hb] at this
    omega
  · intro h; rw [h]
/-- memory but for what the reference's reading writes -/
def eqG (M M' : aM) : Prop := (∀ a, a ≠ 31 → a ≠ 33 → a ≠ 35 → a ≠ 37 → a ≠ 38 → M' a = M a) ∧ (∀ k, k < 4 → M' 33 k = M 33 k) ∧ (∀ k, k < 8 → M' 35 k = M 35 k) ∧ ∀ k, k ≠ 4 → k ≠ 5 → k ≠ 6 → k ≠ 7 → k ≠ 9 → k ≠ 10 → k ≠ 11 → k ≠ 24 → M' 31 k = M 31 k
def eqI (N N' : aN) : Prop := ∀ a, a ≠ 31 → a ≠ 34 → N' a = N a
/-- what the reference has read -/
def RR (M0 : aM) (N0 : aN) (S : PSt) (M : aM) (N : aN) : Prop := eqG M0 M ∧ eqI N0 N ∧ M 31 9 = nI 0 ∧ M 31 12 = nI 1 ∧ (∀ k, k < 4 → M 33 (4 + k) = nI (S.1 k)) ∧ (∀ x ∈ S.2.2.2.1, N 34 (32 + 8 * x.2.1 + x.2.2) = lN x.1) ∧ (∀ k, k < S.1 3 → M 35 (8 + k) = nI (S.2.2.1 k)) ∧ (∀ k, k < 89 → M 37 k = nI (S.2.1 k)) ∧ ∀ j, j < 36 → M 38 j = if S.2.2.2.2 j = true then nI 1 else nI 0
def FR (M0 : aM) (N0 : aN) (c : Nat) (M : aM) (N : aN) : Prop := eqG M0 M ∧ eqI N0 N ∧ ∃ p k, M 31 10 = nI p ∧ M 31 9 = nI k ∧ c = 8 * p + k
section MRE
variable {d : Nat} {M0 M : aM} {N0 N : aN} {P : aP} {t e nx n : Nat} {B : Nat → Nat} {S : PSt} {Q : aQ}
theorem eqG.h {M' : aM} (h : eqG M0 M) (he : eqH M M') : eqG M0 M' := ⟨fun a x y z w p => (he.1 a x).trans (h.1 a x y z w p), fun k hk => by rw [he.1 33 (by decide)]; exact h.2.1 k hk, fun k hk => by rw [he.1 35 (by decide)]; exact h.2.2.1 k hk, fun k x y z w p q r s => (he.2 k x y z w).trans (h.2.2.2 k x y z w p q r s)⟩
theorem eqI.j {N' : aN} (h : eqI N0 N) (hj : eqJ N N') : eqI N0 N' := fun a x y => (hj.1 a x).trans (h a x y)
theorem RR.h {M' : aM} {N' : aN} (h : RR M0 N0 S M N) (he : eqH M M') (hj : eqJ N N') : RR M0 N0 S M' N' := by
  obtain ⟨h1, h2, h3, h4, h5, h6, h7, h8, h9⟩ := h
  refine ⟨h1.h he, h2.j hj, ?_, ?_, ?_, ?_, ?_, ?_, ?_⟩
  · rw [he.2 9 (by decide) (by decide) (by decide) (by decide)]; exact h3
  · rw [he.2 12 (by decide) (by decide) (by decide) (by decide)]; exact h4
  · rw [he.1 33 (by decide)]; exact h5
  · rw [hj.1 34 (by decide)]; exact h6
  · rw [he.1 35 (by decide)]; exact h7
  · rw [he.1 37 (by decide)]; exact h8
  · rw [he.1 38 (by decide)]; exact h9
theorem RR.by (h : RR M0 N0 S M N) (hb : BY M0 32 n B) : BY M 32 n B := fun k hk => by rw [h.1.1 32 (by decide) (by decide) (by decide) (by decide) (by decide)]; exact hb k hk
/-- other fields of the object -/
theorem RR.u {k : Nat} {v : Int32} (h : RR M0 N0 S M N) (hk : k = 11 ∨ k = 24) : RR M0 N0 S (uM M 31 k v) N := by
  obtain ⟨h1, h2, h3, h4, h5, h6, h7, h8, h9⟩ := h
  refine ⟨⟨fun a x y z w p => by rw [uM_ne x]; exact h1.1 a x y z w p, fun j hj => by rw [uM_a (by decide)]; exact h1.2.1 j hj, fun j hj => by rw [uM_a (by decide)]; exact h1.2.2.1 j hj, fun j x y z w p q r s => by rw [uM_j (by omega)]; exact h1.2.2.2 j x y z w p q r s⟩, h2, ?_, ?_, ?_, h6, ?_, ?_, ?_⟩
  · rw [uM_j (by omega)]; exact h3
  · rw [uM_j (by omega)]; exact h4
  · rw [uM_ne (show 33 ≠ 31 by decide)]; exact h5
  · rw [uM_ne (show 35 ≠ 31 by decide)]; exact h7
  · rw [uM_ne (show 37 ≠ 31 by decide)]; exact h8
  · rw [uM_ne (show 38 ≠ 31 by decide)]; exact h9
theorem RO.u {k q : Nat} {v : Int32} (h : RO M N B n q) (hk : k = 11 ∨ k = 24) : RO (uM M 31 k v) N B n q := by
  obtain ⟨h1, h2, h3, h4, h5, h6, h7, h8⟩ := h
  refine ⟨?_, ?_, ?_, h4, ?_, fun z => ?_, h7, h8⟩
  · rw [uM_j (by omega)]; exact h1
  · rw [uM_j (by omega)]; exact h2
  · rw [uM_j (by omega)]; exact h3
  · rw [uM_j (by omega)]; exact h5
  · rw [uM_j (by omega)]; exact h6 z
theorem RR.fr {p k c : Nat} (h : RR M0 N0 S M N) (hc : c = 8 * p + k) : FR M0 N0 c (uM (uM M 31 9 (nI k)) 31 10 (nI p)) N := by
  have h1 := h.1
  refine ⟨⟨fun a x y z w p => by rw [uM_ne x, uM_ne x]; exact h1.1 a x y z w p, fun j hj => by rw [uM_a (by decide), uM_a (by decide)]; exact h1.2.1 j hj, fun j hj => by rw [uM_a (by decide), uM_a (by decide)]; exact h1.2.2.1 j hj, fun j x y z w p q r s => by rw [uM_j q, uM_j p]; exact h1.2.2.2 j x y z w p q r s⟩, h.2.1, p, k, uM_k, ?_, hc⟩
  rw [uM_j (by decide), uM_k]
theorem s136t (hn : 44 ≤ nx) (h9 : M 31 9 = nI 0) {k : Nat} : aSem (d + 1) 136 [.ref 31, .int (nI 1), .int (nI k)] M N (P0 t e) nx Q ↔ Q (some (.int (nI 1))) M N (P0 t e) nx := by
  simp only [A136, B136_0, B136_7, B136_24, B136_31, B136_36, false_imp_iff, true_imp_iff, not_false_eq_true, not_true_eq_false, true_and, and_true, implies_true, qn_self, rI_i, rJ_l, rV_n, okZ0, okZ1, o31 hn, h9, eq_true nI_0, one0, okZ1]
theorem s136f (hn : 44 ≤ nx) (h9 : M 31 9 = nI 0) {p k : Nat} (h4 : M 31 4 = nI p) (hk : 0 < k) (hk6 : k < 6) : aSem (d + 1) 136 [.ref 31, .int (nI 0), .int (nI k)] M N (P0 t e) nx Q ↔ Q (some (.int (nI 0))) (uM (uM M 31 9 (nI k)) 31 10 (nI p)) N (P0 t e) nx := by
  have e1 : uM M 31 9 (nI k) 31 4 = nI p := by rw [uM_j (by decide)]; exact h4
  have e2 : uM (uM M 31 9 (nI k)) 31 10 (nI p) 31 9 = nI k := by rw [uM_j (by decide), uM_k]
  have e3 : ¬ k = 0 := by omega
  simp only [A136, B136_0, B136_7, B136_11, B136_24, B136_35, B136_36, false_imp_iff, true_imp_iff, not_false_eq_true, not_true_eq_false, true_and, and_true, implies_true, qn_self, rI_i, rJ_l, rV_n, okZ0, okZ1, o31 hn, h9, eq_true nI_0, e1, e2, nI_z (show k < 2 ^ 31 by omega), e3, okZ0]
theorem s138 (hn : 44 ≤ nx) {p k : Nat} (hk : k < 8) (hO : RO M N B n p) : aSem (d + 2) 138 [.ref 31, .retAddr (k + 1)] M N (P0 t e) nx Q ↔ Q (some (.int (if kwT B n p = k then nI 1 else nI 0))) M N (P0 t e) nx := by
  have h5 := tK_le (B := B) (n := n) (p := p)
  unfold kwT
  simp only [A138, C138_0, false_imp_iff, true_imp_iff, not_false_eq_true, not_true_eq_false, true_and, and_true, implies_true, qn_self, rI_i, rJ_l, rV_n, okZ0, okZ1, o31 hn, hO.2.2.2.2.1, nI_eq (show tK B n p < 2 ^ 31 by omega) (show 1 < 2 ^ 31 by decide)]
  by_cases z : tK B n p = 1
  · have hv := tV_w z
    have hw := kwV_lt k hk
    simp only [z, false_imp_iff, true_imp_iff, not_false_eq_true, not_true_eq_false, true_and, and_true, implies_true, qn_self, rI_i, rJ_l, rV_n, okZ0, okZ1, C138_8, o31 hn, A137s, hk, hO.2.2.2.2.2.2.1 z, wordL_k k hk, lg_cmp_eq, lNq (show tV B n p < 2 ^ 31 by omega) (show kwV k < 2 ^ 31 by omega), if_true]
    by_cases y : tV B n p = kwV k
    · simp only [y, false_imp_iff, true_imp_iff, not_false_eq_true, not_true_eq_false, true_and, and_true, implies_true, qn_self, rI_i, rJ_l, rV_n, okZ0, okZ1, C138_20, B138_25, okZ1, kwI_j k hk, if_true]
    · have y2 : ¬ kwI (tV B n p) = k := fun x => y ((kwI_V hk).mp x)
      simp only [y, y2, false_imp_iff, true_imp_iff, not_false_eq_true, not_true_eq_false, true_and, and_true, implies_true, qn_self, rI_i, rJ_l, rV_n, okZ0, okZ1, B138_24, B138_25, okZ0, if_false]
  · simp only [z, false_imp_iff, true_imp_iff, not_false_eq_true, not_true_eq_false, true_and, and_true, implies_true, qn_self, rI_i, rJ_l, rV_n, okZ0, okZ1, B138_24, B138_25, okZ0, if_false, show ¬ 8 = k by omega]
theorem s139 (hn : 44 ≤ nx) {p : Nat} (hO : RO M N B n p) : aSem (d + 3) 139 [.ref 31] M N (P0 t e) nx Q ↔ Q (some (.int (if isN B n p = true then nI 1 else nI 0))) M N (P0 t e) nx := by
  have h5 := tK_le (B := B) (n := n) (p := p)
  have k8 := kwT_le (B := B) (n := n) (p := p)
  simp only [A139, B139_0, false_imp_iff, true_imp_iff, not_false_eq_true, not_true_eq_false, true_and, and_true, implies_true, qn_self, rI_i, rJ_l, rV_n, okZ0, okZ1, o31 hn, hO.2.2.2.2.1, nI_eq (show tK B n p < 2 ^ 31 by omega) (show 1 < 2 ^ 31 by decide)]
  by_cases z : tK B n p = 1
  · by_cases w : kwT B n p = 8
    · simp only [z, w, false_imp_iff, true_imp_iff, not_false_eq_true, not_true_eq_false, true_and, and_true, implies_true, qn_self, rI_i, rJ_l, rV_n, okZ0, okZ1, B139_8, B139_17, B139_26, B139_35, B139_44, B139_53, B139_62, B139_71, B139_80, B139_85, o31 hn, s138 hn (show 0 < 8 by decide) hO, s138 hn (show 1 < 8 by decide) hO, s138 hn (show 2 < 8 by decide) hO, s138 hn (show 3 < 8 by decide) hO, s138 hn (show 4 < 8 by decide) hO, s138 hn (show 5 < 8 by decide) hO, s138 hn (show 6 < 8 by decide) hO, s138 hn (show 7 < 8 by decide) hO, show ¬ (8 = 0) by decide, show ¬ (8 = 1) by decide, show ¬ (8 = 2) by decide, show ¬ (8 = 3) by decide, show ¬ (8 = 4) by decide, show ¬ (8 = 5) by decide, show ¬ (8 = 6) by decide, show ¬ (8 = 7) by decide, if_false, eq_true nI_0, okZ1, if_pos (isN_k.mpr ⟨z, w⟩)]
    · rw [if_neg (fun y => w (isN_k.mp y).2)]
      rcases (show kwT B n p = 0 ∨ kwT B n p = 1 ∨ kwT B n p = 2 ∨ kwT B n p = 3 ∨ kwT B n p = 4 ∨ kwT B n p = 5 ∨ kwT B n p = 6 ∨ kwT B n p = 7 by omega) with q | q | q | q | q | q | q | q
      all_goals simp only [z, q, false_imp_iff, true_imp_iff, not_false_eq_true, not_true_eq_false, true_and, and_true, implies_true, qn_self, rI_i, rJ_l, rV_n, okZ0, okZ1, B139_8, B139_17, B139_26, B139_35, B139_44, B139_53, B139_62, B139_71, B139_84, B139_85, o31 hn, s138 hn (show 0 < 8 by decide) hO, s138 hn (show 1 < 8 by decide) hO, s138 hn (show 2 < 8 by decide) hO, s138 hn (show 3 < 8 by decide) hO, s138 hn (show 4 < 8 by decide) hO, s138 hn (show 5 < 8 by decide) hO, s138 hn (show 6 < 8 by decide) hO, s138 hn (show 7 < 8 by decide) hO, if_false, if_true, eq_true nI_0, one0, okZ0, show ¬ (1 = 0) by decide, show ¬ (2 = 0) by decide, show ¬ (2 = 1) by decide, show ¬ (3 = 0) by decide, show ¬ (3 = 1) by decide, show ¬ (3 = 2) by decide, show ¬ (3 = 4) by decide, show ¬ (3 = 5) by decide, show ¬ (4 = 0) by decide, show ¬ (4 = 1) by decide, show ¬ (4 = 2) by decide, show ¬ (4 = 3) by decide, show ¬ (5 = 0) by decide, show ¬ (5 = 1) by decide, show ¬ (5 = 2) by decide, show ¬ (5 = 3) by decide, show ¬ (5 = 4) by decide, show ¬ (6 = 0) by decide, show ¬ (6 = 1) by decide, show ¬ (6 = 2) by decide, show ¬ (6 = 3) by decide, show ¬ (6 = 4) by decide, show ¬ (6 = 5) by decide, show ¬ (7 = 0) by decide, show ¬ (7 = 1) by decide, show ¬ (7 = 2) by decide, show ¬ (7 = 3) by decide, show ¬ (7 = 4) by decide, show ¬ (7 = 5) by decide, show ¬ (7 = 6) by decide]
  · simp only [z, false_imp_iff, true_imp_iff, not_false_eq_true, not_true_eq_false, true_and, and_true, implies_true, qn_self, rI_i, rJ_l, rV_n, okZ0, okZ1, B139_84, B139_85, okZ0, if_neg (fun y => z (isN_k.mp y).1)]
theorem s141 (hn : 44 ≤ nx) (h : RR M0 N0 S M N) {k : Nat} (hk : k < 4) : aSem (d + 1) 141 [.ref 31, .int (nI k)] M N (P0 t e) nx Q ↔ Q (some (.int (nI (S.1 k)))) M N (P0 t e) nx := by
  simp only [A141, B141_0, false_imp_iff, true_imp_iff, not_false_eq_true, not_true_eq_false, true_and, and_true, implies_true, qn_self, rI_i, rJ_l, rV_n, okZ0, okZ1, o31 hn, exP (show P0 t e 31 13 = some 33 from rfl), h.2.2.2.1, nI_mul, nI_add, x33 hn (show 4 * 1 + k < 8 by omega), show 4 * 1 + k = 4 + k by omega, h.2.2.2.2.1 k hk]
theorem x34 (hn : 44 ≤ nx) {K : Nat} {R : Nat → Prop} (h : K < 64) : (∃ k, okA nx 34 4 (nI K) k ∧ R k) ↔ R K := exA (show kindOf 34 = (4, 64) from rfl) (by omega) (by decide) h
theorem cle (hS : PW S) {k : Nat} (hk : k < 4) : S.1 k ≤ 6 := by
  have := hS.1
  unfold wfC at this
  rcases (show k = 0 ∨ k = 1 ∨ k = 2 ∨ k = 3 by omega) with rfl | rfl | rfl | rfl <;> omega
theorem l142 (hn : 44 ≤ nx) (h : RR M0 N0 S M N) (hS : PW S) {p k : Nat} (hk : k < 4) (hv : tV B n p < 2 ^ 30) (h8 : N 31 8 = lN (tV B n p)) (hN : (∀ i, ¬ (tV B n p, k, i) ∈ S.2.2.2.1) → Q (some (.int ng1)) M N (P0 t e) nx) (hY : ∀ i, (tV B n p, k, i) ∈ S.2.2.2.1 → Q (some (.int (nI i))) M N (P0 t e) nx) : ∀ m i, i + m = S.1 k → (∀ j, j < i → ¬ (tV B n p, k, j) ∈ S.2.2.2.1) → WP (aSem (d + 1)) g0 142 nx (qn nx Q) 2 [(0, .ref 31), (1, .int (nI k)), (2, .int (nI i))] [] M N (P0 t e) nx := by
  have hc := cle hS hk
  have hEW := hS.2.2.2.2.1
  intro m
  induction m with
  | zero =>
    intro i hi hno
    simp only [B142_2, B142_46, false_imp_iff, true_imp_iff, not_false_eq_true, not_true_eq_false, true_and, and_true, implies_true, qn_self, rI_i, rJ_l, rV_n, okZ0, okZ1, o31 hn, s141 hn h hk, nI_le (show S.1 k ≤ i by omega) (show i < 2 ^ 31 by omega)]
    refine hN (fun j hj => hno j ?_ hj)
    have hj2 : j < S.1 k := (hEW.1 _ hj).2.2
    omega
  | succ m ih =>
    intro i hi hno
    obtain ⟨w, hw⟩ := hEW.2.1 k hk i (by omega)
    have hw2 : w < 2 ^ 30 := (hEW.1 _ hw).1
    have hN34 : N 34 (32 + 8 * k + i) = lN w := h.2.2.2.2.2.1 _ hw
    have ei : nI 32 * nI 1 + nI 8 * nI k + nI i = nI (32 + 8 * k + i) := by rw [nI_mul, nI_mul, nI_add, nI_add]
    simp only [B142_2, false_imp_iff, true_imp_iff, not_false_eq_true, not_true_eq_false, true_and, and_true, implies_true, qn_self, rI_i, rJ_l, rV_n, okZ0, okZ1, o31 hn, s141 hn h hk, nI_ge (show i < S.1 k by omega) (show S.1 k < 2 ^ 31 by omega)]
    simp only [B142_11, B142_38, B142_40, false_imp_iff, true_imp_iff, not_false_eq_true, not_true_eq_false, true_and, and_true, implies_true, qn_self, rI_i, rJ_l, rV_n, okZ0, okZ1, o31 hn, exP (show P0 t e 31 14 = some 34 from rfl), h.2.2.2.1, ei, x34 hn (show 32 + 8 * k + i < 64 by omega), hN34, h8, lg_cmp_eq, lNq (show w < 2 ^ 31 by omega) (show tV B n p < 2 ^ 31 by omega), nI_add]
    refine ⟨fun z => ?_, fun z => ?_⟩
    · refine ih (i + 1) (by omega) (fun j hj hin => ?_)
      by_cases y : j = i
      · subst y
        have a1 : N 34 (32 + 8 * k + j) = lN (tV B n p) := h.2.2.2.2.2.1 _ hin
        rw [hN34, lNq (by omega) (by omega)] at a1
        exact z a1
      · exact hno j (by omega) hin
    · rw [z] at hw
      exact hY i hw
theorem s142 (hn : 44 ≤ nx) (h : RR M0 N0 S M N) (hS : PW S) {p k : Nat} (hk : k < 4) (hO : RO M N B n p) (hK : tK B n p = 1) (hN : (∀ i, ¬ (tV B n p, k, i) ∈ S.2.2.2.1) → Q (some (.int ng1)) M N (P0 t e) nx) (hY : ∀ i, (tV B n p, k, i) ∈ S.2.2.2.1 → Q (some (.int (nI i))) M N (P0 t e) nx) : aSem (d + 2) 142 [.ref 31, .int (nI k)] M N (P0 t e) nx Q := by
  simp only [A142, B142_0]
  exact l142 hn h hS hk (tV_w hK) (hO.2.2.2.2.2.2.1 hK) hN hY (S.1 k) 0 (by omega) (fun j hj => by omega)
theorem s143 (hn : 44 ≤ nx) (h : RR M0 N0 S M N) (hS : PW S) {p : Nat} (hO : RO M N B n p) (hK : tK B n p = 1) (hQ : Q (some (.int (if lkA S.2.2.2.1 (tV B n p) = true then nI 1 else nI 0))) M N (P0 t e) nx) : aSem (d + 3) 143 [.ref 31] M N (P0 t e) nx Q := by
  have hEW := hS.2.2.2.2.1
  have yes : ∀ k i, k < 4 → (tV B n p, k, i) ∈ S.2.2.2.1 → i < 2 ^ 31 ∧ WP (aSem (d + 2)) g0 143 nx (qn nx Q) 32 [] [] M N (P0 t e) nx := by
    intro k i hk hin
    have hc := cle hS hk
    have : i < S.1 k := (hEW.1 _ hin).2.2
    refine ⟨by omega, ?_⟩
    simp only [B143_32, B143_37, false_imp_iff, true_imp_iff, not_false_eq_true, not_true_eq_false, true_and, and_true, implies_true, qn_self, rI_i, rJ_l, rV_n, okZ0, okZ1, okZ1]
    rw [if_pos (lkA_t.mpr ⟨_, hin, rfl⟩)] at hQ
    exact hQ
  simp only [A143, B143_0, false_imp_iff, true_imp_iff, not_false_eq_true, not_true_eq_false, true_and, and_true, implies_true, qn_self, rI_i, rJ_l, rV_n, okZ0, okZ1, o31 hn]
  refine s142 hn h hS (show 0 < 4 by decide) hO hK (fun h0 => ?_) (fun i hi => ?_)
  · simp only [false_imp_iff, true_imp_iff, not_false_eq_true, not_true_eq_false, true_and, and_true, implies_true, qn_self, rI_i, rJ_l, rV_n, okZ0, okZ1, ng1_ge0, B143_8, o31 hn]
    refine s142 hn h hS (show 1 < 4 by decide) hO hK (fun h1 => ?_) (fun i hi => ?_)
    · simp only [false_imp_iff, true_imp_iff, not_false_eq_true, not_true_eq_false, true_and, and_true, implies_true, qn_self, rI_i, rJ_l, rV_n, okZ0, okZ1, ng1_ge0, B143_16, o31 hn]
      refine s142 hn h hS (show 2 < 4 by decide) hO hK (fun h2 => ?_) (fun i hi => ?_)
      · simp only [false_imp_iff, true_imp_iff, not_false_eq_true, not_true_eq_false, true_and, and_true, implies_true, qn_self, rI_i, rJ_l, rV_n, okZ0, okZ1, ng1_ge0, B143_24, o31 hn]
        refine s142 hn h hS (show 3 < 4 by decide) hO hK (fun h3 => ?_) (fun i hi => ?_)
        · simp only [false_imp_iff, true_imp_iff, not_false_eq_true, not_true_eq_false, true_and, and_true, implies_true, qn_self, rI_i, rJ_l, rV_n, okZ0, okZ1, ng1_lt0, B143_36, B143_37, okZ0]
          have hA : ¬ lkA S.2.2.2.1 (tV B n p) = true := by
            intro y
            obtain ⟨x, hx, hx2⟩ := lkA_t.mp y
            have hx4 := (hEW.1 x hx).2.1
            have ex : x = (tV B n p, x.2.1, x.2.2) := by rw [← hx2]
            rcases (show x.2.1 = 0 ∨ x.2.1 = 1 ∨ x.2.1 = 2 ∨ x.2.1 = 3 by omega) with q | q | q | q
            · rw [q] at ex; rw [ex] at hx; exact h0 _ hx
            · rw [q] at ex; rw [ex] at hx; exact h1 _ hx
            · rw [q] at ex; rw [ex] at hx; exact h2 _ hx
            · rw [q] at ex; rw [ex] at hx; exact h3 _ hx
          rw [if_neg hA] at hQ
          exact hQ
        · have y := yes 3 i (by decide) hi
          simp only [false_imp_iff, true_imp_iff, not_false_eq_true, not_true_eq_false, true_and, and_true, implies_true, qn_self, rI_i, rJ_l, rV_n, okZ0, okZ1, nI_pos y.1]; exact y.2
      · have y := yes 2 i (by decide) hi
        simp only [false_imp_iff, true_imp_iff, not_false_eq_true, not_true_eq_false, true_and, and_true, implies_true, qn_self, rI_i, rJ_l, rV_n, okZ0, okZ1, nI_ge0 y.1]; exact y.2
    · have y := yes 1 i (by decide) hi
      simp only [false_imp_iff, true_imp_iff, not_false_eq_true, not_true_eq_false, true_and, and_true, implies_true, qn_self, rI_i, rJ_l, rV_n, okZ0, okZ1, nI_ge0 y.1]; exact y.2
  · have y := yes 0 i (by decide) hi
    simp only [false_imp_iff, true_imp_iff, not_false_eq_true, not_true_eq_false, true_and, and_true, implies_true, qn_self, rI_i, rJ_l, rV_n, okZ0, okZ1, nI_ge0 y.1]; exact y.2
/-- on to the next token -/
theorem nxt135 (hn : 44 ≤ nx) (hb : BY M0 32 n B) (h : RR M0 N0 S M N) {q : Nat} (hO : RO M N B n q) (hQ : ∀ M' N', RR M0 N0 S M' N' → RO M' N' B n (tE B n q) → eqH M M' → eqJ N N' → Q none M' N' (P0 t e) nx) : aSem (d + 2) 135 [.ref 31] M N (P0 t e) nx Q :=
  s135 hn (h.by hb) hO.2.2.1 hO.2.1 (tE_ge hO.2.2.2.2.2.2.2).2.1 hO.2.2.2.1 (fun M' N' he hj hr => hQ M' N' (h.h he hj) hr he hj)
theorem s144 (hn : 44 ≤ nx) (hb : BY M0 32 n B) (h : RR M0 N0 S M N) (hS : PW S) {q : Nat} (hO : RO M N B n q) (hF : ∀ M' N' c, (∀ f, nameM B n S.2.2.2.1 q f = .error c) → FR M0 N0 c M' N' → Q (some (.int (nI 0))) M' N' (P0 t e) nx) (hY : ∀ M' N', (∀ f, nameM B n S.2.2.2.1 q f = f (tV B n q) (tE B n q)) → ¬ lkA S.2.2.2.1 (tV B n q) = true → tV B n q < 2 ^ 30 → N' 31 23 = lN (tV B n q) → RR M0 N0 S M' N' → RO M' N' B n (tE B n q) → Q (some (.int (nI 1))) M' N' (P0 t e) nx) : aSem (d + 4) 144 [.ref 31] M N (P0 t e) nx Q := by
  simp only [A144, B144_0, false_imp_iff, true_imp_iff, not_false_eq_true, not_true_eq_false, true_and, and_true, implies_true, qn_self, rI_i, rJ_l, rV_n, okZ0, okZ1, o31 hn, s139 hn hO]
  by_cases z : isN B n q = true
  · have z1 := (isN_k.mp z).1
    simp only [z, if_true, s136t hn h.2.2.1, one0, false_imp_iff, true_imp_iff, not_false_eq_true, not_true_eq_false, true_and, and_true, implies_true, qn_self, rI_i, rJ_l, rV_n, okZ0, okZ1, B144_12, o31 hn]
    refine s143 hn h hS hO z1 ?_
    by_cases y : lkA S.2.2.2.1 (tV B n q) = true
    · simp only [y, if_true, one0, false_imp_iff, true_imp_iff, not_false_eq_true, not_true_eq_false, true_and, and_true, implies_true, qn_self, rI_i, rJ_l, rV_n, okZ0, okZ1, B144_24, B144_25, o31 hn, s136f hn h.2.2.1 hO.1 (show 0 < 2 by decide) (show 2 < 6 by decide), eq_true nI_0, B144_32, okZ0]
      exact hF _ _ _ (fun f => by unfold nameM; rw [if_pos z, if_pos y]) (h.fr rfl)
    · simp only [y, if_false, Bool.false_eq_true, eq_true nI_0, false_imp_iff, true_imp_iff, not_false_eq_true, not_true_eq_false, true_and, and_true, implies_true, qn_self, rI_i, rJ_l, rV_n, okZ0, okZ1, B144_20, B144_25, o31 hn, s136t hn h.2.2.1, one0, B144_34, hO.2.2.2.2.2.2.1 z1]
      have h' : RR M0 N0 S M (uN N 31 23 (lN (tV B n q))) := ⟨h.1, fun a x y => by rw [uN_ne x]; exact h.2.1 a x y, h.2.2.1, h.2.2.2.1, h.2.2.2.2.1, fun x hx => by rw [uN_ne (show 34 ≠ 31 by decide)]; exact h.2.2.2.2.2.1 x hx, h.2.2.2.2.2.2⟩
      have hO' : RO M (uN N 31 23 (lN (tV B n q))) B n q := ⟨hO.1, hO.2.1, hO.2.2.1, hO.2.2.2.1, hO.2.2.2.2.1, hO.2.2.2.2.2.1, fun w => by rw [uN_j (by decide)]; exact hO.2.2.2.2.2.2.1 w, hO.2.2.2.2.2.2.2⟩
      refine nxt135 hn hb h' hO' (fun M1 N1 h1 hO1 he1 hj1 => ?_)
      simp only [false_imp_iff, true_imp_iff, not_false_eq_true, not_true_eq_false, true_and, and_true, implies_true, qn_self, rI_i, rJ_l, rV_n, okZ0, okZ1, okZ1]
      exact hY M1 N1 (fun f => by unfold nameM; rw [if_pos z, if_neg y]) y (tV_w z1) (by rw [hj1.2 23 (by decide), uN_k]) h1 hO1
  · simp only [z, if_false, Bool.false_eq_true, s136f hn h.2.2.1 hO.1 (show 0 < 1 by decide) (show 1 < 6 by decide), eq_true nI_0, false_imp_iff, true_imp_iff, not_false_eq_true, not_true_eq_false, true_and, and_true, implies_true, qn_self, rI_i, rJ_l, rV_n, okZ0, okZ1, B144_32, okZ0]
    exact hF _ _ _ (fun f => by unfold nameM; rw [if_neg z]) (h.fr rfl)
theorem s140 (hn : 44 ≤ nx) (hb : BY M0 32 n B) (h : RR M0 N0 S M N) {q hi : Nat} (hh : hi < 100) (hO : RO M N B n q) (hF : ∀ M' N' c, (∀ f, numM B n hi q f = .error c) → FR M0 N0 c M' N' → Q (some (.int (nI 0))) M' N' (P0 t e) nx) (hY : ∀ M' N', (∀ f, numM B n hi q f = f (tV B n q) (tE B n q)) → tV B n q ≤ hi → M' 31 11 = nI (tV B n q) → N' 31 23 = N 31 23 → RR M0 N0 S M' N' → RO M' N' B n (tE B n q) → Q (some (.int (nI 1))) M' N' (P0 t e) nx) : aSem (d + 3) 140 [.ref 31, .int (nI 0), .int (nI hi)] M N (P0 t e) nx Q := by
  have h5 := tK_le (B := B) (n := n) (p := q)
  simp only [A140, B140_0, false_imp_iff, true_imp_iff, not_false_eq_true, not_true_eq_false, true_and, and_true, implies_true, qn_self, rI_i, rJ_l, rV_n, okZ0, okZ1, o31 hn, hO.2.2.2.2.1, nI_eq (show tK B n q < 2 ^ 31 by omega) (show 2 < 2 ^ 31 by decide)]
  refine ⟨fun z => ?_, fun z => ?_⟩
  · simp only [B140_13, B140_14, false_imp_iff, true_imp_iff, not_false_eq_true, not_true_eq_false, true_and, and_true, implies_true, qn_self, rI_i, rJ_l, rV_n, okZ0, okZ1, o31 hn, s136f hn h.2.2.1 hO.1 (show 0 < 1 by decide) (show 1 < 6 by decide), eq_true nI_0, B140_41, okZ0]
    exact hF _ _ _ (fun f => by unfold numM; rw [if_neg z]) (h.fr rfl)
  · have hv := tV_d z
    have h7 := hO.2.2.2.2.2.1 z
    have ew : (lN 0 ≤ (nI (tV B n q)).toInt64 ∧ (nI (tV B n q)).toInt64 ≤ lN hi) ↔ tV B n q ≤ hi := by
      rw [wi_n (by decide) (by omega) (by omega)]; omega
    simp only [B140_9, B140_14, false_imp_iff, true_imp_iff, not_false_eq_true, not_true_eq_false, true_and, and_true, implies_true, qn_self, rI_i, rJ_l, rV_n, okZ0, okZ1, o31 hn, s136t hn h.2.2.1, one0, B140_21, h7, s131, nI_l (show 0 < 2 ^ 31 by decide), nI_l (show hi < 2 ^ 31 by omega), ew]
    by_cases y : tV B n q ≤ hi
    · simp only [y, if_true, s136t hn h.2.2.1, one0, false_imp_iff, true_imp_iff, not_false_eq_true, not_true_eq_false, true_and, and_true, implies_true, qn_self, rI_i, rJ_l, rV_n, okZ0, okZ1, B140_43, o31 hn, h7]
      refine nxt135 hn hb (h.u (v := nI (tV B n q)) (Or.inl rfl)) (hO.u (Or.inl rfl)) (fun M1 N1 h1 hO1 he1 hj1 => ?_)
      simp only [false_imp_iff, true_imp_iff, not_false_eq_true, not_true_eq_false, true_and, and_true, implies_true, qn_self, rI_i, rJ_l, rV_n, okZ0, okZ1, okZ1]
      exact hY M1 N1 (fun f => by unfold numM; rw [if_pos z, if_pos y]) y (by rw [he1.2 11 (by decide) (by decide) (by decide) (by decide), uM_k]) (hj1.2 23 (by decide)) h1 hO1
    · simp only [y, if_false, s136f hn h.2.2.1 hO.1 (show 0 < 4 by decide) (show 4 < 6 by decide), eq_true nI_0, false_imp_iff, true_imp_iff, not_false_eq_true, not_true_eq_false, true_and, and_true, implies_true, qn_self, rI_i, rJ_l, rV_n, okZ0, okZ1, B140_41, okZ0]
      exact hF _ _ _ (fun f => by unfold numM; rw [if_pos z, if_neg y]) (h.fr rfl)
theorem s146 (hn : 44 ≤ nx) (hb : BY M0 32 n B) (h : RR M0 N0 S M N) (hS : PW S) {q k : Nat} (hk : k < 4) (hO : RO M N B n q) (hF : ∀ M' N' c, (∀ f, refM B n S.2.2.2.1 k q f = .error c) → FR M0 N0 c M' N' → Q (some (.int (nI 0))) M' N' (P0 t e) nx) (hY : ∀ M' N' i, (∀ f, refM B n S.2.2.2.1 k q f = f i (tE B n q)) → i < S.1 k → M' 31 24 = nI i → N' 31 23 = N 31 23 → RR M0 N0 S M' N' → RO M' N' B n (tE B n q) → Q (some (.int (nI 1))) M' N' (P0 t e) nx) : aSem (d + 4) 146 [.ref 31, .int (nI k)] M N (P0 t e) nx Q := by
  have hEW := hS.2.2.2.2.1
  have hc := cle hS hk
  simp only [A146, B146_0, false_imp_iff, true_imp_iff, not_false_eq_true, not_true_eq_false, true_and, and_true, implies_true, qn_self, rI_i, rJ_l, rV_n, okZ0, okZ1, o31 hn, s139 hn hO]
  by_cases z : isN B n q = true
  · have z1 := (isN_k.mp z).1
    simp only [z, if_true, s136t hn h.2.2.1, one0, false_imp_iff, true_imp_iff, not_false_eq_true, not_true_eq_false, true_and, and_true, implies_true, qn_self, rI_i, rJ_l, rV_n, okZ0, okZ1, B146_14, o31 hn]
    refine s142 hn h hS hk hO z1 (fun hno => ?_) (fun i hi => ?_)
    · have e24 : uM M 31 24 ng1 31 24 = ng1 := uM_k
      have h' := h.u (k := 24) (v := ng1) (Or.inr rfl)
      have hO' := hO.u (k := 24) (v := ng1) (Or.inr rfl)
      simp only [false_imp_iff, true_imp_iff, not_false_eq_true, not_true_eq_false, true_and, and_true, implies_true, qn_self, rI_i, rJ_l, rV_n, okZ0, okZ1, o31 hn, e24, ng1_lt0, B146_35, B146_36, s136f hn h'.2.2.1 hO'.1 (show 0 < 3 by decide) (show 3 < 6 by decide), eq_true nI_0, B146_43, okZ0]
      exact hF _ _ _ (fun f => by unfold refM; rw [if_pos z, lkF_no (E := S.2.2.2.1) (k := k) (w := tV B n q) hno]) (h'.fr rfl)
    · have hi2 : i < S.1 k := (hEW.1 _ hi).2.2
      have e24 : uM M 31 24 (nI i) 31 24 = nI i := uM_k
      have h' := h.u (k := 24) (v := nI i) (Or.inr rfl)
      have hO' := hO.u (k := 24) (v := nI i) (Or.inr rfl)
      simp only [false_imp_iff, true_imp_iff, not_false_eq_true, not_true_eq_false, true_and, and_true, implies_true, qn_self, rI_i, rJ_l, rV_n, okZ0, okZ1, o31 hn, e24, nI_pos (show i < 2 ^ 31 by omega), B146_31, B146_36, s136t hn h'.2.2.1, one0, B146_45]
      refine nxt135 hn hb h' hO' (fun M1 N1 h1 hO1 he1 hj1 => ?_)
      simp only [false_imp_iff, true_imp_iff, not_false_eq_true, not_true_eq_false, true_and, and_true, implies_true, qn_self, rI_i, rJ_l, rV_n, okZ0, okZ1, okZ1]
      exact hY M1 N1 i (fun f => by unfold refM; rw [if_pos z, lkF_in hEW.2.2.1 hi]) hi2 (by rw [he1.2 24 (by decide) (by decide) (by decide) (by decide)]; exact e24) (hj1.2 23 (by decide)) h1 hO1
  · simp only [z, if_false, Bool.false_eq_true, s136f hn h.2.2.1 hO.1 (show 0 < 1 by decide) (show 1 < 6 by decide), eq_true nI_0, false_imp_iff, true_imp_iff, not_false_eq_true, not_true_eq_false, true_and, and_true, implies_true, qn_self, rI_i, rJ_l, rV_n, okZ0, okZ1, B146_12, okZ0]
    exact hF _ _ _ (fun f => by unfold refM; rw [if_neg z]) (h.fr rfl)
end MRE
