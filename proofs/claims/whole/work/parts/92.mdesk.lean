/-! THE REFERENCE: a line, all lines, desk -/
theorem fill {M : aM} {W : Nat → aM → Prop} {c o N : Nat} {g : Nat → Int32} (hs : ∀ k M', k < N → (∀ a, a ≠ c → M' a = M a) → (∀ j, (j < o ∨ o + N ≤ j) → M' c j = M c j) → W (k + 1) (uM M' c (o + k) (g k)) → W k M') (hf : ∀ M', (∀ a, a ≠ c → M' a = M a) → (∀ k, k < N → M' c (o + k) = g k) → (∀ j, (j < o ∨ o + N ≤ j) → M' c j = M c j) → W N M') : W 0 M := by
  have go : ∀ m k M', k + m = N → (∀ a, a ≠ c → M' a = M a) → (∀ i, i < k → M' c (o + i) = g i) → (∀ j, (j < o ∨ o + N ≤ j) → M' c j = M c j) → W k M' := by
    intro m
    induction m with
    | zero =>
      intro k M' hk h1 h2 h3
      have e : k = N := by omega
      subst e
      exact hf M' h1 h2 h3
    | succ m ih =>
      intro k M' hk h1 h2 h3
      refine hs k M' (by omega) h1 h3 (ih (k + 1) _ (by omega) (fun a ha => by rw [uM_ne ha]; exact h1 a ha) (fun i hi => ?_) (fun j hj => by rw [uM_j (by omega)]; exact h3 j hj))
      by_cases q : i = k
      · subst q; exact uM_k
      · rw [uM_j (by omega)]; exact h2 i (by omega)
  exact go N 0 M (by omega) (fun _ _ => rfl) (fun i hi => by omega) (fun _ _ => rfl)
section MDK
variable {d : Nat} {M0 M : aM} {N0 N : aN} {P : aP} {t e nx n : Nat} {B : Nat → Nat} {S : PSt} {Q : aQ}
def OUTR (M0 : aM) (N0 : aN) (B : Nat → Nat) (n : Nat) (r : ER) (v : Int32) (M : aM) (N : aN) : Prop := match r with
  | .error c => v = nI 0 ∧ FR M0 N0 c M N
  | .ok (S, q) => v = nI 1 ∧ RR M0 N0 S M N ∧ RO M N B n q
theorem f153 (hn : 44 ≤ nx) (hb : BY M0 32 n B) {r : ER} (hQ : ∀ v M' N', OUTR M0 N0 B n r v M' N' → Q (some (.int v)) M' N' (P0 t e) nx) {q : Nat} (hr : r = finM B n S q) (h : RR M0 N0 S M N) (hO : RO M N B n q) : WP (aSem (d + 5)) g0 153 nx (qn nx Q) 214 [(0, .ref 31)] [.int (nI 1)] M N (P0 t e) nx := by
  have h5 := tK_le (B := B) (n := n) (p := q)
  unfold finM at hr
  simp only [B153_214, B153_219, false_imp_iff, true_imp_iff, not_false_eq_true, not_true_eq_false, true_and, and_true, implies_true, qn_self, rI_i, rJ_l, rV_n, okZ0, okZ1, one0, o31 hn, hO.2.2.2.2.1, nI_eq (show tK B n q < 2 ^ 31 by omega) (show 3 < 2 ^ 31 by decide)]
  refine ⟨fun z => ?_, fun z => ?_⟩
  · rw [if_neg z] at hr
    simp only [B153_232, B153_233, false_imp_iff, true_imp_iff, not_false_eq_true, not_true_eq_false, true_and, and_true, implies_true, qn_self, rI_i, rJ_l, rV_n, okZ0, okZ1, o31 hn, s136f hn h.2.2.1 hO.1 (show 0 < 1 by decide) (show 1 < 6 by decide), eq_true nI_0, B153_240, okZ0]
    exact hQ _ _ _ (by rw [hr]; exact ⟨rfl, h.fr rfl⟩)
  · rw [if_pos z] at hr
    simp only [B153_228, B153_233, false_imp_iff, true_imp_iff, not_false_eq_true, not_true_eq_false, true_and, and_true, implies_true, qn_self, rI_i, rJ_l, rV_n, okZ0, okZ1, o31 hn, s136t hn h.2.2.1, one0, B153_242]
    refine nxt135 hn hb h hO (fun M1 N1 h1 hO1 _ _ => ?_)
    simp only [false_imp_iff, true_imp_iff, not_false_eq_true, not_true_eq_false, true_and, and_true, implies_true, qn_self, rI_i, rJ_l, rV_n, okZ0, okZ1, okZ1]
    exact hQ _ _ _ (by rw [hr]; exact ⟨rfl, h1, hO1⟩)
theorem e153 {r : ER} (hQ : ∀ v M' N', OUTR M0 N0 B n r v M' N' → Q (some (.int v)) M' N' (P0 t e) nx) {c : Nat} (hr : r = .error c) (h : FR M0 N0 c M N) : WP (aSem (d + 5)) g0 153 nx (qn nx Q) 214 [(0, .ref 31)] [.int (nI 0)] M N (P0 t e) nx := by
  simp only [B153_214, B153_240, false_imp_iff, true_imp_iff, not_false_eq_true, not_true_eq_false, true_and, and_true, implies_true, qn_self, rI_i, rJ_l, rV_n, okZ0, okZ1, eq_true nI_0, okZ0]
  exact hQ _ _ _ (by rw [hr]; exact ⟨rfl, h⟩)
theorem w153 (hn : 44 ≤ nx) (hb : BY M0 32 n B) (h : RR M0 N0 S M N) (hS : PW S) {p k : Nat} (hO : RO M N B n p) (hk : kwT B n p = k) (hk6 : k < 6) (hQ : ∀ v M' N', OUTR M0 N0 B n (lineM B n S p) v M' N' → Q (some (.int v)) M' N' (P0 t e) nx) : WP (aSem (d + 5)) g0 153 nx (qn nx Q) 79 [(0, .ref 31)] [.int (nI k)] M N (P0 t e) nx := by
  have hc := hS.1
  unfold wfC at hc
  have ek : ∀ j, j < 6 → ((nI k = nI j) ↔ k = j) := fun j hj => nI_eq (by omega) (by omega)
  have ek0 : (nI k = 0) ↔ k = 0 := nI_z (by omega)
  unfold lineM at hQ
  rw [hk, if_neg (by omega)] at hQ
  simp only [B153_79, B153_85, B153_90, false_imp_iff, true_imp_iff, not_false_eq_true, not_true_eq_false, true_and, and_true, implies_true, qn_self, rI_i, rJ_l, rV_n, okZ0, okZ1, nI_pos (show k < 2 ^ 31 by omega), o31 hn, s136t hn h.2.2.1, one0, B153_99, ltN (show 3 < 2 ^ 31 by decide) (show k < 2 ^ 31 by omega)]
  have run : ¬ (k < 4 ∧ mxC k ≤ S.1 k) → WP (aSem (d + 5)) g0 153 nx (qn nx Q) 138 [(0, .ref 31), (1, .int (nI k))] [.int (nI 1), .ref 31] M N (P0 t e) nx := by
    intro hm
    rw [if_neg hm] at hQ
    simp only [B153_138, false_imp_iff, true_imp_iff, not_false_eq_true, not_true_eq_false, true_and, and_true, implies_true, qn_self, rI_i, rJ_l, rV_n, okZ0, okZ1, o31 hn, s136t hn h.2.2.1, one0, B153_147]
    refine nxt135 hn hb h hO (fun M1 N1 h1 hO1 _ _ => ?_)
    simp only [false_imp_iff, true_imp_iff, not_false_eq_true, not_true_eq_false, true_and, and_true, implies_true, qn_self, rI_i, rJ_l, rV_n, okZ0, okZ1, ek0]
    refine ⟨fun z0 => ?_, fun z0 => ?_⟩
    · rw [if_neg z0] at hQ
      simp only [B153_162, false_imp_iff, true_imp_iff, not_false_eq_true, not_true_eq_false, true_and, and_true, implies_true, qn_self, rI_i, rJ_l, rV_n, okZ0, okZ1, ek 1 (by decide)]
      refine ⟨fun z1 => ?_, fun z1 => ?_⟩
      · rw [if_neg z1] at hQ
        simp only [B153_174, false_imp_iff, true_imp_iff, not_false_eq_true, not_true_eq_false, true_and, and_true, implies_true, qn_self, rI_i, rJ_l, rV_n, okZ0, okZ1, ek 2 (by decide)]
        refine ⟨fun z2 => ?_, fun z2 => ?_⟩
        · rw [if_neg z2] at hQ
          simp only [B153_186, false_imp_iff, true_imp_iff, not_false_eq_true, not_true_eq_false, true_and, and_true, implies_true, qn_self, rI_i, rJ_l, rV_n, okZ0, okZ1, ek 3 (by decide)]
          refine ⟨fun z3 => ?_, fun z3 => ?_⟩
          · rw [if_neg z3] at hQ
            simp only [B153_198, false_imp_iff, true_imp_iff, not_false_eq_true, not_true_eq_false, true_and, and_true, implies_true, qn_self, rI_i, rJ_l, rV_n, okZ0, okZ1, ek 4 (by decide)]
            refine ⟨fun z4 => ?_, fun z4 => ?_⟩
            · rw [if_neg z4] at hQ
              simp only [B153_210, false_imp_iff, true_imp_iff, not_false_eq_true, not_true_eq_false, true_and, and_true, implies_true, qn_self, rI_i, rJ_l, rV_n, okZ0, okZ1, o31 hn]
              refine s151 hn hb h1 hS hO1 (fun M2 N2 c hf hfr => ?_) (fun M2 N2 S2 q2 hf h2 hO2 => ?_)
              · simp only [false_imp_iff, true_imp_iff, not_false_eq_true, not_true_eq_false, true_and, and_true, implies_true, qn_self, rI_i, rJ_l, rV_n, okZ0, okZ1]; exact e153 hQ hf hfr
              · simp only [false_imp_iff, true_imp_iff, not_false_eq_true, not_true_eq_false, true_and, and_true, implies_true, qn_self, rI_i, rJ_l, rV_n, okZ0, okZ1]; exact f153 hn hb hQ hf h2 hO2
            · rw [if_pos z4] at hQ
              simp only [B153_203, false_imp_iff, true_imp_iff, not_false_eq_true, not_true_eq_false, true_and, and_true, implies_true, qn_self, rI_i, rJ_l, rV_n, okZ0, okZ1, o31 hn]
              refine s150 hn hb h1 hS hO1 (fun M2 N2 c hf hfr => ?_) (fun M2 N2 S2 q2 hf h2 hO2 => ?_)
              · simp only [false_imp_iff, true_imp_iff, not_false_eq_true, not_true_eq_false, true_and, and_true, implies_true, qn_self, rI_i, rJ_l, rV_n, okZ0, okZ1]; exact e153 hQ hf hfr
              · simp only [false_imp_iff, true_imp_iff, not_false_eq_true, not_true_eq_false, true_and, and_true, implies_true, qn_self, rI_i, rJ_l, rV_n, okZ0, okZ1]; exact f153 hn hb hQ hf h2 hO2
          · rw [if_pos z3] at hQ
            simp only [B153_191, false_imp_iff, true_imp_iff, not_false_eq_true, not_true_eq_false, true_and, and_true, implies_true, qn_self, rI_i, rJ_l, rV_n, okZ0, okZ1, o31 hn]
            refine s152 hn hb h1 hS hO1 (fun M2 N2 c hf hfr => ?_) (fun M2 N2 S2 q2 hf h2 hO2 => ?_)
            · simp only [false_imp_iff, true_imp_iff, not_false_eq_true, not_true_eq_false, true_and, and_true, implies_true, qn_self, rI_i, rJ_l, rV_n, okZ0, okZ1]; exact e153 hQ hf hfr
            · simp only [false_imp_iff, true_imp_iff, not_false_eq_true, not_true_eq_false, true_and, and_true, implies_true, qn_self, rI_i, rJ_l, rV_n, okZ0, okZ1]; exact f153 hn hb hQ hf h2 hO2
        · rw [if_pos z2] at hQ
          simp only [B153_179, false_imp_iff, true_imp_iff, not_false_eq_true, not_true_eq_false, true_and, and_true, implies_true, qn_self, rI_i, rJ_l, rV_n, okZ0, okZ1, o31 hn]
          refine s149 hn hb h1 hS hO1 (fun M2 N2 c hf hfr => ?_) (fun M2 N2 S2 q2 hf h2 hO2 => ?_)
          · simp only [false_imp_iff, true_imp_iff, not_false_eq_true, not_true_eq_false, true_and, and_true, implies_true, qn_self, rI_i, rJ_l, rV_n, okZ0, okZ1]; exact e153 hQ hf hfr
          · simp only [false_imp_iff, true_imp_iff, not_false_eq_true, not_true_eq_false, true_and, and_true, implies_true, qn_self, rI_i, rJ_l, rV_n, okZ0, okZ1]; exact f153 hn hb hQ hf h2 hO2
      · rw [if_pos z1] at hQ
        simp only [B153_167, false_imp_iff, true_imp_iff, not_false_eq_true, not_true_eq_false, true_and, and_true, implies_true, qn_self, rI_i, rJ_l, rV_n, okZ0, okZ1, o31 hn]
        refine s148 hn hb h1 hS hO1 (fun M2 N2 c hf hfr => ?_) (fun M2 N2 S2 q2 hf h2 hO2 => ?_)
        · simp only [false_imp_iff, true_imp_iff, not_false_eq_true, not_true_eq_false, true_and, and_true, implies_true, qn_self, rI_i, rJ_l, rV_n, okZ0, okZ1]; exact e153 hQ hf hfr
        · simp only [false_imp_iff, true_imp_iff, not_false_eq_true, not_true_eq_false, true_and, and_true, implies_true, qn_self, rI_i, rJ_l, rV_n, okZ0, okZ1]; exact f153 hn hb hQ hf h2 hO2
    · rw [if_pos z0] at hQ
      simp only [B153_155, false_imp_iff, true_imp_iff, not_false_eq_true, not_true_eq_false, true_and, and_true, implies_true, qn_self, rI_i, rJ_l, rV_n, okZ0, okZ1, o31 hn]
      refine s147 hn hb h1 hS hO1 (fun M2 N2 c hf hfr => ?_) (fun M2 N2 S2 q2 hf h2 hO2 => ?_)
      · simp only [false_imp_iff, true_imp_iff, not_false_eq_true, not_true_eq_false, true_and, and_true, implies_true, qn_self, rI_i, rJ_l, rV_n, okZ0, okZ1]; exact e153 hQ hf hfr
      · simp only [false_imp_iff, true_imp_iff, not_false_eq_true, not_true_eq_false, true_and, and_true, implies_true, qn_self, rI_i, rJ_l, rV_n, okZ0, okZ1]; exact f153 hn hb hQ hf h2 hO2
  refine ⟨fun z => ?_, fun z => ?_⟩
  · simp only [B153_133]
    exact run (by omega)
  · have hck := cle hS (show k < 4 by omega)
    have full : mxC k ≤ S.1 k → WP (aSem (d + 5)) g0 153 nx (qn nx Q) 138 [(0, .ref 31), (1, .int (nI k))] [.int (nI 0), .ref 31] M N (P0 t e) nx := by
      intro hm
      rw [if_pos ⟨by omega, hm⟩] at hQ
      simp only [B153_138, false_imp_iff, true_imp_iff, not_false_eq_true, not_true_eq_false, true_and, and_true, implies_true, qn_self, rI_i, rJ_l, rV_n, okZ0, okZ1, o31 hn, s136f hn h.2.2.1 hO.1 (show 0 < 5 by decide) (show 5 < 6 by decide), eq_true nI_0, B153_145, okZ0]
      exact hQ _ _ _ ⟨rfl, h.fr rfl⟩
    have cmp : WP (aSem (d + 5)) g0 153 nx (qn nx Q) 130 [(0, .ref 31), (1, .int (nI k))] [.int (nI (mxC k)), .int (nI (S.1 k)), .ref 31] M N (P0 t e) nx := by
      have hm6 : mxC k ≤ 6 := by unfold mxC; split <;> decide
      simp only [B153_130, B153_133, B153_137, nI_leI (show mxC k < 2 ^ 31 by omega) (show S.1 k < 2 ^ 31 by omega)]
      exact ⟨fun y => full y, fun y => run (fun u => y u.2)⟩
    simp only [B153_105, false_imp_iff, true_imp_iff, not_false_eq_true, not_true_eq_false, true_and, and_true, implies_true, qn_self, rI_i, rJ_l, rV_n, okZ0, okZ1, o31 hn, s141 hn h (show k < 4 by omega), nI_leI (show 2 < 2 ^ 31 by decide) (show k < 2 ^ 31 by omega)]
    refine ⟨fun y => ?_, fun y => ?_⟩
    · have em : mxC k = 5 := if_neg (by omega)
      rw [em] at cmp
      simp only [B153_120, B153_125, B153_129]
      exact ⟨fun _ => cmp, fun _ => cmp⟩
    · have em : mxC k = 6 := if_pos (by omega)
      rw [em] at cmp
      simp only [B153_115]
      exact cmp
theorem s153 (hn : 44 ≤ nx) (hb : BY M0 32 n B) (h : RR M0 N0 S M N) (hS : PW S) {p : Nat} (hO : RO M N B n p) (hQ : ∀ v M' N', OUTR M0 N0 B n (lineM B n S p) v M' N' → Q (some (.int v)) M' N' (P0 t e) nx) : aSem (d + 6) 153 [.ref 31] M N (P0 t e) nx Q := by
  simp only [A153, B153_0, false_imp_iff, true_imp_iff, not_false_eq_true, not_true_eq_false, true_and, and_true, implies_true, qn_self, rI_i, rJ_l, rV_n, okZ0, okZ1, o31 hn, s138 hn (show 0 < 8 by decide) hO]
  by_cases z0 : kwT B n p = 0
  · simp only [if_pos z0, one0, false_imp_iff, true_imp_iff, not_false_eq_true, not_true_eq_false, true_and, and_true, implies_true, qn_self, rI_i, rJ_l, rV_n, okZ0, okZ1, B153_9]
    exact w153 hn hb h hS hO z0 (by decide) hQ
  simp only [if_neg z0, eq_true nI_0, false_imp_iff, true_imp_iff, not_false_eq_true, not_true_eq_false, true_and, and_true, implies_true, qn_self, rI_i, rJ_l, rV_n, okZ0, okZ1, B153_13, o31 hn, s138 hn (show 1 < 8 by decide) hO]
  by_cases z1 : kwT B n p = 1
  · simp only [if_pos z1, one0, false_imp_iff, true_imp_iff, not_false_eq_true, not_true_eq_false, true_and, and_true, implies_true, qn_self, rI_i, rJ_l, rV_n, okZ0, okZ1, B153_22]
    exact w153 hn hb h hS hO z1 (by decide) hQ
  simp only [if_neg z1, eq_true nI_0, false_imp_iff, true_imp_iff, not_false_eq_true, not_true_eq_false, true_and, and_true, implies_true, qn_self, rI_i, rJ_l, rV_n, okZ0, okZ1, B153_26, o31 hn, s138 hn (show 2 < 8 by decide) hO]
  by_cases z2 : kwT B n p = 2
  · simp only [if_pos z2, one0, false_imp_iff, true_imp_iff, not_false_eq_true, not_true_eq_false, true_and, and_true, implies_true, qn_self, rI_i, rJ_l, rV_n, okZ0, okZ1, B153_35]
    exact w153 hn hb h hS hO z2 (by decide) hQ
  simp only [if_neg z2, eq_true nI_0, false_imp_iff, true_imp_iff, not_false_eq_true, not_true_eq_false, true_and, and_true, implies_true, qn_self, rI_i, rJ_l, rV_n, okZ0, okZ1, B153_39, o31 hn, s138 hn (show 3 < 8 by decide) hO]
  by_cases z3 : kwT B n p = 3
  · simp only [if_pos z3, one0, false_imp_iff, true_imp_iff, not_false_eq_true, not_true_eq_false, true_and, and_true, implies_true, qn_self, rI_i, rJ_l, rV_n, okZ0, okZ1, B153_48]
    exact w153 hn hb h hS hO z3 (by decide) hQ
  simp only [if_neg z3, eq_true nI_0, false_imp_iff, true_imp_iff, not_false_eq_true, not_true_eq_false, true_and, and_true, implies_true, qn_self, rI_i, rJ_l, rV_n, okZ0, okZ1, B153_52, o31 hn, s138 hn (show 4 < 8 by decide) hO]
  by_cases z4 : kwT B n p = 4
  · simp only [if_pos z4, one0, false_imp_iff, true_imp_iff, not_false_eq_true, not_true_eq_false, true_and, and_true, implies_true, qn_self, rI_i, rJ_l, rV_n, okZ0, okZ1, B153_61]
    exact w153 hn hb h hS hO z4 (by decide) hQ
  simp only [if_neg z4, eq_true nI_0, false_imp_iff, true_imp_iff, not_false_eq_true, not_true_eq_false, true_and, and_true, implies_true, qn_self, rI_i, rJ_l, rV_n, okZ0, okZ1, B153_65, o31 hn, s138 hn (show 5 < 8 by decide) hO]
  by_cases z5 : kwT B n p = 5
  · simp only [if_pos z5, one0, false_imp_iff, true_imp_iff, not_false_eq_true, not_true_eq_false, true_and, and_true, implies_true, qn_self, rI_i, rJ_l, rV_n, okZ0, okZ1, B153_74]
    exact w153 hn hb h hS hO z5 (by decide) hQ
  simp only [if_neg z5, eq_true nI_0, false_imp_iff, true_imp_iff, not_false_eq_true, not_true_eq_false, true_and, and_true, implies_true, qn_self, rI_i, rJ_l, rV_n, okZ0, okZ1, B153_78, B153_79, ng1_lt0, B153_89, B153_90, o31 hn, s136f hn h.2.2.1 hO.1 (show 0 < 1 by decide) (show 1 < 6 by decide), B153_97, okZ0]
  refine hQ _ _ _ ?_
  unfold lineM
  rw [if_pos (by omega)]
  exact ⟨rfl, h.fr rfl⟩
theorem s154 (hn : 44 ≤ nx) (hQ : ∀ M', (∀ a, a ≠ 33 → a ≠ 35 → a ≠ 37 → a ≠ 38 → M' a = M a) → (∀ k, k < 4 → M' 33 k = M 33 k) → (∀ k, k < 4 → M' 33 (4 + k) = nI 0) → (∀ k, k < 8 → M' 35 k = M 35 k) → (∀ k, k < 89 → M' 37 k = nI (row0 k)) → (∀ j, j < 36 → M' 38 j = nI 0) → Q none M' N (P0 t e) nx) : aSem (d + 1) 154 [.ref 31] M N (P0 t e) nx Q := by
  simp only [A154, B154_0]
  refine fill (M := M) (W := fun k M' => WP (aSem d) g0 154 nx (qn nx Q) 2 [(0, .ref 31), (1, .int (nI k))] [] M' N (P0 t e) nx) (c := 37) (o := 0) (N := 89) (g := fun _ => nI 0) (fun k M' hk _ _ hw => ?_) (fun M1 a1 b1 c1 => ?_)
  · simp only [B154_2, false_imp_iff, true_imp_iff, not_false_eq_true, not_true_eq_false, true_and, and_true, implies_true, qn_self, rI_i, rJ_l, rV_n, okZ0, okZ1, nI_ge (show k < 89 by omega) (show 89 < 2 ^ 31 by decide)]
    simp only [B154_8, false_imp_iff, true_imp_iff, not_false_eq_true, not_true_eq_false, true_and, and_true, implies_true, qn_self, rI_i, rJ_l, rV_n, okZ0, okZ1, o31 hn, exP (show P0 t e 31 17 = some 37 from rfl), x37 hn hk, nI_add]
    rw [Nat.zero_add] at hw
    exact hw
  simp only [B154_2, B154_21, false_imp_iff, true_imp_iff, not_false_eq_true, not_true_eq_false, true_and, and_true, implies_true, qn_self, rI_i, rJ_l, rV_n, okZ0, okZ1, nI_le (show 89 ≤ 89 by decide) (show 89 < 2 ^ 31 by decide)]
  refine fill (M := M1) (W := fun k M' => WP (aSem d) g0 154 nx (qn nx Q) 23 [(0, .ref 31), (1, .int (nI k))] [] M' N (P0 t e) nx) (c := 37) (o := 83) (N := 6) (g := fun k => nI k) (fun k M' hk _ _ hw => ?_) (fun M2 a2 b2 c2 => ?_)
  · simp only [B154_23, false_imp_iff, true_imp_iff, not_false_eq_true, not_true_eq_false, true_and, and_true, implies_true, qn_self, rI_i, rJ_l, rV_n, okZ0, okZ1, nI_ge (show k < 6 by omega) (show 6 < 2 ^ 31 by decide)]
    simp only [B154_29, false_imp_iff, true_imp_iff, not_false_eq_true, not_true_eq_false, true_and, and_true, implies_true, qn_self, rI_i, rJ_l, rV_n, okZ0, okZ1, o31 hn, exP (show P0 t e 31 17 = some 37 from rfl), nI_add, x37 hn (show 83 + k < 89 by omega)]
    exact hw
  simp only [B154_23, B154_45, false_imp_iff, true_imp_iff, not_false_eq_true, not_true_eq_false, true_and, and_true, implies_true, qn_self, rI_i, rJ_l, rV_n, okZ0, okZ1, nI_le (show 6 ≤ 6 by decide) (show 6 < 2 ^ 31 by decide)]
  refine fill (M := M2) (W := fun k M' => WP (aSem d) g0 154 nx (qn nx Q) 47 [(0, .ref 31), (1, .int (nI k))] [] M' N (P0 t e) nx) (c := 38) (o := 0) (N := 36) (g := fun _ => nI 0) (fun k M' hk _ _ hw => ?_) (fun M3 a3 b3 c3 => ?_)
  · simp only [B154_47, false_imp_iff, true_imp_iff, not_false_eq_true, not_true_eq_false, true_and, and_true, implies_true, qn_self, rI_i, rJ_l, rV_n, okZ0, okZ1, nI_ge (show k < 36 by omega) (show 36 < 2 ^ 31 by decide)]
    simp only [B154_53, false_imp_iff, true_imp_iff, not_false_eq_true, not_true_eq_false, true_and, and_true, implies_true, qn_self, rI_i, rJ_l, rV_n, okZ0, okZ1, o31 hn, exP (show P0 t e 31 18 = some 38 from rfl), exS3 (show kindOf 38 = (3, 36) from rfl) (show 38 < nx by omega) (by decide) hk okZ0, nI_add]
    rw [Nat.zero_add] at hw
    exact hw
  simp only [B154_47, B154_66, false_imp_iff, true_imp_iff, not_false_eq_true, not_true_eq_false, true_and, and_true, implies_true, qn_self, rI_i, rJ_l, rV_n, okZ0, okZ1, nI_le (show 36 ≤ 36 by decide) (show 36 < 2 ^ 31 by decide)]
  refine fill (M := M3) (W := fun k M' => WP (aSem d) g0 154 nx (qn nx Q) 68 [(0, .ref 31), (1, .int (nI (4 + k)))] [] M' N (P0 t e) nx) (c := 33) (o := 4) (N := 4) (g := fun _ => nI 0) (fun k M' hk _ _ hw => ?_) (fun M4 a4 b4 c4 => ?_)
  · simp only [B154_68, false_imp_iff, true_imp_iff, not_false_eq_true, not_true_eq_false, true_and, and_true, implies_true, qn_self, rI_i, rJ_l, rV_n, okZ0, okZ1, nI_ge (show 4 + k < 8 by omega) (show 8 < 2 ^ 31 by decide)]
    simp only [B154_74, false_imp_iff, true_imp_iff, not_false_eq_true, not_true_eq_false, true_and, and_true, implies_true, qn_self, rI_i, rJ_l, rV_n, okZ0, okZ1, o31 hn, exP (show P0 t e 31 13 = some 33 from rfl), x33 hn (show 4 + k < 8 by omega), nI_add]
    exact hw
  simp only [B154_68, B154_87, false_imp_iff, true_imp_iff, not_false_eq_true, not_true_eq_false, true_and, and_true, implies_true, qn_self, rI_i, rJ_l, rV_n, okZ0, okZ1, nI_le (show 8 ≤ 4 + 4 by decide) (show 4 + 4 < 2 ^ 31 by decide)]
  refine fill (M := M4) (W := fun k M' => WP (aSem d) g0 154 nx (qn nx Q) 90 [(0, .ref 31), (1, .int (nI (8 + k)))] [] M' N (P0 t e) nx) (c := 35) (o := 8) (N := 8) (g := fun _ => nI 0) (fun k M' hk _ _ hw => ?_) (fun M5 a5 b5 c5 => ?_)
  · simp only [B154_90, false_imp_iff, true_imp_iff, not_false_eq_true, not_true_eq_false, true_and, and_true, implies_true, qn_self, rI_i, rJ_l, rV_n, okZ0, okZ1, nI_ge (show 8 + k < 16 by omega) (show 16 < 2 ^ 31 by decide)]
    simp only [B154_96, false_imp_iff, true_imp_iff, not_false_eq_true, not_true_eq_false, true_and, and_true, implies_true, qn_self, rI_i, rJ_l, rV_n, okZ0, okZ1, o31 hn, exP (show P0 t e 31 15 = some 35 from rfl), x35 hn (show 8 + k < 16 by omega), nI_add]
    exact hw
  simp only [B154_90, B154_109, false_imp_iff, true_imp_iff, not_false_eq_true, not_true_eq_false, true_and, and_true, implies_true, qn_self, rI_i, rJ_l, rV_n, okZ0, okZ1, nI_le (show 16 ≤ 8 + 8 by decide) (show 8 + 8 < 2 ^ 31 by decide)]
  refine hQ M5 (fun a x y z w => ?_) (fun k hk => ?_) (fun k hk => ?_) (fun k hk => ?_) (fun k hk => ?_) (fun j hj => ?_)
  · rw [a5 a y, a4 a x, a3 a w, a2 a z, a1 a z]
  · rw [a5 33 (by decide), c4 k (by omega), a3 33 (by decide), a2 33 (by decide), a1 33 (by decide)]
  · rw [a5 33 (by decide)]; exact b4 k hk
  · rw [c5 k (by omega), a4 35 (by decide), a3 35 (by decide), a2 35 (by decide), a1 35 (by decide)]
  · rw [a5 37 (by decide), a4 37 (by decide), a3 37 (by decide)]
    unfold row0
    by_cases q : 83 ≤ k
    · rw [if_pos ⟨q, hk⟩]
      have := b2 (k - 83) (by omega)
      rw [show 83 + (k - 83) = k by omega] at this
      exact this
    · rw [if_neg (by omega), c2 k (by omega)]
      have := b1 k hk
      rw [Nat.zero_add] at this
      exact this
  · rw [a5 38 (by decide), a4 38 (by decide)]
    have := b3 j hj
    rw [Nat.zero_add] at this
    exact this
end MDK
