/-! THE REFERENCE: lines -/
section MLN
variable {d : Nat} {M0 M : aM} {N0 N : aN} {P : aP} {t e nx n : Nat} {B : Nat → Nat} {S : PSt} {Q : aQ}
theorem x37 (hn : 44 ≤ nx) {K : Nat} {R : Nat → Prop} (h : K < 89) : (∃ k, okA nx 37 1 (nI K) k ∧ R k) ↔ R K := exA (show kindOf 37 = (1, 89) from rfl) (by omega) (by decide) h
theorem RR.row {K y : Nat} (h : RR M0 N0 S M N) : RR M0 N0 (S.1, va_up S.2.1 K y, S.2.2) (uM M 37 K (nI y)) N := by
  obtain ⟨h1, h2, h3, h4, h5, h6, h7, h8, h9⟩ := h
  refine ⟨⟨fun a x y z w p => by rw [uM_ne w]; exact h1.1 a x y z w p, fun j hj => by rw [uM_a (by decide)]; exact h1.2.1 j hj, fun j hj => by rw [uM_a (by decide)]; exact h1.2.2.1 j hj, fun j x y z w p q r s => by rw [uM_a (by decide)]; exact h1.2.2.2 j x y z w p q r s⟩, h2, ?_, ?_, ?_, h6, ?_, fun k hk => ?_, ?_⟩
  · rw [uM_a (by decide)]; exact h3
  · rw [uM_a (by decide)]; exact h4
  · rw [uM_ne (show 33 ≠ 37 by decide)]; exact h5
  · rw [uM_ne (show 35 ≠ 37 by decide)]; exact h7
  · show uM M 37 K (nI y) 37 k = nI (va_up S.2.1 K y k)
    by_cases q : k = K
    · subst q; rw [uM_k, up_eq]
    · rw [uM_j q, up_ne q]; exact h8 k hk
  · rw [uM_ne (show 38 ≠ 37 by decide)]; exact h9
theorem RR.law {j : Nat} (h : RR M0 N0 S M N) : RR M0 N0 (S.1, S.2.1, S.2.2.1, S.2.2.2.1, va_up S.2.2.2.2 j true) (uM M 38 j (nI 1)) N := by
  obtain ⟨h1, h2, h3, h4, h5, h6, h7, h8, h9⟩ := h
  refine ⟨⟨fun a x y z w p => by rw [uM_ne p]; exact h1.1 a x y z w p, fun j hj => by rw [uM_a (by decide)]; exact h1.2.1 j hj, fun j hj => by rw [uM_a (by decide)]; exact h1.2.2.1 j hj, fun j x y z w p q r s => by rw [uM_a (by decide)]; exact h1.2.2.2 j x y z w p q r s⟩, h2, ?_, ?_, ?_, h6, ?_, ?_, fun k hk => ?_⟩
  · rw [uM_a (by decide)]; exact h3
  · rw [uM_a (by decide)]; exact h4
  · rw [uM_ne (show 33 ≠ 38 by decide)]; exact h5
  · rw [uM_ne (show 35 ≠ 38 by decide)]; exact h7
  · rw [uM_ne (show 37 ≠ 38 by decide)]; exact h8
  · show uM M 38 j (nI 1) 38 k = if va_up S.2.2.2.2 j true k = true then nI 1 else nI 0
    by_cases q : k = j
    · subst q; rw [uM_k, up_eq, if_pos rfl]
    · rw [uM_j q, up_ne q]; exact h9 k hk
theorem RR.deed {b : Nat} (h : RR M0 N0 S M N) : RR M0 N0 (S.1, S.2.1, va_up S.2.2.1 (S.1 3) b, S.2.2.2) (uM M 35 (8 + S.1 3) (nI b)) N := by
  obtain ⟨h1, h2, h3, h4, h5, h6, h7, h8, h9⟩ := h
  refine ⟨⟨fun a x y z w p => by rw [uM_ne z]; exact h1.1 a x y z w p, fun j hj => by rw [uM_a (by decide)]; exact h1.2.1 j hj, fun j hj => by rw [uM_j (by omega)]; exact h1.2.2.1 j hj, fun j x y z w p q r s => by rw [uM_a (by decide)]; exact h1.2.2.2 j x y z w p q r s⟩, h2, ?_, ?_, ?_, h6, fun k hk => ?_, ?_, ?_⟩
  · rw [uM_a (by decide)]; exact h3
  · rw [uM_a (by decide)]; exact h4
  · rw [uM_ne (show 33 ≠ 35 by decide)]; exact h5
  · have hk2 : k < S.1 3 := hk
    show _ = nI (va_up S.2.2.1 (S.1 3) b k)
    rw [uM_j (by omega), up_ne (by omega)]
    exact h7 k hk2
  · rw [uM_ne (show 37 ≠ 35 by decide)]; exact h8
  · rw [uM_ne (show 38 ≠ 35 by decide)]; exact h9
theorem RO.c {a k q : Nat} {v : Int32} (h : RO M N B n q) (ha : 31 ≠ a) : RO (uM M a k v) N B n q := by
  unfold RO
  rw [uM_ne ha]
  exact h
theorem s145 (hn : 44 ≤ nx) (h : RR M0 N0 S M N) (hS1 : ∀ k, k < 4 → S.1 k ≤ 6) (hE : ∀ x ∈ S.2.2.2.1, x.2.1 < 4 ∧ x.2.2 < S.1 x.2.1) {k w q : Nat} (hk : k < 4) (hO : RO M N B n q) (hd : k = 3 → M 35 (8 + S.1 3) = nI (S.2.2.1 (S.1 3))) (hQ : ∀ M' N', RR M0 N0 (addN S k w S.2.1 S.2.2.1) M' N' → RO M' N' B n q → Q none M' N' (P0 t e) nx) : aSem (d + 2) 145 [.ref 31, .int (nI k), .long (lN w)] M N (P0 t e) nx Q := by
  have hc := hS1 k hk
  have ei : nI 32 * nI 1 + nI 8 * nI k + nI (S.1 k) = nI (32 + 8 * k + S.1 k) := by rw [nI_mul, nI_mul, nI_add, nI_add]
  simp only [A145, B145_0, false_imp_iff, true_imp_iff, not_false_eq_true, not_true_eq_false, true_and, and_true, implies_true, qn_self, rI_i, rJ_l, rV_n, okZ0, okZ1, o31 hn, exP (show P0 t e 31 14 = some 34 from rfl), exP (show P0 t e 31 13 = some 33 from rfl), s141 hn h hk, h.2.2.2.1, ei, x34 hn (show 32 + 8 * k + S.1 k < 64 by omega), nI_mul, nI_add, x33 hn (show 4 * 1 + k < 8 by omega), show 4 * 1 + k = 4 + k by omega, h.2.2.2.2.1 k hk]
  obtain ⟨h1, h2, h3, h4, h5, h6, h7, h8, h9⟩ := h
  refine hQ _ _ ⟨⟨fun a x y z w p => by rw [uM_ne y]; exact h1.1 a x y z w p, fun j hj => by rw [uM_j (by omega)]; exact h1.2.1 j hj, fun j hj => by rw [uM_a (by decide)]; exact h1.2.2.1 j hj, fun j x y z w p q r s => by rw [uM_a (by decide)]; exact h1.2.2.2 j x y z w p q r s⟩, fun a x y => by rw [uN_ne y]; exact h2 a x y, ?_, ?_, fun j hj => ?_, fun x hx => ?_, fun j hj => ?_, ?_, ?_⟩ ?_
  · rw [uM_a (by decide)]; exact h3
  · rw [uM_a (by decide)]; exact h4
  · show _ = nI (va_up S.1 k (S.1 k + 1) j)
    by_cases y : j = k
    · subst y; rw [uM_k, up_eq]
    · rw [uM_j (by omega), up_ne y]; exact h5 j hj
  · have hx2 : x ∈ S.2.2.2.1 ++ [(w, k, S.1 k)] := hx
    rcases List.mem_append.mp hx2 with z | z
    · have g := hE x z
      have g6 := hS1 x.2.1 g.1
      rw [uN_j ?_]
      · exact h6 x z
      · intro y
        have : x.2.1 = k := by omega
        rw [this] at g
        omega
    · rw [List.mem_singleton.mp z]
      show uN N 34 (32 + 8 * k + S.1 k) (lN w) 34 (32 + 8 * k + S.1 k) = lN w
      exact uN_k
  · rw [uM_a (by decide)]
    have hj2 : j < va_up S.1 k (S.1 k + 1) 3 := hj
    show M 35 (8 + j) = nI (S.2.2.1 j)
    by_cases y : k = 3
    · subst y
      rw [up_eq] at hj2
      by_cases u : j = S.1 3
      · rw [u]; exact hd rfl
      · exact h7 j (by omega)
    · rw [up_ne (fun u => y u.symm)] at hj2
      exact h7 j hj2
  · rw [uM_ne (show 37 ≠ 33 by decide)]; exact h8
  · rw [uM_ne (show 38 ≠ 33 by decide)]; exact h9
  · obtain ⟨g1, g2, g3, g4, g5, g6, g7, g8⟩ := hO
    refine ⟨?_, ?_, ?_, g4, ?_, fun z => ?_, fun z => ?_, g8⟩
    · rw [uM_a (by decide)]; exact g1
    · rw [uM_a (by decide)]; exact g2
    · rw [uM_a (by decide)]; exact g3
    · rw [uM_a (by decide)]; exact g5
    · rw [uM_a (by decide)]; exact g6 z
    · rw [uN_ne (by decide)]; exact g7 z
theorem ewE (hS : PW S) : ∀ x ∈ S.2.2.2.1, x.2.1 < 4 ∧ x.2.2 < S.1 x.2.1 := fun x hx => (hS.2.2.2.2.1.1 x hx).2
theorem s147 (hn : 44 ≤ nx) (hb : BY M0 32 n B) (h : RR M0 N0 S M N) (hS : PW S) {q : Nat} (hO : RO M N B n q) (hF : ∀ M' N' c, landM B n S q = .error c → FR M0 N0 c M' N' → Q (some (.int (nI 0))) M' N' (P0 t e) nx) (hY : ∀ M' N' S' q', landM B n S q = finM B n S' q' → RR M0 N0 S' M' N' → RO M' N' B n q' → Q (some (.int (nI 1))) M' N' (P0 t e) nx) : aSem (d + 5) 147 [.ref 31] M N (P0 t e) nx Q := by
  have c0 := cle hS (show 0 < 4 by decide)
  unfold landM at hF hY
  simp only [A147, B147_0, false_imp_iff, true_imp_iff, not_false_eq_true, not_true_eq_false, true_and, and_true, implies_true, qn_self, rI_i, rJ_l, rV_n, okZ0, okZ1, o31 hn]
  refine s144 hn hb h hS hO (fun M1 N1 c hf hfr => ?_) (fun M1 N1 hf hA hv h23 h1 hO1 => ?_)
  · simp only [false_imp_iff, true_imp_iff, not_false_eq_true, not_true_eq_false, true_and, and_true, implies_true, qn_self, rI_i, rJ_l, rV_n, okZ0, okZ1, eq_true nI_0, B147_7, okZ0]
    exact hF _ _ c (hf _) hfr
  · rw [hf] at hF hY
    simp only [false_imp_iff, true_imp_iff, not_false_eq_true, not_true_eq_false, true_and, and_true, implies_true, qn_self, rI_i, rJ_l, rV_n, okZ0, okZ1, one0, B147_9, o31 hn, h23]
    refine s140 hn hb h1 (show 4 < 100 by decide) hO1 (fun M2 N2 c hf2 hfr => ?_) (fun M2 N2 hf2 hv2 h11 h232 h2 hO2 => ?_)
    · simp only [false_imp_iff, true_imp_iff, not_false_eq_true, not_true_eq_false, true_and, and_true, implies_true, qn_self, rI_i, rJ_l, rV_n, okZ0, okZ1, eq_true nI_0, B147_23, okZ0]
      exact hF _ _ c (hf2 _) hfr
    · rw [hf2] at hY
      simp only [false_imp_iff, true_imp_iff, not_false_eq_true, not_true_eq_false, true_and, and_true, implies_true, qn_self, rI_i, rJ_l, rV_n, okZ0, okZ1, one0, B147_25, o31 hn, exP (show P0 t e 31 17 = some 37 from rfl), s141 hn h2 (show 0 < 4 by decide), x37 hn (show S.1 0 < 89 by omega), h11]
      refine s145 hn (S := (S.1, va_up S.2.1 (S.1 0) (tV B n (tE B n q)), S.2.2)) h2.row (fun k hk => cle hS hk) (fun x hx => ewE hS x hx) (show 0 < 4 by decide) (hO2.c (by decide)) (fun z => absurd z (by decide)) (fun M3 N3 h3 hO3 => ?_)
      simp only [false_imp_iff, true_imp_iff, not_false_eq_true, not_true_eq_false, true_and, and_true, implies_true, qn_self, rI_i, rJ_l, rV_n, okZ0, okZ1, okZ1]
      exact hY _ _ _ _ rfl h3 hO3
theorem s148 (hn : 44 ≤ nx) (hb : BY M0 32 n B) (h : RR M0 N0 S M N) (hS : PW S) {q : Nat} (hO : RO M N B n q) (hF : ∀ M' N' c, issueM B n S q = .error c → FR M0 N0 c M' N' → Q (some (.int (nI 0))) M' N' (P0 t e) nx) (hY : ∀ M' N' S' q', issueM B n S q = finM B n S' q' → RR M0 N0 S' M' N' → RO M' N' B n q' → Q (some (.int (nI 1))) M' N' (P0 t e) nx) : aSem (d + 5) 148 [.ref 31] M N (P0 t e) nx Q := by
  unfold issueM at hF hY
  simp only [A148, B148_0, false_imp_iff, true_imp_iff, not_false_eq_true, not_true_eq_false, true_and, and_true, implies_true, qn_self, rI_i, rJ_l, rV_n, okZ0, okZ1, o31 hn]
  refine s144 hn hb h hS hO (fun M1 N1 c hf hfr => ?_) (fun M1 N1 hf hA hv h23 h1 hO1 => ?_)
  · simp only [false_imp_iff, true_imp_iff, not_false_eq_true, not_true_eq_false, true_and, and_true, implies_true, qn_self, rI_i, rJ_l, rV_n, okZ0, okZ1, eq_true nI_0, B148_7, okZ0]
    exact hF _ _ c (hf _) hfr
  · rw [hf] at hF hY
    simp only [false_imp_iff, true_imp_iff, not_false_eq_true, not_true_eq_false, true_and, and_true, implies_true, qn_self, rI_i, rJ_l, rV_n, okZ0, okZ1, one0, B148_9, o31 hn, h23]
    refine s145 hn h1 (fun k hk => cle hS hk) (fun x hx => ewE hS x hx) (show 1 < 4 by decide) hO1 (fun z => absurd z (by decide)) (fun M3 N3 h3 hO3 => ?_)
    simp only [false_imp_iff, true_imp_iff, not_false_eq_true, not_true_eq_false, true_and, and_true, implies_true, qn_self, rI_i, rJ_l, rV_n, okZ0, okZ1, okZ1]
    exact hY _ _ _ _ rfl h3 hO3
theorem s149 (hn : 44 ≤ nx) (hb : BY M0 32 n B) (h : RR M0 N0 S M N) (hS : PW S) {q : Nat} (hO : RO M N B n q) (hF : ∀ M' N' c, factM B n S q = .error c → FR M0 N0 c M' N' → Q (some (.int (nI 0))) M' N' (P0 t e) nx) (hY : ∀ M' N' S' q', factM B n S q = finM B n S' q' → RR M0 N0 S' M' N' → RO M' N' B n q' → Q (some (.int (nI 1))) M' N' (P0 t e) nx) : aSem (d + 5) 149 [.ref 31] M N (P0 t e) nx Q := by
  have c0 := cle hS (show 2 < 4 by decide)
  unfold factM at hF hY
  simp only [A149, B149_0, false_imp_iff, true_imp_iff, not_false_eq_true, not_true_eq_false, true_and, and_true, implies_true, qn_self, rI_i, rJ_l, rV_n, okZ0, okZ1, o31 hn]
  refine s144 hn hb h hS hO (fun M1 N1 c hf hfr => ?_) (fun M1 N1 hf hA hv h23 h1 hO1 => ?_)
  · simp only [false_imp_iff, true_imp_iff, not_false_eq_true, not_true_eq_false, true_and, and_true, implies_true, qn_self, rI_i, rJ_l, rV_n, okZ0, okZ1, eq_true nI_0, B149_7, okZ0]
    exact hF _ _ c (hf _) hfr
  · rw [hf] at hF hY
    simp only [false_imp_iff, true_imp_iff, not_false_eq_true, not_true_eq_false, true_and, and_true, implies_true, qn_self, rI_i, rJ_l, rV_n, okZ0, okZ1, one0, B149_9, o31 hn, h23]
    refine s146 hn hb h1 hS (show 0 < 4 by decide) hO1 (fun M2 N2 c hf2 hfr => ?_) (fun M2 N2 l hf2 hl h24 h232 h2 hO2 => ?_)
    · simp only [false_imp_iff, true_imp_iff, not_false_eq_true, not_true_eq_false, true_and, and_true, implies_true, qn_self, rI_i, rJ_l, rV_n, okZ0, okZ1, eq_true nI_0, B149_22, okZ0]
      exact hF _ _ c (hf2 _) hfr
    · rw [hf2] at hY
      simp only [false_imp_iff, true_imp_iff, not_false_eq_true, not_true_eq_false, true_and, and_true, implies_true, qn_self, rI_i, rJ_l, rV_n, okZ0, okZ1, one0, B149_24, o31 hn, exP (show P0 t e 31 17 = some 37 from rfl), s141 hn h2 (show 2 < 4 by decide), nI_add, x37 hn (show 6 + S.1 2 < 89 by omega), h24]
      refine s145 hn (S := (S.1, va_up S.2.1 (6 + S.1 2) l, S.2.2)) h2.row (fun k hk => cle hS hk) (fun x hx => ewE hS x hx) (show 2 < 4 by decide) (hO2.c (by decide)) (fun z => absurd z (by decide)) (fun M3 N3 h3 hO3 => ?_)
      simp only [false_imp_iff, true_imp_iff, not_false_eq_true, not_true_eq_false, true_and, and_true, implies_true, qn_self, rI_i, rJ_l, rV_n, okZ0, okZ1, okZ1]
      exact hY _ _ _ _ rfl h3 hO3
/-- a name that must be an issue: looked up, not yet passed -/
theorem is139 (hn : 44 ≤ nx) (h : RR M0 N0 S M N) {q : Nat} (hO : RO M N B n q) {K : Int32 → aM → aN → aP → Nat → Prop} (hF : ∀ c, (∀ f, refM B n S.2.2.2.1 1 q f = .error c) → FR M0 N0 c (uM (uM M 31 9 (nI 1)) 31 10 (nI (tP B n q))) N → K (nI 0) (uM (uM M 31 9 (nI 1)) 31 10 (nI (tP B n q))) N (P0 t e) nx) (hY : isN B n q = true → K (nI 1) M N (P0 t e) nx) : okO nx 31 7 ∧ aSem (d + 3) 139 [.ref 31] M N (P0 t e) nx (rI fun r1 M2 N3 P4 nx5 => okO nx5 31 7 ∧ aSem (d + 3) 136 [.ref 31, .int r1, .int (nI 1)] M2 N3 P4 nx5 (rI K)) := by
  refine ⟨o31 hn, ?_⟩
  rw [s139 hn hO]
  simp only [false_imp_iff, true_imp_iff, not_false_eq_true, not_true_eq_false, true_and, and_true, implies_true, qn_self, rI_i, rJ_l, rV_n, okZ0, okZ1]
  refine ⟨o31 hn, ?_⟩
  by_cases z : isN B n q = true
  · rw [if_pos z, s136t hn h.2.2.1]
    simp only [false_imp_iff, true_imp_iff, not_false_eq_true, not_true_eq_false, true_and, and_true, implies_true, qn_self, rI_i, rJ_l, rV_n, okZ0, okZ1]; exact hY z
  · rw [if_neg z, s136f hn h.2.2.1 hO.1 (show 0 < 1 by decide) (show 1 < 6 by decide)]
    simp only [false_imp_iff, true_imp_iff, not_false_eq_true, not_true_eq_false, true_and, and_true, implies_true, qn_self, rI_i, rJ_l, rV_n, okZ0, okZ1]
    exact hF _ (fun f => by unfold refM; rw [if_neg z]) (h.fr rfl)
theorem s150 (hn : 44 ≤ nx) (hb : BY M0 32 n B) (h : RR M0 N0 S M N) (hS : PW S) {q : Nat} (hO : RO M N B n q) (hF : ∀ M' N' c, ruleM B n S q = .error c → FR M0 N0 c M' N' → Q (some (.int (nI 0))) M' N' (P0 t e) nx) (hY : ∀ M' N' S' q', ruleM B n S q = finM B n S' q' → RR M0 N0 S' M' N' → RO M' N' B n q' → Q (some (.int (nI 1))) M' N' (P0 t e) nx) : aSem (d + 5) 150 [.ref 31] M N (P0 t e) nx Q := by
  have hEW := hS.2.2.2.2.1
  have hc := hS.1
  unfold wfC at hc
  unfold ruleM at hF hY
  simp only [A150, B150_0, false_imp_iff, true_imp_iff, not_false_eq_true, not_true_eq_false, true_and, and_true, implies_true, qn_self, rI_i, rJ_l, rV_n, okZ0, okZ1, o31 hn]
  refine s146 hn hb h hS (show 0 < 4 by decide) hO (fun M1 N1 c hf hfr => ?_) (fun M1 N1 l hf hl h24 h23 h1 hO1 => ?_)
  · simp only [false_imp_iff, true_imp_iff, not_false_eq_true, not_true_eq_false, true_and, and_true, implies_true, qn_self, rI_i, rJ_l, rV_n, okZ0, okZ1, eq_true nI_0, B150_8, okZ0]
    exact hF _ _ c (hf _) hfr
  rw [hf] at hF hY
  simp only [false_imp_iff, true_imp_iff, not_false_eq_true, not_true_eq_false, true_and, and_true, implies_true, qn_self, rI_i, rJ_l, rV_n, okZ0, okZ1, one0, B150_10, o31 hn, h24]
  refine (is139 (d := d + 1) hn h1 hO1 (fun c hf1 hfr => ?_) (fun z => ?_)).2
  · simp only [false_imp_iff, true_imp_iff, not_false_eq_true, not_true_eq_false, true_and, and_true, implies_true, qn_self, rI_i, rJ_l, rV_n, okZ0, okZ1, eq_true nI_0, B150_27, okZ0]
    exact hF _ _ c (hf1 _) hfr
  have z1 := (isN_k.mp z).1
  simp only [false_imp_iff, true_imp_iff, not_false_eq_true, not_true_eq_false, true_and, and_true, implies_true, qn_self, rI_i, rJ_l, rV_n, okZ0, okZ1, one0, B150_29, o31 hn]
  refine s142 hn h1 hS (show 1 < 4 by decide) hO1 z1 (fun hno => ?_) (fun i hi => ?_)
  · simp only [false_imp_iff, true_imp_iff, not_false_eq_true, not_true_eq_false, true_and, and_true, implies_true, qn_self, rI_i, rJ_l, rV_n, okZ0, okZ1, ng1_lt0, B150_57, B150_62, o31 hn, s136t hn h1.2.2.1, one0, B150_69, B150_78, B150_79, s136f hn h1.2.2.1 hO1.1 (show 0 < 3 by decide) (show 3 < 6 by decide), eq_true nI_0, B150_86, okZ0]
    refine hF _ _ _ ?_ (h1.fr rfl)
    unfold refM
    rw [if_pos z, lkF_no (E := S.2.2.2.1) (k := 1) (w := tV B n (tE B n q)) hno]
  have hi6 : i < S.1 1 := (hEW.1 _ hi).2.2
  have b9 : S.2.1 (11 + (6 * l + i)) ≤ 2 * S.1 2 := hS.2.1.2.2.1 _ (by omega) (by omega)
  have hf2 : ∀ f, refM B n S.2.2.2.1 1 (tE B n q) f = f i (tE B n (tE B n q)) := fun f => by unfold refM; rw [if_pos z, lkF_in hEW.2.2.1 hi]
  rw [hf2] at hF hY
  simp only [false_imp_iff, true_imp_iff, not_false_eq_true, not_true_eq_false, true_and, and_true, implies_true, qn_self, rI_i, rJ_l, rV_n, okZ0, okZ1, nI_pos (show i < 2 ^ 31 by omega), B150_40, o31 hn, exP (show P0 t e 31 17 = some 37 from rfl), a6, x37 hn (show 11 + (6 * l + i) < 89 by omega), h1.2.2.2.2.2.2.2.1 (11 + (6 * l + i)) (show 11 + (6 * l + i) < 89 by omega), nI_z (show S.2.1 (11 + (6 * l + i)) < 2 ^ 31 by omega)]
  refine ⟨fun y => ?_, fun y => ?_⟩
  · rw [if_neg y] at hF
    simp only [B150_61, B150_62, false_imp_iff, true_imp_iff, not_false_eq_true, not_true_eq_false, true_and, and_true, implies_true, qn_self, rI_i, rJ_l, rV_n, okZ0, okZ1, o31 hn, s136f hn h1.2.2.1 hO1.1 (show 0 < 2 by decide) (show 2 < 6 by decide), eq_true nI_0, B150_86, okZ0]
    exact hF _ _ _ rfl (h1.fr rfl)
  rw [if_pos y] at hF hY
  simp only [B150_57, B150_62, false_imp_iff, true_imp_iff, not_false_eq_true, not_true_eq_false, true_and, and_true, implies_true, qn_self, rI_i, rJ_l, rV_n, okZ0, okZ1, o31 hn, s136t hn h1.2.2.1, one0, B150_69, nI_pos (show i < 2 ^ 31 by omega), B150_74, B150_79, B150_88]
  refine nxt135 hn hb h1 hO1 (fun M2 N2 h2 hO2 he2 hj2 => ?_)
  simp only [false_imp_iff, true_imp_iff, not_false_eq_true, not_true_eq_false, true_and, and_true, implies_true, qn_self, rI_i, rJ_l, rV_n, okZ0, okZ1, o31 hn]
  refine s146 hn hb h2 hS (show 2 < 4 by decide) hO2 (fun M3 N3 c hf3 hfr => ?_) (fun M3 N3 f hf3 hff h243 h233 h3 hO3 => ?_)
  · simp only [false_imp_iff, true_imp_iff, not_false_eq_true, not_true_eq_false, true_and, and_true, implies_true, qn_self, rI_i, rJ_l, rV_n, okZ0, okZ1, eq_true nI_0, B150_100, okZ0]
    exact hF _ _ c (hf3 _) hfr
  rw [hf3] at hF hY
  have e2 : nI 1 + nI 2 * nI f = nI (1 + 2 * f) := by rw [nI_mul, nI_add]
  simp only [false_imp_iff, true_imp_iff, not_false_eq_true, not_true_eq_false, true_and, and_true, implies_true, qn_self, rI_i, rJ_l, rV_n, okZ0, okZ1, one0, B150_102, o31 hn, s138 hn (show 6 < 8 by decide) hO3]
  have fin : ∀ y : Nat, RR M0 N0 (S.1, va_up S.2.1 (11 + (6 * l + i)) y, S.2.2) (uM M3 37 (11 + (6 * l + i)) (nI y)) N3 := fun y => h3.row
  by_cases k6 : kwT B n (tE B n (tE B n (tE B n q))) = 6
  · rw [if_pos k6] at hY
    simp only [if_pos k6, one0, false_imp_iff, true_imp_iff, not_false_eq_true, not_true_eq_false, true_and, and_true, implies_true, qn_self, rI_i, rJ_l, rV_n, okZ0, okZ1, B150_121, B150_126, o31 hn, s136t hn h3.2.2.1, B150_135, exP (show P0 t e 31 17 = some 37 from rfl), s138 hn (show 6 < 8 by decide) hO3, h243, e2, a6, B150_165, B150_170, x37 hn (show 11 + (6 * l + i) < 89 by omega), nI_add]
    refine nxt135 hn hb (fin (1 + 2 * f + 1)) (hO3.c (by decide)) (fun M4 N4 h4 hO4 _ _ => ?_)
    simp only [false_imp_iff, true_imp_iff, not_false_eq_true, not_true_eq_false, true_and, and_true, implies_true, qn_self, rI_i, rJ_l, rV_n, okZ0, okZ1, okZ1]
    refine hY _ _ _ _ ?_ h4 hO4
    rw [show 2 * f + 2 = 1 + 2 * f + 1 by omega]
  · rw [if_neg k6] at hF hY
    simp only [if_neg k6, eq_true nI_0, false_imp_iff, true_imp_iff, not_false_eq_true, not_true_eq_false, true_and, and_true, implies_true, qn_self, rI_i, rJ_l, rV_n, okZ0, okZ1, B150_112, o31 hn, s138 hn (show 7 < 8 by decide) hO3]
    by_cases k7 : kwT B n (tE B n (tE B n (tE B n q))) = 7
    · rw [if_pos k7] at hY
      simp only [if_pos k7, one0, false_imp_iff, true_imp_iff, not_false_eq_true, not_true_eq_false, true_and, and_true, implies_true, qn_self, rI_i, rJ_l, rV_n, okZ0, okZ1, B150_121, B150_126, o31 hn, s136t hn h3.2.2.1, B150_135, exP (show P0 t e 31 17 = some 37 from rfl), s138 hn (show 6 < 8 by decide) hO3, if_neg k6, eq_true nI_0, h243, e2, a6, B150_169, B150_170, x37 hn (show 11 + (6 * l + i) < 89 by omega), nI_add]
      refine nxt135 hn hb (fin (1 + 2 * f + 0)) (hO3.c (by decide)) (fun M4 N4 h4 hO4 _ _ => ?_)
      simp only [false_imp_iff, true_imp_iff, not_false_eq_true, not_true_eq_false, true_and, and_true, implies_true, qn_self, rI_i, rJ_l, rV_n, okZ0, okZ1, okZ1]
      refine hY _ _ _ _ ?_ h4 hO4
      rw [show 2 * f + 1 = 1 + 2 * f + 0 by omega]
    · rw [if_neg k7] at hF
      simp only [if_neg k7, eq_true nI_0, false_imp_iff, true_imp_iff, not_false_eq_true, not_true_eq_false, true_and, and_true, implies_true, qn_self, rI_i, rJ_l, rV_n, okZ0, okZ1, B150_125, B150_126, o31 hn, s136f hn h3.2.2.1 hO3.1 (show 0 < 1 by decide) (show 1 < 6 by decide), B150_133, okZ0]
      exact hF _ _ _ rfl (h3.fr rfl)
theorem s151 (hn : 44 ≤ nx) (hb : BY M0 32 n B) (h : RR M0 N0 S M N) (hS : PW S) {q : Nat} (hO : RO M N B n q) (hF : ∀ M' N' c, lawM B n S q = .error c → FR M0 N0 c M' N' → Q (some (.int (nI 0))) M' N' (P0 t e) nx) (hY : ∀ M' N' S' q', lawM B n S q = finM B n S' q' → RR M0 N0 S' M' N' → RO M' N' B n q' → Q (some (.int (nI 1))) M' N' (P0 t e) nx) : aSem (d + 5) 151 [.ref 31] M N (P0 t e) nx Q := by
  have hEW := hS.2.2.2.2.1
  have hc := hS.1
  unfold wfC at hc
  unfold lawM at hF hY
  simp only [A151, B151_0, false_imp_iff, true_imp_iff, not_false_eq_true, not_true_eq_false, true_and, and_true, implies_true, qn_self, rI_i, rJ_l, rV_n, okZ0, okZ1, o31 hn]
  refine s146 hn hb h hS (show 0 < 4 by decide) hO (fun M1 N1 c hf hfr => ?_) (fun M1 N1 l hf hl h24 h23 h1 hO1 => ?_)
  · simp only [false_imp_iff, true_imp_iff, not_false_eq_true, not_true_eq_false, true_and, and_true, implies_true, qn_self, rI_i, rJ_l, rV_n, okZ0, okZ1, eq_true nI_0, B151_8, okZ0]
    exact hF _ _ c (hf _) hfr
  rw [hf] at hF hY
  simp only [false_imp_iff, true_imp_iff, not_false_eq_true, not_true_eq_false, true_and, and_true, implies_true, qn_self, rI_i, rJ_l, rV_n, okZ0, okZ1, one0, B151_10, o31 hn, h24]
  refine (is139 (d := d + 1) hn h1 hO1 (fun c hf1 hfr => ?_) (fun z => ?_)).2
  · simp only [false_imp_iff, true_imp_iff, not_false_eq_true, not_true_eq_false, true_and, and_true, implies_true, qn_self, rI_i, rJ_l, rV_n, okZ0, okZ1, eq_true nI_0, B151_27, okZ0]
    exact hF _ _ c (hf1 _) hfr
  have z1 := (isN_k.mp z).1
  simp only [false_imp_iff, true_imp_iff, not_false_eq_true, not_true_eq_false, true_and, and_true, implies_true, qn_self, rI_i, rJ_l, rV_n, okZ0, okZ1, one0, B151_29, o31 hn]
  refine s142 hn h1 hS (show 1 < 4 by decide) hO1 z1 (fun hno => ?_) (fun i hi => ?_)
  · simp only [false_imp_iff, true_imp_iff, not_false_eq_true, not_true_eq_false, true_and, and_true, implies_true, qn_self, rI_i, rJ_l, rV_n, okZ0, okZ1, ng1_lt0, B151_54, B151_59, o31 hn, s136t hn h1.2.2.1, one0, B151_66, B151_75, B151_76, s136f hn h1.2.2.1 hO1.1 (show 0 < 3 by decide) (show 3 < 6 by decide), eq_true nI_0, B151_83, okZ0]
    refine hF _ _ _ ?_ (h1.fr rfl)
    unfold refM
    rw [if_pos z, lkF_no (E := S.2.2.2.1) (k := 1) (w := tV B n (tE B n q)) hno]
  have hi6 : i < S.1 1 := (hEW.1 _ hi).2.2
  have hf2 : ∀ f, refM B n S.2.2.2.1 1 (tE B n q) f = f i (tE B n (tE B n q)) := fun f => by unfold refM; rw [if_pos z, lkF_in hEW.2.2.1 hi]
  rw [hf2] at hF hY
  have e6 : nI 6 * nI l + nI i = nI (6 * l + i) := by rw [nI_mul, nI_add]
  have h38 := h1.2.2.2.2.2.2.2.2 (6 * l + i) (by omega)
  simp only [false_imp_iff, true_imp_iff, not_false_eq_true, not_true_eq_false, true_and, and_true, implies_true, qn_self, rI_i, rJ_l, rV_n, okZ0, okZ1, nI_pos (show i < 2 ^ 31 by omega), B151_40, o31 hn, exP (show P0 t e 31 18 = some 38 from rfl), e6, exB3 (show kindOf 38 = (3, 36) from rfl) (show 38 < nx by omega) (by decide) (show 6 * l + i < 36 by omega), h38]
  by_cases y : S.2.2.2.2 (6 * l + i) = true
  · rw [if_pos y] at hF
    simp only [if_pos y, one0, false_imp_iff, true_imp_iff, not_false_eq_true, not_true_eq_false, true_and, and_true, implies_true, qn_self, rI_i, rJ_l, rV_n, okZ0, okZ1, B151_58, B151_59, o31 hn, s136f hn h1.2.2.1 hO1.1 (show 0 < 2 by decide) (show 2 < 6 by decide), eq_true nI_0, B151_83, okZ0]
    exact hF _ _ _ rfl (h1.fr rfl)
  rw [if_neg y] at hF hY
  simp only [if_neg y, eq_true nI_0, false_imp_iff, true_imp_iff, not_false_eq_true, not_true_eq_false, true_and, and_true, implies_true, qn_self, rI_i, rJ_l, rV_n, okZ0, okZ1, B151_54, B151_59, o31 hn, s136t hn h1.2.2.1, one0, B151_66, nI_pos (show i < 2 ^ 31 by omega), B151_71, B151_76, B151_85]
  refine nxt135 hn hb h1 hO1 (fun M2 N2 h2 hO2 he2 hj2 => ?_)
  simp only [false_imp_iff, true_imp_iff, not_false_eq_true, not_true_eq_false, true_and, and_true, implies_true, qn_self, rI_i, rJ_l, rV_n, okZ0, okZ1, o31 hn]
  refine s140 hn hb h2 (show 99 < 100 by decide) hO2 (fun M3 N3 c hf3 hfr => ?_) (fun M3 N3 hf3 hv3 h11 h233 h3 hO3 => ?_)
  · simp only [false_imp_iff, true_imp_iff, not_false_eq_true, not_true_eq_false, true_and, and_true, implies_true, qn_self, rI_i, rJ_l, rV_n, okZ0, okZ1, eq_true nI_0, B151_99, okZ0]
    exact hF _ _ c (hf3 _) hfr
  rw [hf3] at hY
  simp only [false_imp_iff, true_imp_iff, not_false_eq_true, not_true_eq_false, true_and, and_true, implies_true, qn_self, rI_i, rJ_l, rV_n, okZ0, okZ1, one0, B151_101, o31 hn, exP (show P0 t e 31 17 = some 37 from rfl), exP (show P0 t e 31 18 = some 38 from rfl), a6, x37 hn (show 47 + (6 * l + i) < 89 by omega), h11, e6, exS3 (show kindOf 38 = (3, 36) from rfl) (show 38 < nx by omega) (by decide) (show 6 * l + i < 36 by omega) okZ1, okZ1]
  exact hY _ _ _ _ rfl ((h3.row (K := 47 + (6 * l + i)) (y := tV B n (tE B n (tE B n q)))).law (j := 6 * l + i)) ((hO3.c (by decide)).c (by decide))
theorem bt0 : ∀ i, i < 6 → ∀ b, b < 64 → ((nI b >>> (nI i &&& 31)) &&& nI 1 = 0 ↔ ¬ b / 2 ^ i % 2 = 1) := by decide +kernel
theorem l152 (hn : 44 ≤ nx) (hb : BY M0 32 n B) (hS : PW S) {w : Nat} {r : ER} (hF : ∀ M' N' c, r = .error c → FR M0 N0 c M' N' → Q (some (.int (nI 0))) M' N' (P0 t e) nx) (hY : ∀ M' N' S' q', r = finM B n S' q' → RR M0 N0 S' M' N' → RO M' N' B n q' → Q (some (.int (nI 1))) M' N' (P0 t e) nx) : ∀ m b q M N, m + popN b = 7 → b < 64 → RR M0 N0 S M N → RO M N B n q → r = deedL B n S w m b q → WP (aSem (d + 4)) g0 152 nx (qn nx Q) 16 [(0, .ref 31), (1, .long (lN w)), (3, .int (nI b))] [] M N (P0 t e) nx := by
  have hEW := hS.2.2.2.2.1
  have hc := hS.1
  unfold wfC at hc
  intro m
  induction m with
  | zero =>
    intro b q M N hm
    have := pop6 b
    omega
  | succ m ih =>
    intro b q M N hm hb6 h hO hr
    unfold deedL at hr
    simp only [B152_16]
    refine is139 (d := d + 1) hn h hO (fun c hf1 hfr => ?_) (fun z => ?_)
    · simp only [false_imp_iff, true_imp_iff, not_false_eq_true, not_true_eq_false, true_and, and_true, implies_true, qn_self, rI_i, rJ_l, rV_n, okZ0, okZ1, eq_true nI_0, B152_28, okZ0]
      exact hF _ _ c (by rw [hr]; exact hf1 _) hfr
    have z1 := (isN_k.mp z).1
    simp only [false_imp_iff, true_imp_iff, not_false_eq_true, not_true_eq_false, true_and, and_true, implies_true, qn_self, rI_i, rJ_l, rV_n, okZ0, okZ1, one0, B152_30, o31 hn]
    refine s142 hn h hS (show 1 < 4 by decide) hO z1 (fun hno => ?_) (fun i hi => ?_)
    · simp only [false_imp_iff, true_imp_iff, not_false_eq_true, not_true_eq_false, true_and, and_true, implies_true, qn_self, rI_i, rJ_l, rV_n, okZ0, okZ1, ng1_lt0, B152_52, B152_57, o31 hn, s136t hn h.2.2.1, one0, B152_64, B152_74, B152_75, s136f hn h.2.2.1 hO.1 (show 0 < 3 by decide) (show 3 < 6 by decide), eq_true nI_0, B152_82, okZ0]
      refine hF _ _ _ ?_ (h.fr rfl)
      rw [hr]
      unfold refM
      rw [if_pos z, lkF_no (E := S.2.2.2.1) (k := 1) (w := tV B n q) hno]
    have hi6 : i < S.1 1 := (hEW.1 _ hi).2.2
    have hf2 : ∀ f, refM B n S.2.2.2.1 1 q f = f i (tE B n q) := fun f => by unfold refM; rw [if_pos z, lkF_in hEW.2.2.1 hi]
    rw [hf2] at hr
    simp only [false_imp_iff, true_imp_iff, not_false_eq_true, not_true_eq_false, true_and, and_true, implies_true, qn_self, rI_i, rJ_l, rV_n, okZ0, okZ1, nI_pos (show i < 2 ^ 31 by omega), B152_43, bt0 i (by omega) b hb6]
    by_cases y : b / 2 ^ i % 2 = 1
    · rw [if_pos y] at hr
      simp only [y, false_imp_iff, true_imp_iff, not_false_eq_true, not_true_eq_false, true_and, and_true, implies_true, qn_self, rI_i, rJ_l, rV_n, okZ0, okZ1, B152_56, B152_57, o31 hn, s136f hn h.2.2.1 hO.1 (show 0 < 2 by decide) (show 2 < 6 by decide), eq_true nI_0, B152_82, okZ0]
      exact hF _ _ _ hr (h.fr rfl)
    rw [if_neg y] at hr
    have hb2 := or64_lt i (by omega) b hb6
    have hp2 := pop1 i (by omega) b hb6 y
    have h3 := cle hS (show 3 < 4 by decide)
    simp only [y, false_imp_iff, true_imp_iff, not_false_eq_true, not_true_eq_false, true_and, and_true, implies_true, qn_self, rI_i, rJ_l, rV_n, okZ0, okZ1, B152_52, B152_57, o31 hn, s136t hn h.2.2.1, one0, B152_64, nI_pos (show i < 2 ^ 31 by omega), B152_70, B152_75, B152_84]
    refine nxt135 hn hb h hO (fun M2 N2 h2 hO2 he2 hj2 => ?_)
    have h5 := tK_le (B := B) (n := n) (p := tE B n q)
    simp only [false_imp_iff, true_imp_iff, not_false_eq_true, not_true_eq_false, true_and, and_true, implies_true, qn_self, rI_i, rJ_l, rV_n, okZ0, okZ1, o31 hn, or64 i (show i < 6 by omega) b hb6, hO2.2.2.2.2.1, nI_eq (show tK B n (tE B n q) < 2 ^ 31 by omega) (show 1 < 2 ^ 31 by decide)]
    refine ⟨fun u => ?_, fun u => ?_⟩
    · rw [if_pos u] at hr
      exact ih _ _ M2 N2 (by omega) hb2 h2 hO2 hr
    · rw [if_neg u] at hr
      have e8 : nI 8 * nI 1 + nI (S.1 3) = nI (8 + S.1 3) := by rw [nI_mul, nI_add]
      simp only [B152_103, false_imp_iff, true_imp_iff, not_false_eq_true, not_true_eq_false, true_and, and_true, implies_true, qn_self, rI_i, rJ_l, rV_n, okZ0, okZ1, o31 hn, exP (show P0 t e 31 15 = some 35 from rfl), s141 hn h2 (show 3 < 4 by decide), h2.2.2.2.1, e8, x35 hn (show 8 + S.1 3 < 16 by omega)]
      refine s145 hn (S := (S.1, S.2.1, va_up S.2.2.1 (S.1 3) (b ||| 2 ^ i), S.2.2.2)) h2.deed (fun k hk => cle hS hk) (fun x hx => ewE hS x hx) (show 3 < 4 by decide) (hO2.c (by decide)) (fun _ => ?_) (fun M3 N3 h3 hO3 => ?_)
      · show uM M2 35 (8 + S.1 3) (nI (b ||| 2 ^ i)) 35 (8 + S.1 3) = nI (va_up S.2.2.1 (S.1 3) (b ||| 2 ^ i) (S.1 3))
        rw [uM_k, up_eq]
      · simp only [false_imp_iff, true_imp_iff, not_false_eq_true, not_true_eq_false, true_and, and_true, implies_true, qn_self, rI_i, rJ_l, rV_n, okZ0, okZ1, okZ1]
        exact hY _ _ _ _ hr h3 hO3
theorem s152 (hn : 44 ≤ nx) (hb : BY M0 32 n B) (h : RR M0 N0 S M N) (hS : PW S) {q : Nat} (hO : RO M N B n q) (hF : ∀ M' N' c, deedM B n S q = .error c → FR M0 N0 c M' N' → Q (some (.int (nI 0))) M' N' (P0 t e) nx) (hY : ∀ M' N' S' q', deedM B n S q = finM B n S' q' → RR M0 N0 S' M' N' → RO M' N' B n q' → Q (some (.int (nI 1))) M' N' (P0 t e) nx) : aSem (d + 5) 152 [.ref 31] M N (P0 t e) nx Q := by
  unfold deedM at hF hY
  simp only [A152, B152_0, false_imp_iff, true_imp_iff, not_false_eq_true, not_true_eq_false, true_and, and_true, implies_true, qn_self, rI_i, rJ_l, rV_n, okZ0, okZ1, o31 hn]
  refine s144 hn hb h hS hO (fun M1 N1 c hf hfr => ?_) (fun M1 N1 hf hA hv h23 h1 hO1 => ?_)
  · simp only [false_imp_iff, true_imp_iff, not_false_eq_true, not_true_eq_false, true_and, and_true, implies_true, qn_self, rI_i, rJ_l, rV_n, okZ0, okZ1, eq_true nI_0, B152_7, okZ0]
    exact hF _ _ c (hf _) hfr
  · rw [hf] at hF hY
    simp only [false_imp_iff, true_imp_iff, not_false_eq_true, not_true_eq_false, true_and, and_true, implies_true, qn_self, rI_i, rJ_l, rV_n, okZ0, okZ1, one0, B152_9, o31 hn, h23]
    exact l152 hn hb hS hF hY 7 0 _ M1 N1 rfl (by decide) h1 hO1 rfl
end MLN
