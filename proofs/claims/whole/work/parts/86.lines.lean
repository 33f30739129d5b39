/-! READER: lines -/
theorem BL.no {v : Int64} {f : Nat → Bool} {b : Nat} (h : BL v f) (hb : b < 64) : v &&& ((lN 1) <<< ((nI b).toInt64 &&& 63)) = lN 0 ↔ f b = false := by
  have z0 : ∀ j, j < 64 → (lN 0).toBitVec.getLsbD j = false := by decide +kernel
  rw [← Int64.toBitVec_inj, Int64.toBitVec_and]
  constructor
  · intro q
    have := congrArg (fun y => y.getLsbD b) q
    simp only [BitVec.getLsbD_and] at this
    rw [one_bit b hb b hb, z0 b hb, h b hb, beq_self_eq_true, Bool.and_true] at this
    exact this
  · intro q
    apply BitVec.eq_of_getLsbD_eq
    intro j hj
    rw [BitVec.getLsbD_and, one_bit b hb j hj, z0 j hj, h j hj]
    by_cases w : j = b
    · rw [w, q, Bool.false_and]
    · rw [show (j == b) = false by simp [w], Bool.and_false]
theorem lkF_app {E : List (Nat × Nat × Nat)} {k k' w w' i : Nat} (h : ¬ k' = k) : lkF (E ++ [(w', k', i)]) k w = lkF E k w := by
  unfold lkF
  rw [List.find?_append]
  have : List.find? (fun x => x.1 == w && x.2.1 == k) [(w', k', i)] = none := by
    rw [List.find?_eq_none]
    intro x hx
    rw [List.mem_singleton.mp hx]
    simp [h]
  rw [this, Option.or_none]
theorem refM_app {B : Nat → Nat} {n : Nat} {E : List (Nat × Nat × Nat)} {k k' q w' i : Nat} (h : ¬ k' = k) (f : Nat → Nat → ER) : refM B n (E ++ [(w', k', i)]) k q f = refM B n E k q f := by
  unfold refM
  rw [lkF_app h]
theorem pop1 : ∀ i, i < 6 → ∀ b, b < 64 → ¬ b / 2 ^ i % 2 = 1 → popN (b ||| 2 ^ i) = popN b + 1 := by decide +kernel
theorem pop6 (b : Nat) : popN b ≤ 6 := cntF_le _ 6 0
section LIN
variable {d : Nat} {M0 M : aM} {N0 N : aN} {P : aP} {t e nx n : Nat} {B : Nat → Nat} {S : PSt} {Q : aQ}
theorem TS.tl {M' : aM} {q : Nat} (h : TS M n q) (he : isT e) (ht : eqT e M M') : TS M' n q := by
  have := he.ge
  unfold TS
  rw [ht 2 (by omega) (by omega) (by omega)]
  exact h
theorem TO.tl {M' : aM} {q : Nat} (h : TO M B n q) (he : isT e) (ht : eqT e M M') : TO M' B n q := by
  have := he.ge
  unfold TO
  rw [ht 2 (by omega) (by omega) (by omega)]
  exact h
theorem RC.tl {M' : aM} {S' : PSt} (h : RC M0 N0 e S M N) (he : isT e) (ht : eqT e M M') (hE : S'.2.2.2.1 = S.2.2.2.1) (hl : S'.2.2.2.2 = S.2.2.2.2) (hT : TD M' e (S'.1 0) (S'.1 1) (S'.1 2) (S'.1 3) S'.2.1 S'.2.2.1) : RC M0 N0 e S' M' N := by
  have g := he.ge
  refine ⟨⟨fun a x y z w p q r s => (ht a q r s).trans (h.1.1 a x y z w p q r s), by rw [ht 2 (by omega) (by omega) (by omega)]; exact h.1.2⟩, h.2.1, ?_, hT, by rw [hl]; exact h.2.2.2.2⟩
  unfold NM
  rw [hE, ht 1 (by omega) (by omega) (by omega), ht 5 (by omega) (by omega) (by omega), ht 6 (by omega) (by omega) (by omega), ht 7 (by omega) (by omega) (by omega)]
  exact h.2.2.1
theorem PW.len (h : PW S) : S.2.2.2.1.length = S.1 0 + S.1 1 + S.1 2 + S.1 3 := h.2.2.2.2.1.2.2.2
theorem c0u {c : Nat → Nat} {k v j : Nat} (h : j ≠ k) : va_up c k v j = c j := up_ne h
theorem s17 (hn : 44 ≤ nx) (he : isT e) (hk : KW M0) (hb : BY M0 3 n B) (h : RC M0 N0 e S M N) (hS : PW S) {p : Nat} (hT : TO M B n p) (hQ : ∀ v M' N', OUT M0 N0 e n (if 6 ≤ S.1 0 then .error (8 * tP B n p + 5) else landM B n S (tE B n p)) v M' N' → Q (some (.int v)) M' N' (P0 t e) nx) : aSem (d + 5) 17 [.ref 1] M N (P0 t e) nx Q := by
  have hc := hS.1
  have c6 := hc
  unfold wfC at c6
  have hEW := hS.2.2.2.2.1
  have hlen := hS.len
  have oz : ∀ {r v M N}, OUT M0 N0 e n r v M N → okZ v := fun z => z.z
  simp only [A17, B17_0, false_imp_iff, true_imp_iff, not_false_eq_true, not_true_eq_false, true_and, and_true, implies_true, qn_self, rI_i, rJ_l, rV_n, okZ0, okZ1, o1 hn, oT hn he, exP (show P0 t e 1 8 = some e from rfl), h.2.2.2.1.1, ltN (show S.1 0 < 2 ^ 31 by omega) (show 6 < 2 ^ 31 by decide)]
  refine ⟨fun z => ?_, fun z => ?_⟩
  · rw [if_neg (by omega)] at hQ
    unfold landM at hQ
    simp only [B17_18, false_imp_iff, true_imp_iff, not_false_eq_true, not_true_eq_false, true_and, and_true, implies_true, qn_self, rI_i, rJ_l, rV_n, okZ0, okZ1, o1 hn, oT hn he, exP (show P0 t e 1 8 = some e from rfl), h.2.2.2.1.1]
    refine s23 hn he hk hb h (fun x hx => (hEW.1 x hx).1) (by omega) hT.ts (fun M1 c hf hfl => ?_) (fun M1 hf hv hA h1 hT1 => ?_)
    · rw [hf] at hQ
      simp only [false_imp_iff, true_imp_iff, not_false_eq_true, not_true_eq_false, true_and, and_true, implies_true, qn_self, rI_i, rJ_l, rV_n, okZ0, okZ1, eq_true nI_0, B17_33, okZ0]
      exact hQ _ _ _ ⟨rfl, hfl⟩
    · rw [hf] at hQ
      simp only [false_imp_iff, true_imp_iff, not_false_eq_true, not_true_eq_false, true_and, and_true, implies_true, qn_self, rI_i, rJ_l, rV_n, okZ0, okZ1, one0, B17_35, o1 hn]
      refine s25 hn he hb h1 hT1.ts (show 4 < 100 by decide) (fun M2 c hf2 hfl => ?_) (fun M2 hf2 hv2 h2 hT2 => ?_)
      · rw [hf2] at hQ
        simp only [false_imp_iff, true_imp_iff, not_false_eq_true, not_true_eq_false, true_and, and_true, implies_true, qn_self, rI_i, rJ_l, rV_n, okZ0, okZ1, B17_46, okZ0]
        exact hQ _ _ _ ⟨rfl, hfl⟩
      · rw [hf2] at hQ
        simp only [false_imp_iff, true_imp_iff, not_false_eq_true, not_true_eq_false, true_and, and_true, implies_true, qn_self, rI_i, rJ_l, rV_n, okZ0, okZ1, nI_ng1 (show tV B n (tE B n (tE B n p)) < 2 ^ 31 by omega), B17_48, o1 hn, oT hn he, exP (show P0 t e 1 8 = some e from rfl)]
        refine s59 hn he h2.2.2.2.1 hc z (fun M3 he3 hT3 => ?_)
        simp only [false_imp_iff, true_imp_iff, not_false_eq_true, not_true_eq_false, true_and, and_true, implies_true, qn_self, rI_i, rJ_l, rV_n, okZ0, okZ1, o1 hn]
        refine s26 hn he hb (S := addN S 0 (tV B n (tE B n p)) (va_up S.2.1 (S.1 0) (tV B n (tE B n (tE B n p)))) S.2.2.1) (h2.tl he he3 rfl rfl ?_) (hT2.ts.tl he he3) (fun v M4 N4 ho => ?_)
        · show TD M3 e (va_up S.1 0 (S.1 0 + 1) 0) (va_up S.1 0 (S.1 0 + 1) 1) (va_up S.1 0 (S.1 0 + 1) 2) (va_up S.1 0 (S.1 0 + 1) 3) _ _
          rw [up_eq, c0u (by decide), c0u (by decide), c0u (by decide)]
          exact hT3
        · simp only [false_imp_iff, true_imp_iff, not_false_eq_true, not_true_eq_false, true_and, and_true, implies_true, qn_self, rI_i, rJ_l, rV_n, okZ0, okZ1, oz ho]
          exact hQ _ _ _ ho
  · rw [if_pos (by omega)] at hQ
    simp only [B17_12, false_imp_iff, true_imp_iff, not_false_eq_true, not_true_eq_false, true_and, and_true, implies_true, qn_self, rI_i, rJ_l, rV_n, okZ0, okZ1, o1 hn, s30 hn hT.2.2.2.2.1, okZ0]
    exact hQ _ _ _ ⟨rfl, h.fl⟩
theorem s18 (hn : 44 ≤ nx) (he : isT e) (hk : KW M0) (hb : BY M0 3 n B) (h : RC M0 N0 e S M N) (hS : PW S) {p : Nat} (hT : TO M B n p) (hQ : ∀ v M' N', OUT M0 N0 e n (if 6 ≤ S.1 1 then .error (8 * tP B n p + 5) else issueM B n S (tE B n p)) v M' N' → Q (some (.int v)) M' N' (P0 t e) nx) : aSem (d + 5) 18 [.ref 1] M N (P0 t e) nx Q := by
  have hc := hS.1
  have c6 := hc
  unfold wfC at c6
  have hEW := hS.2.2.2.2.1
  have hlen := hS.len
  have oz : ∀ {r v M N}, OUT M0 N0 e n r v M N → okZ v := fun z => z.z
  simp only [A18, B18_0, false_imp_iff, true_imp_iff, not_false_eq_true, not_true_eq_false, true_and, and_true, implies_true, qn_self, rI_i, rJ_l, rV_n, okZ0, okZ1, o1 hn, oT hn he, exP (show P0 t e 1 8 = some e from rfl), h.2.2.2.1.2.1, ltN (show S.1 1 < 2 ^ 31 by omega) (show 6 < 2 ^ 31 by decide)]
  refine ⟨fun z => ?_, fun z => ?_⟩
  · rw [if_neg (by omega)] at hQ
    unfold issueM at hQ
    simp only [B18_18, false_imp_iff, true_imp_iff, not_false_eq_true, not_true_eq_false, true_and, and_true, implies_true, qn_self, rI_i, rJ_l, rV_n, okZ0, okZ1, o1 hn, oT hn he, exP (show P0 t e 1 8 = some e from rfl), h.2.2.2.1.2.1]
    refine s23 hn he hk hb h (fun x hx => (hEW.1 x hx).1) (by omega) hT.ts (fun M1 c hf hfl => ?_) (fun M1 hf hv hA h1 hT1 => ?_)
    · rw [hf] at hQ
      simp only [false_imp_iff, true_imp_iff, not_false_eq_true, not_true_eq_false, true_and, and_true, implies_true, qn_self, rI_i, rJ_l, rV_n, okZ0, okZ1, eq_true nI_0, B18_33, okZ0]
      exact hQ _ _ _ ⟨rfl, hfl⟩
    · rw [hf] at hQ
      simp only [false_imp_iff, true_imp_iff, not_false_eq_true, not_true_eq_false, true_and, and_true, implies_true, qn_self, rI_i, rJ_l, rV_n, okZ0, okZ1, one0, B18_35, o1 hn, oT hn he, exP (show P0 t e 1 8 = some e from rfl)]
      refine s60 hn he h1.2.2.2.1 hc z (hS.2.2.1 (S.1 1) z) (fun M3 he3 hT3 => ?_)
      simp only [false_imp_iff, true_imp_iff, not_false_eq_true, not_true_eq_false, true_and, and_true, implies_true, qn_self, rI_i, rJ_l, rV_n, okZ0, okZ1, o1 hn]
      refine s26 hn he hb (S := addN S 1 (tV B n (tE B n p)) S.2.1 S.2.2.1) (h1.tl he he3 rfl rfl ?_) (hT1.ts.tl he he3) (fun v M4 N4 ho => ?_)
      · show TD M3 e (va_up S.1 1 (S.1 1 + 1) 0) (va_up S.1 1 (S.1 1 + 1) 1) (va_up S.1 1 (S.1 1 + 1) 2) (va_up S.1 1 (S.1 1 + 1) 3) _ _
        rw [up_eq, c0u (by decide), c0u (by decide), c0u (by decide)]
        exact hT3
      · simp only [false_imp_iff, true_imp_iff, not_false_eq_true, not_true_eq_false, true_and, and_true, implies_true, qn_self, rI_i, rJ_l, rV_n, okZ0, okZ1, oz ho]
        exact hQ _ _ _ ho
  · rw [if_pos (by omega)] at hQ
    simp only [B18_12, false_imp_iff, true_imp_iff, not_false_eq_true, not_true_eq_false, true_and, and_true, implies_true, qn_self, rI_i, rJ_l, rV_n, okZ0, okZ1, o1 hn, s30 hn hT.2.2.2.2.1, okZ0]
    exact hQ _ _ _ ⟨rfl, h.fl⟩
/-- names with one more -/
theorem ewA {E : List (Nat × Nat × Nat)} {c : Nat → Nat} (h : EW E c) {w k i : Nat} (hw : w < 2 ^ 30) (hk : k < 4) (hA : ¬ lkA E w = true) : (∀ x ∈ E ++ [(w, k, i)], x.1 < 2 ^ 30 ∧ x.2.1 < 4) ∧ ((E ++ [(w, k, i)]).map (fun x => x.1)).Nodup := by
  refine ⟨fun x hx => ?_, ?_⟩
  · rcases List.mem_append.mp hx with z | z
    · exact ⟨(h.1 x z).1, (h.1 x z).2.1⟩
    · rw [List.mem_singleton.mp z]; exact ⟨hw, hk⟩
  · rw [List.map_append, List.nodup_append]
    refine ⟨h.2.2.1, by simp, fun a ha b hb q => ?_⟩
    have hb2 : b = w := by simpa using hb
    obtain ⟨x, hx, hx2⟩ := List.mem_map.mp ha
    exact hA (lkA_t.mpr ⟨x, hx, by rw [hx2, q, hb2]⟩)
theorem inA {E : List (Nat × Nat × Nat)} {w k i v k' j : Nat} (h : (v, k', j) ∈ E ++ [(w, k, i)]) (hk : ¬ k = k') : (v, k', j) ∈ E := by
  rcases List.mem_append.mp h with z | z
  · exact z
  · have := List.mem_singleton.mp z
    exact absurd (congrArg (fun x => x.2.1) this).symm hk
theorem s19 (hn : 44 ≤ nx) (he : isT e) (hk : KW M0) (hb : BY M0 3 n B) (h : RC M0 N0 e S M N) (hS : PW S) {p : Nat} (hT : TO M B n p) (hQ : ∀ v M' N', OUT M0 N0 e n (if 5 ≤ S.1 2 then .error (8 * tP B n p + 5) else factM B n S (tE B n p)) v M' N' → Q (some (.int v)) M' N' (P0 t e) nx) : aSem (d + 5) 19 [.ref 1] M N (P0 t e) nx Q := by
  have hc := hS.1
  have c6 := hc
  unfold wfC at c6
  have hEW := hS.2.2.2.2.1
  have hlen := hS.len
  have oz : ∀ {r v M N}, OUT M0 N0 e n r v M N → okZ v := fun z => z.z
  simp only [A19, B19_0, false_imp_iff, true_imp_iff, not_false_eq_true, not_true_eq_false, true_and, and_true, implies_true, qn_self, rI_i, rJ_l, rV_n, okZ0, okZ1, o1 hn, oT hn he, exP (show P0 t e 1 8 = some e from rfl), h.2.2.2.1.2.2.1, ltN (show S.1 2 < 2 ^ 31 by omega) (show 5 < 2 ^ 31 by decide)]
  refine ⟨fun z => ?_, fun z => ?_⟩
  · rw [if_neg (by omega)] at hQ
    unfold factM at hQ
    simp only [B19_17, false_imp_iff, true_imp_iff, not_false_eq_true, not_true_eq_false, true_and, and_true, implies_true, qn_self, rI_i, rJ_l, rV_n, okZ0, okZ1, o1 hn, oT hn he, exP (show P0 t e 1 8 = some e from rfl), h.2.2.2.1.2.2.1]
    refine s23 hn he hk hb h (fun x hx => (hEW.1 x hx).1) (by omega) hT.ts (fun M1 c hf hfl => ?_) (fun M1 hf hv hA h1 hT1 => ?_)
    · rw [hf] at hQ
      simp only [false_imp_iff, true_imp_iff, not_false_eq_true, not_true_eq_false, true_and, and_true, implies_true, qn_self, rI_i, rJ_l, rV_n, okZ0, okZ1, eq_true nI_0, B19_32, okZ0]
      exact hQ _ _ _ ⟨rfl, hfl⟩
    · rw [hf] at hQ
      have hA2 := ewA hEW (i := S.1 2) hv (show 2 < 4 by decide) hA
      simp only [false_imp_iff, true_imp_iff, not_false_eq_true, not_true_eq_false, true_and, and_true, implies_true, qn_self, rI_i, rJ_l, rV_n, okZ0, okZ1, one0, B19_34, o1 hn, o2 hn, exP (show P0 t e 1 0 = some 2 from rfl)]
      refine s49 hn (h1.by he hb) hT1.ts (fun M2 he2 hT2 => ?_)
      have h2 := h1.p he he2
      simp only [false_imp_iff, true_imp_iff, not_false_eq_true, not_true_eq_false, true_and, and_true, implies_true, qn_self, rI_i, rJ_l, rV_n, okZ0, okZ1, o1 hn]
      refine s24 hn he hk h2 hA2.1 hA2.2 (by show (S.2.2.2.1 ++ [(tV B n (tE B n p), 2, S.1 2)]).length ≤ 22; rw [List.length_append, List.length_singleton]; omega) hT2 (show 0 < 4 by decide) (fun M3 c hf3 hfl => ?_) (fun l hf3 hin => ?_)
      · have hf4 : ∀ f, refM B n S.2.2.2.1 0 (tE B n (tE B n p)) f = .error c := fun f => by rw [← hf3 f]; exact (refM_app (by decide) f).symm
        rw [hf4] at hQ
        simp only [false_imp_iff, true_imp_iff, not_false_eq_true, not_true_eq_false, true_and, and_true, implies_true, qn_self, rI_i, rJ_l, rV_n, okZ0, okZ1, B19_52, okZ0]
        exact hQ _ _ _ ⟨rfl, hfl⟩
      · have hf4 : ∀ f, refM B n S.2.2.2.1 0 (tE B n (tE B n p)) f = f l (tE B n (tE B n (tE B n p))) := fun f => by rw [← hf3 f]; exact (refM_app (by decide) f).symm
        rw [hf4] at hQ
        have hl : l < S.1 0 := (hEW.1 _ (inA hin (by decide))).2.2
        simp only [false_imp_iff, true_imp_iff, not_false_eq_true, not_true_eq_false, true_and, and_true, implies_true, qn_self, rI_i, rJ_l, rV_n, okZ0, okZ1, nI_ng1 (show l < 2 ^ 31 by omega), B19_54, o1 hn, oT hn he, exP (show P0 t e 1 8 = some e from rfl)]
        refine s61 hn he h2.2.2.2.1 hc z (fun M3 he3 hT3 => ?_)
        simp only [false_imp_iff, true_imp_iff, not_false_eq_true, not_true_eq_false, true_and, and_true, implies_true, qn_self, rI_i, rJ_l, rV_n, okZ0, okZ1, o1 hn]
        refine s26 hn he hb (S := addN S 2 (tV B n (tE B n p)) (va_up S.2.1 (6 + S.1 2) l) S.2.2.1) (h2.tl he he3 rfl rfl ?_) (hT2.ts.tl he he3) (fun v M4 N4 ho => ?_)
        · show TD M3 e (va_up S.1 2 (S.1 2 + 1) 0) (va_up S.1 2 (S.1 2 + 1) 1) (va_up S.1 2 (S.1 2 + 1) 2) (va_up S.1 2 (S.1 2 + 1) 3) _ _
          rw [up_eq, c0u (by decide), c0u (by decide), c0u (by decide)]
          exact hT3
        · simp only [false_imp_iff, true_imp_iff, not_false_eq_true, not_true_eq_false, true_and, and_true, implies_true, qn_self, rI_i, rJ_l, rV_n, okZ0, okZ1, oz ho]
          exact hQ _ _ _ ho
  · rw [if_pos (by omega)] at hQ
    simp only [B19_11, false_imp_iff, true_imp_iff, not_false_eq_true, not_true_eq_false, true_and, and_true, implies_true, qn_self, rI_i, rJ_l, rV_n, okZ0, okZ1, o1 hn, s30 hn hT.2.2.2.2.1, okZ0]
    exact hQ _ _ _ ⟨rfl, h.fl⟩
/-- one word: read, and looked up -/
theorem nx24 (hn : 44 ≤ nx) (he : isT e) (hk : KW M0) (hb : BY M0 3 n B) (h : RC M0 N0 e S M N) (hEW : EW S.2.2.2.1 S.1) (h22 : S.2.2.2.1.length ≤ 22) {q k : Nat} (hs : TS M n q) (hk4 : k < 4) {K : Int32 → aM → aN → aP → Nat → Prop} (hF : ∀ M' c, (∀ f, refM B n S.2.2.2.1 k q f = .error c) → FL M0 N0 e c M' N → K ng1 M' N (P0 t e) nx) (hO : ∀ M' i, (∀ f, refM B n S.2.2.2.1 k q f = f i (tE B n q)) → i < S.1 k → RC M0 N0 e S M' N → TO M' B n q → K (nI i) M' N (P0 t e) nx) : okO nx 2 4 ∧ aSem (d + 4) 49 [.ref 2] M N (P0 t e) nx (rV fun M3 N4 P5 nx6 => okO nx6 1 2 ∧ aSem (d + 4) 24 [.ref 1, .int (nI k)] M3 N4 P5 nx6 (rI K)) := by
  refine ⟨o2 hn, s49 hn (h.by he hb) hs (fun M2 he2 hT2 => ?_)⟩
  have h2 := h.p he he2
  simp only [false_imp_iff, true_imp_iff, not_false_eq_true, not_true_eq_false, true_and, and_true, implies_true, qn_self, rI_i, rJ_l, rV_n, okZ0, okZ1]
  refine ⟨o1 hn, s24 hn he hk h2 (fun x hx => ⟨(hEW.1 x hx).1, (hEW.1 x hx).2.1⟩) hEW.2.2.1 h22 hT2 hk4 (fun M3 c hf3 hfl => ?_) (fun l hf3 hin => ?_)⟩
  · simp only [false_imp_iff, true_imp_iff, not_false_eq_true, not_true_eq_false, true_and, and_true, implies_true, qn_self, rI_i, rJ_l, rV_n, okZ0, okZ1]; exact hF M3 c hf3 hfl
  · simp only [false_imp_iff, true_imp_iff, not_false_eq_true, not_true_eq_false, true_and, and_true, implies_true, qn_self, rI_i, rJ_l, rV_n, okZ0, okZ1]; exact hO M2 l hf3 (hEW.1 _ hin).2.2 h2 hT2
theorem s21 (hn : 44 ≤ nx) (he : isT e) (hk : KW M0) (hb : BY M0 3 n B) (h : RC M0 N0 e S M N) (hS : PW S) {q : Nat} (hs : TS M n q) (hQ : ∀ v M' N', OUT M0 N0 e n (ruleM B n S q) v M' N' → Q (some (.int v)) M' N' (P0 t e) nx) : aSem (d + 5) 21 [.ref 1] M N (P0 t e) nx Q := by
  have hc := hS.1
  have c6 := hc
  unfold wfC at c6
  have hEW := hS.2.2.2.2.1
  have hlen := hS.len
  have oz : ∀ {r v M N}, OUT M0 N0 e n r v M N → okZ v := fun z => z.z
  unfold ruleM at hQ
  simp only [A21, B21_0, o1 hn, true_and, exP (show P0 t e 1 0 = some 2 from rfl)]
  refine nx24 hn he hk hb h hEW (by omega) hs (show 0 < 4 by decide) (fun M1 c hf hfl => ?_) (fun M1 l hf hl h1 hT1 => ?_)
  · rw [hf] at hQ
    simp only [false_imp_iff, true_imp_iff, not_false_eq_true, not_true_eq_false, true_and, and_true, implies_true, qn_self, rI_i, rJ_l, rV_n, okZ0, okZ1, B21_18, okZ0]
    exact hQ _ _ _ ⟨rfl, hfl⟩
  rw [hf] at hQ
  simp only [false_imp_iff, true_imp_iff, not_false_eq_true, not_true_eq_false, true_and, and_true, implies_true, qn_self, rI_i, rJ_l, rV_n, okZ0, okZ1, nI_ng1 (show l < 2 ^ 31 by omega), B21_20, exP (show P0 t e 1 0 = some 2 from rfl)]
  refine ⟨o1 hn, nx24 hn he hk hb h1 hEW (by omega) hT1.ts (show 1 < 4 by decide) (fun M2 c hf2 hfl => ?_) (fun M2 i hf2 hi h2 hT2 => ?_)⟩
  · rw [hf2] at hQ
    simp only [false_imp_iff, true_imp_iff, not_false_eq_true, not_true_eq_false, true_and, and_true, implies_true, qn_self, rI_i, rJ_l, rV_n, okZ0, okZ1, B21_38, okZ0]
    exact hQ _ _ _ ⟨rfl, hfl⟩
  rw [hf2] at hQ
  have b9 : S.2.1 (11 + (6 * l + i)) ≤ 2 * S.1 2 := hS.2.1.2.2.1 _ (by omega) (by omega)
  simp only [false_imp_iff, true_imp_iff, not_false_eq_true, not_true_eq_false, true_and, and_true, implies_true, qn_self, rI_i, rJ_l, rV_n, okZ0, okZ1, nI_ng1 (show i < 2 ^ 31 by omega), B21_40, o1 hn, oT hn he, exP (show P0 t e 1 8 = some e from rfl), s76 hn he h2.2.2.2.1 hc hl hi, oI_ng (show S.2.1 (11 + (6 * l + i)) < 2 ^ 31 by omega)]
  refine ⟨fun z => ?_, fun z => ?_⟩
  · rw [if_pos z] at hQ
    simp only [B21_59, exP (show P0 t e 1 0 = some 2 from rfl)]
    refine ⟨o1 hn, nx24 hn he hk hb h2 hEW (by omega) hT2.ts (show 2 < 4 by decide) (fun M3 c hf3 hfl => ?_) (fun M3 f hf3 hff h3 hT3 => ?_)⟩
    · rw [hf3] at hQ
      simp only [false_imp_iff, true_imp_iff, not_false_eq_true, not_true_eq_false, true_and, and_true, implies_true, qn_self, rI_i, rJ_l, rV_n, okZ0, okZ1, B21_77, okZ0]
      exact hQ _ _ _ ⟨rfl, hfl⟩
    rw [hf3] at hQ
    simp only [false_imp_iff, true_imp_iff, not_false_eq_true, not_true_eq_false, true_and, and_true, implies_true, qn_self, rI_i, rJ_l, rV_n, okZ0, okZ1, nI_ng1 (show f < 2 ^ 31 by omega), B21_79, o1 hn, o2 hn, exP (show P0 t e 1 0 = some 2 from rfl)]
    refine s49 hn (h3.by he hb) hT3.ts (fun M4 he4 hT4 => ?_)
    have h4 := h3.p he he4
    simp only [false_imp_iff, true_imp_iff, not_false_eq_true, not_true_eq_false, true_and, and_true, implies_true, qn_self, rI_i, rJ_l, rV_n, okZ0, okZ1, o1 hn, s28 hn (h4.kw he hk) hT4, kwC_e kwT_le (show 6 < 8 by decide)]
    have fin : ∀ y, RC M0 N0 e (S.1, va_up S.2.1 (11 + (6 * l + i)) y, S.2.2) (uM M4 (e + 1) (17 + (6 * l + i)) (nI y)) N := by
      intro y
      have hs2 := h4.2.2.2.1.set he (k := 17 + (6 * l + i)) (v := y) (by omega)
      rw [pi_ru] at hs2
      exact h4.tl he (fun a _ x _ => uM_ne x) rfl rfl hs2
    have ts : ∀ y, TS (uM M4 (e + 1) (17 + (6 * l + i)) (nI y)) n (tE B n (tE B n (tE B n (tE B n q)))) := fun y => hT4.ts.tl he (fun a _ x _ => uM_ne x)
    refine ⟨fun w => ?_, fun w => ?_⟩
    · rw [if_pos w] at hQ
      simp only [B21_112, B21_126, B21_131, false_imp_iff, true_imp_iff, not_false_eq_true, not_true_eq_false, true_and, and_true, implies_true, qn_self, rI_i, rJ_l, rV_n, okZ0, okZ1, o1 hn, oT hn he, exP (show P0 t e 1 8 = some e from rfl), kwC_e kwT_le (show 6 < 8 by decide), w, show kwC 6 = nI 6 from rfl, s77a hn he h4.2.2.2.1 hc hl hi hff]
      refine s26 hn he hb (fin (2 * f + 2)) (ts _) (fun v M5 N5 ho => ?_)
      simp only [false_imp_iff, true_imp_iff, not_false_eq_true, not_true_eq_false, true_and, and_true, implies_true, qn_self, rI_i, rJ_l, rV_n, okZ0, okZ1, oz ho]
      exact hQ _ _ _ ho
    · rw [if_neg w] at hQ
      simp only [B21_99, false_imp_iff, true_imp_iff, not_false_eq_true, not_true_eq_false, true_and, and_true, implies_true, qn_self, rI_i, rJ_l, rV_n, okZ0, okZ1, kwC_e kwT_le (show 7 < 8 by decide)]
      refine ⟨fun w2 => ?_, fun w2 => ?_⟩
      · rw [if_pos w2] at hQ
        simp only [B21_112, B21_130, B21_131, false_imp_iff, true_imp_iff, not_false_eq_true, not_true_eq_false, true_and, and_true, implies_true, qn_self, rI_i, rJ_l, rV_n, okZ0, okZ1, o1 hn, oT hn he, exP (show P0 t e 1 8 = some e from rfl), kwC_e kwT_le (show 6 < 8 by decide), w, s77b hn he h4.2.2.2.1 hc hl hi hff]
        refine s26 hn he hb (fin (2 * f + 1)) (ts _) (fun v M5 N5 ho => ?_)
        simp only [false_imp_iff, true_imp_iff, not_false_eq_true, not_true_eq_false, true_and, and_true, implies_true, qn_self, rI_i, rJ_l, rV_n, okZ0, okZ1, oz ho]
        exact hQ _ _ _ ho
      · rw [if_neg w2] at hQ
        simp only [B21_106, false_imp_iff, true_imp_iff, not_false_eq_true, not_true_eq_false, true_and, and_true, implies_true, qn_self, rI_i, rJ_l, rV_n, okZ0, okZ1, o1 hn, s30 hn hT4.2.2.2.2.1, okZ0]
        exact hQ _ _ _ ⟨rfl, h4.fl⟩
  · rw [if_neg z] at hQ
    simp only [B21_53, false_imp_iff, true_imp_iff, not_false_eq_true, not_true_eq_false, true_and, and_true, implies_true, qn_self, rI_i, rJ_l, rV_n, okZ0, okZ1, o1 hn, s30 hn hT2.2.2.2.2.1, okZ0]
    exact hQ _ _ _ ⟨rfl, h2.fl⟩
theorem s22 (hn : 44 ≤ nx) (he : isT e) (hk : KW M0) (hb : BY M0 3 n B) (h : RC M0 N0 e S M N) (hS : PW S) {q : Nat} (hs : TS M n q) (hQ : ∀ v M' N', OUT M0 N0 e n (lawM B n S q) v M' N' → Q (some (.int v)) M' N' (P0 t e) nx) : aSem (d + 5) 22 [.ref 1] M N (P0 t e) nx Q := by
  have hc := hS.1
  have c6 := hc
  unfold wfC at c6
  have hEW := hS.2.2.2.2.1
  have hlen := hS.len
  have g8 := he.ge
  have oz : ∀ {r v M N}, OUT M0 N0 e n r v M N → okZ v := fun z => z.z
  unfold lawM at hQ
  simp only [A22, B22_0, o1 hn, true_and, exP (show P0 t e 1 0 = some 2 from rfl)]
  refine nx24 hn he hk hb h hEW (by omega) hs (show 0 < 4 by decide) (fun M1 c hf hfl => ?_) (fun M1 l hf hl h1 hT1 => ?_)
  · rw [hf] at hQ
    simp only [false_imp_iff, true_imp_iff, not_false_eq_true, not_true_eq_false, true_and, and_true, implies_true, qn_self, rI_i, rJ_l, rV_n, okZ0, okZ1, B22_18, okZ0]
    exact hQ _ _ _ ⟨rfl, hfl⟩
  rw [hf] at hQ
  simp only [false_imp_iff, true_imp_iff, not_false_eq_true, not_true_eq_false, true_and, and_true, implies_true, qn_self, rI_i, rJ_l, rV_n, okZ0, okZ1, nI_ng1 (show l < 2 ^ 31 by omega), B22_20, exP (show P0 t e 1 0 = some 2 from rfl)]
  refine ⟨o1 hn, nx24 hn he hk hb h1 hEW (by omega) hT1.ts (show 1 < 4 by decide) (fun M2 c hf2 hfl => ?_) (fun M2 i hf2 hi h2 hT2 => ?_)⟩
  · rw [hf2] at hQ
    simp only [false_imp_iff, true_imp_iff, not_false_eq_true, not_true_eq_false, true_and, and_true, implies_true, qn_self, rI_i, rJ_l, rV_n, okZ0, okZ1, B22_38, okZ0]
    exact hQ _ _ _ ⟨rfl, hfl⟩
  rw [hf2] at hQ
  have hj : l * 6 + i < 64 := by omega
  have ej : l * 6 + i = 6 * l + i := by omega
  have hB := h2.2.2.2.2
  simp only [false_imp_iff, true_imp_iff, not_false_eq_true, not_true_eq_false, true_and, and_true, implies_true, qn_self, rI_i, rJ_l, rV_n, okZ0, okZ1, nI_ng1 (show i < 2 ^ 31 by omega), B22_40, o1 hn, nI_mul, nI_add, lg_cmp_eq, hB.no hj]
  refine ⟨fun z => ?_, fun z => ?_⟩
  · rw [ej] at z
    rw [if_neg (by rw [z]; decide)] at hQ
    simp only [B22_66, false_imp_iff, true_imp_iff, not_false_eq_true, not_true_eq_false, true_and, and_true, implies_true, qn_self, rI_i, rJ_l, rV_n, okZ0, okZ1, o1 hn]
    refine s25 hn he hb h2 hT2.ts (show 99 < 100 by decide) (fun M3 c hf3 hfl => ?_) (fun M3 hf3 hv3 h3 hT3 => ?_)
    · rw [hf3] at hQ
      simp only [false_imp_iff, true_imp_iff, not_false_eq_true, not_true_eq_false, true_and, and_true, implies_true, qn_self, rI_i, rJ_l, rV_n, okZ0, okZ1, B22_80, okZ0]
      exact hQ _ _ _ ⟨rfl, hfl⟩
    · rw [hf3] at hQ
      simp only [false_imp_iff, true_imp_iff, not_false_eq_true, not_true_eq_false, true_and, and_true, implies_true, qn_self, rI_i, rJ_l, rV_n, okZ0, okZ1, nI_ng1 (show tV B n (tE B n (tE B n q)) < 2 ^ 31 by omega), B22_82, o1 hn, oT hn he, exP (show P0 t e 1 8 = some e from rfl), s75 hn he h3.2.2.2.1 hc hl hi]
      have hs2 := h3.2.2.2.1.set he (k := 53 + (6 * l + i)) (v := tV B n (tE B n (tE B n q))) (by omega)
      rw [pi_la] at hs2
      have r0 := h3.tl (S' := (S.1, va_up S.2.1 (47 + (6 * l + i)) (tV B n (tE B n (tE B n q))), S.2.2)) he (fun a _ x _ => uM_ne x) rfl rfl hs2
      have r1 : RC M0 N0 e (S.1, va_up S.2.1 (47 + (6 * l + i)) (tV B n (tE B n (tE B n q))), S.2.2.1, S.2.2.2.1, va_up S.2.2.2.2 (6 * l + i) true) (uM M3 (e + 1) (53 + (6 * l + i)) (nI (tV B n (tE B n (tE B n q))))) (uN N 1 6 (N 1 6 ||| lN 1 <<< ((nI (l * 6 + i)).toInt64 &&& 63))) := by
        refine ⟨r0.1, fun a ha => by rw [uN_ne ha]; exact r0.2.1 a ha, r0.2.2.1, r0.2.2.2.1, ?_⟩
        rw [uN_k]
        refine (hB.or hj).cg (fun k hk => ?_)
        show (S.2.2.2.2 k || k == l * 6 + i) = va_up S.2.2.2.2 (6 * l + i) true k
        by_cases y : k = 6 * l + i
        · rw [y, up_eq, ej]; simp
        · rw [up_ne y, show (k == l * 6 + i) = false by rw [beq_eq_false_iff_ne]; omega, Bool.or_false]
      refine s26 hn he hb r1 (hT3.ts.tl he (fun a _ x _ => uM_ne x)) (fun v M5 N5 ho => ?_)
      simp only [false_imp_iff, true_imp_iff, not_false_eq_true, not_true_eq_false, true_and, and_true, implies_true, qn_self, rI_i, rJ_l, rV_n, okZ0, okZ1, oz ho]
      exact hQ _ _ _ ho
  · rw [ej] at z
    have z2 : S.2.2.2.2 (6 * l + i) = true := by
      cases hh : S.2.2.2.2 (6 * l + i)
      · exact absurd hh z
      · rfl
    rw [if_pos z2] at hQ
    simp only [B22_60, false_imp_iff, true_imp_iff, not_false_eq_true, not_true_eq_false, true_and, and_true, implies_true, qn_self, rI_i, rJ_l, rV_n, okZ0, okZ1, o1 hn, s30 hn hT2.2.2.2.2.1, okZ0]
    exact hQ _ _ _ ⟨rfl, h2.fl⟩
end LIN
