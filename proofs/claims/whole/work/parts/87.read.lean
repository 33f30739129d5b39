/-! READER: deeds, a line, all lines -/
section REA
variable {d : Nat} {M0 M : aM} {N0 N : aN} {P : aP} {t e nx n : Nat} {B : Nat → Nat} {S : PSt} {Q : aQ}
theorem l20 (hn : 44 ≤ nx) (he : isT e) (hk : KW M0) (hS : PW S) {w : Nat} (hw : w < 2 ^ 30) (hA : ¬ lkA S.2.2.2.1 w = true) (hd : S.1 3 < 5) {r : ER} (hb : BY M0 3 n B) (hQ : ∀ v M' N', OUT M0 N0 e n r v M' N' → Q (some (.int v)) M' N' (P0 t e) nx) : ∀ m j b q M, m + j = 7 → b < 64 → popN b = j → RC M0 N0 e (S.1, S.2.1, S.2.2.1, S.2.2.2.1 ++ [(w, 3, S.1 3)], S.2.2.2.2) M N → TO M B n q → (r = if b = 0 ∨ tK B n q = 1 then deedL B n S w m b q else finM B n (addN S 3 w S.2.1 (va_up S.2.2.1 (S.1 3) b)) q) → WP (aSem (d + 4)) g0 20 nx (qn nx Q) 45 [(0, .ref 1), (1, .int (nI b)), (2, .int (nI j))] [] M N (P0 t e) nx := by
  have hc := hS.1
  have c6 := hc
  unfold wfC at c6
  have hEW := hS.2.2.2.2.1
  have hlen := hS.len
  have hA2 := ewA hEW (i := S.1 3) hw (show 3 < 4 by decide) hA
  have h22 : (S.2.2.2.1 ++ [(w, 3, S.1 3)]).length ≤ 22 := by rw [List.length_append, List.length_singleton]; omega
  have fin : ∀ b q M, b < 64 → ¬ b = 0 → RC M0 N0 e (S.1, S.2.1, S.2.2.1, S.2.2.2.1 ++ [(w, 3, S.1 3)], S.2.2.2.2) M N → TO M B n q → r = finM B n (addN S 3 w S.2.1 (va_up S.2.2.1 (S.1 3) b)) q → WP (aSem (d + 4)) g0 20 nx (qn nx Q) 113 [(0, .ref 1), (1, .int (nI b))] [] M N (P0 t e) nx := by
    intro b q M hb6 hb0 h hT hr
    have h5 := tK_le (B := B) (n := n) (p := q)
    simp only [B20_113, false_imp_iff, true_imp_iff, not_false_eq_true, not_true_eq_false, true_and, and_true, implies_true, qn_self, rI_i, rJ_l, rV_n, okZ0, okZ1, o1 hn, o2 hn, oT hn he, exP (show P0 t e 1 8 = some e from rfl)]
    refine s62 hn he h.2.2.2.1 hc hd (fun M3 he3 hT3 => ?_)
    have hT4 := hT.tl he he3
    have h4 : RC M0 N0 e (addN S 3 w S.2.1 (va_up S.2.2.1 (S.1 3) b)) M3 N := by
      refine h.tl he he3 rfl rfl ?_
      show TD M3 e (va_up S.1 3 (S.1 3 + 1) 0) (va_up S.1 3 (S.1 3 + 1) 1) (va_up S.1 3 (S.1 3 + 1) 2) (va_up S.1 3 (S.1 3 + 1) 3) _ _
      rw [up_eq, c0u (by decide), c0u (by decide), c0u (by decide)]
      exact hT3
    unfold finM at hr
    simp only [false_imp_iff, true_imp_iff, not_false_eq_true, not_true_eq_false, true_and, and_true, implies_true, qn_self, rI_i, rJ_l, rV_n, okZ0, okZ1, o1 hn, o2 hn, exP (show P0 t e 1 0 = some 2 from rfl), hT4.2.2.2.1, nI_eq (show tK B n q < 2 ^ 31 by omega) (show 3 < 2 ^ 31 by decide)]
    refine ⟨fun z => ?_, fun z => ?_⟩
    · rw [if_pos z] at hr
      simp only [B20_140, B20_145, false_imp_iff, true_imp_iff, not_false_eq_true, not_true_eq_false, true_and, and_true, implies_true, qn_self, rI_i, rJ_l, rV_n, okZ0, okZ1, okZ1]
      exact hQ _ _ _ (by rw [hr]; exact ⟨rfl, h4, hT4.ts⟩)
    · rw [if_neg z] at hr
      simp only [B20_132, B20_144, B20_145, false_imp_iff, true_imp_iff, not_false_eq_true, not_true_eq_false, true_and, and_true, implies_true, qn_self, rI_i, rJ_l, rV_n, okZ0, okZ1, o1 hn, s30 hn hT4.2.2.2.2.1, eq_true nI_0, okZ0]
      exact hQ _ _ _ (by rw [hr]; exact ⟨rfl, h4.fl⟩)
  intro m
  induction m with
  | zero =>
    intro j b q M hj hb6 hp
    have := pop6 b
    omega
  | succ m ih =>
    intro j b q M hj hb6 hp h hT hr
    have p6 := pop6 b
    have h5 := tK_le (B := B) (n := n) (p := q)
    have e0 : (nI b = 0) ↔ b = 0 := nI_z (by omega)
    simp only [B20_45, false_imp_iff, true_imp_iff, not_false_eq_true, not_true_eq_false, true_and, and_true, implies_true, qn_self, rI_i, rJ_l, rV_n, okZ0, okZ1, ltN (show 6 < 2 ^ 31 by decide) (show j < 2 ^ 31 by omega), show ¬ 6 < j by omega]
    have go : r = deedL B n S w (m + 1) b q → WP (aSem (d + 4)) g0 20 nx (qn nx Q) 66 [(0, .ref 1), (1, .int (nI b)), (2, .int (nI j))] [] M N (P0 t e) nx := by
      intro hr2
      unfold deedL at hr2
      simp only [B20_66, false_imp_iff, true_imp_iff, not_false_eq_true, not_true_eq_false, true_and, and_true, implies_true, qn_self, rI_i, rJ_l, rV_n, okZ0, okZ1, o1 hn]
      refine s24 hn he hk h hA2.1 hA2.2 h22 hT (show 1 < 4 by decide) (fun M3 c hf3 hfl => ?_) (fun i hf3 hin => ?_)
      · have hf4 : ∀ f, refM B n S.2.2.2.1 1 q f = .error c := fun f => by rw [← hf3 f]; exact (refM_app (by decide) f).symm
        rw [hf4] at hr2
        simp only [false_imp_iff, true_imp_iff, not_false_eq_true, not_true_eq_false, true_and, and_true, implies_true, qn_self, rI_i, rJ_l, rV_n, okZ0, okZ1, B20_77, okZ0]
        exact hQ _ _ _ (by rw [hr2]; exact ⟨rfl, hfl⟩)
      · have hf4 : ∀ f, refM B n S.2.2.2.1 1 q f = f i (tE B n q) := fun f => by rw [← hf3 f]; exact (refM_app (by decide) f).symm
        rw [hf4] at hr2
        have hi : i < S.1 1 := (hEW.1 _ (inA hin (by decide))).2.2
        simp only [false_imp_iff, true_imp_iff, not_false_eq_true, not_true_eq_false, true_and, and_true, implies_true, qn_self, rI_i, rJ_l, rV_n, okZ0, okZ1, nI_ng1 (show i < 2 ^ 31 by omega), B20_79, bt64 i (by omega) b hb6]
        refine ⟨fun z => ?_, fun z => ?_⟩
        · rw [if_neg z] at hr2
          have hb2 := or64_lt i (by omega) b hb6
          have hp2 := pop1 i (by omega) b hb6 z
          have hn0 : ¬ b ||| 2 ^ i = 0 := fun y => by
            have h2 : 0 < 2 ^ i := Nat.pow_pos (by decide)
            have := (Nat.or_eq_zero_iff.mp y).2
            omega
          simp only [B20_94, false_imp_iff, true_imp_iff, not_false_eq_true, not_true_eq_false, true_and, and_true, implies_true, qn_self, rI_i, rJ_l, rV_n, okZ0, okZ1, o1 hn, o2 hn, exP (show P0 t e 1 0 = some 2 from rfl)]
          refine s49 hn (h.by he hb) hT.ts (fun M2 he2 hT2 => ?_)
          have h2 := h.p he he2
          simp only [false_imp_iff, true_imp_iff, not_false_eq_true, not_true_eq_false, true_and, and_true, implies_true, qn_self, rI_i, rJ_l, rV_n, okZ0, okZ1, or64 i (show i < 6 by omega) b hb6, nI_add]
          refine ih (j + 1) _ _ M2 (by omega) hb2 (by rw [hp2, hp]) h2 hT2 ?_
          rw [hr2]
          by_cases y : tK B n (tE B n q) = 1
          · rw [if_pos y, if_pos (Or.inr y)]
          · rw [if_neg y, if_neg (fun x => x.elim hn0 y)]
        · rw [if_pos z] at hr2
          simp only [B20_88, false_imp_iff, true_imp_iff, not_false_eq_true, not_true_eq_false, true_and, and_true, implies_true, qn_self, rI_i, rJ_l, rV_n, okZ0, okZ1, o1 hn, s30 hn hT.2.2.2.2.1, okZ0]
          exact hQ _ _ _ (by rw [hr2]; exact ⟨rfl, h.fl⟩)
    simp only [B20_51, false_imp_iff, true_imp_iff, not_false_eq_true, not_true_eq_false, true_and, and_true, implies_true, qn_self, rI_i, rJ_l, rV_n, okZ0, okZ1, e0]
    refine ⟨fun z => ?_, fun z => ?_⟩
    · rw [if_pos (Or.inl z)] at hr
      exact go hr
    · simp only [B20_55, false_imp_iff, true_imp_iff, not_false_eq_true, not_true_eq_false, true_and, and_true, implies_true, qn_self, rI_i, rJ_l, rV_n, okZ0, okZ1, o1 hn, o2 hn, exP (show P0 t e 1 0 = some 2 from rfl), hT.2.2.2.1, nI_eq (show tK B n q < 2 ^ 31 by omega) (show 3 < 2 ^ 31 by decide)]
      refine ⟨fun y => ?_, fun y => ?_⟩
      · rw [if_neg (fun x => x.elim z (fun u => by omega))] at hr
        exact fin b q M hb6 z h hT hr
      · by_cases u : tK B n q = 1
        · rw [if_pos (Or.inr u)] at hr
          exact go hr
        · rw [if_neg (fun x => x.elim z u)] at hr
          refine go (hr.trans ?_)
          unfold finM deedL
          rw [if_neg y]
          unfold refM
          rw [if_neg (fun v => u (isN_k.mp v).1)]
theorem s20 (hn : 44 ≤ nx) (he : isT e) (hk : KW M0) (hb : BY M0 3 n B) (h : RC M0 N0 e S M N) (hS : PW S) {p : Nat} (hT : TO M B n p) (hQ : ∀ v M' N', OUT M0 N0 e n (if 5 ≤ S.1 3 then .error (8 * tP B n p + 5) else deedM B n S (tE B n p)) v M' N' → Q (some (.int v)) M' N' (P0 t e) nx) : aSem (d + 5) 20 [.ref 1] M N (P0 t e) nx Q := by
  have hc := hS.1
  have c6 := hc
  unfold wfC at c6
  have hEW := hS.2.2.2.2.1
  have hlen := hS.len
  simp only [A20, B20_0, false_imp_iff, true_imp_iff, not_false_eq_true, not_true_eq_false, true_and, and_true, implies_true, qn_self, rI_i, rJ_l, rV_n, okZ0, okZ1, o1 hn, oT hn he, exP (show P0 t e 1 8 = some e from rfl), h.2.2.2.1.2.2.2.1, ltN (show S.1 3 < 2 ^ 31 by omega) (show 5 < 2 ^ 31 by decide)]
  refine ⟨fun z => ?_, fun z => ?_⟩
  · rw [if_neg (by omega)] at hQ
    unfold deedM at hQ
    simp only [B20_17, false_imp_iff, true_imp_iff, not_false_eq_true, not_true_eq_false, true_and, and_true, implies_true, qn_self, rI_i, rJ_l, rV_n, okZ0, okZ1, o1 hn, oT hn he, exP (show P0 t e 1 8 = some e from rfl), h.2.2.2.1.2.2.2.1]
    refine s23 hn he hk hb h (fun x hx => (hEW.1 x hx).1) (by omega) hT.ts (fun M1 c hf hfl => ?_) (fun M1 hf hv hA h1 hT1 => ?_)
    · rw [hf] at hQ
      simp only [false_imp_iff, true_imp_iff, not_false_eq_true, not_true_eq_false, true_and, and_true, implies_true, qn_self, rI_i, rJ_l, rV_n, okZ0, okZ1, eq_true nI_0, B20_32, okZ0]
      exact hQ _ _ _ ⟨rfl, hfl⟩
    · rw [hf] at hQ
      simp only [false_imp_iff, true_imp_iff, not_false_eq_true, not_true_eq_false, true_and, and_true, implies_true, qn_self, rI_i, rJ_l, rV_n, okZ0, okZ1, one0, B20_34, o1 hn, o2 hn, exP (show P0 t e 1 0 = some 2 from rfl)]
      refine s49 hn (h1.by he hb) hT1.ts (fun M2 he2 hT2 => ?_)
      simp only [false_imp_iff, true_imp_iff, not_false_eq_true, not_true_eq_false, true_and, and_true, implies_true, qn_self, rI_i, rJ_l, rV_n, okZ0, okZ1]
      exact l20 hn he hk hS hv hA z hb hQ 7 0 0 _ M2 (by omega) (by decide) rfl (h1.p he he2) hT2 (by rw [if_pos (Or.inl rfl)])
  · rw [if_pos (by omega)] at hQ
    simp only [B20_11, false_imp_iff, true_imp_iff, not_false_eq_true, not_true_eq_false, true_and, and_true, implies_true, qn_self, rI_i, rJ_l, rV_n, okZ0, okZ1, o1 hn, s30 hn hT.2.2.2.2.1, okZ0]
    exact hQ _ _ _ ⟨rfl, h.fl⟩
theorem s16 (hn : 44 ≤ nx) (he : isT e) (hk : KW M0) (hb : BY M0 3 n B) (h : RC M0 N0 e S M N) (hS : PW S) {p : Nat} (hT : TO M B n p) (hQ : ∀ v M' N', OUT M0 N0 e n (lineM B n S p) v M' N' → Q (some (.int v)) M' N' (P0 t e) nx) : aSem (d + 6) 16 [.ref 1] M N (P0 t e) nx Q := by
  have oz : ∀ {r v M N}, OUT M0 N0 e n r v M N → okZ v := fun z => z.z
  have k8 := kwT_le (B := B) (n := n) (p := p)
  have hc := hS.1
  unfold wfC at hc
  unfold lineM at hQ
  simp only [A16, B16_0, false_imp_iff, true_imp_iff, not_false_eq_true, not_true_eq_false, true_and, and_true, implies_true, qn_self, rI_i, rJ_l, rV_n, okZ0, okZ1, o1 hn, s28 hn (h.kw he hk) hT, kwC_e kwT_le (show 0 < 8 by decide), kwC_e kwT_le (show 1 < 8 by decide), kwC_e kwT_le (show 2 < 8 by decide), kwC_e kwT_le (show 3 < 8 by decide), kwC_e kwT_le (show 4 < 8 by decide), kwC_e kwT_le (show 5 < 8 by decide)]
  refine ⟨fun z => ?_, fun z0 => ⟨fun z => ?_, fun z1 => ⟨fun z => ?_, fun z2 => ⟨fun z => ?_, fun z3 => ⟨fun z => ?_, fun z4 => ⟨fun z => ?_, fun z5 => ?_⟩⟩⟩⟩⟩⟩
  · simp only [B16_44, false_imp_iff, true_imp_iff, not_false_eq_true, not_true_eq_false, true_and, and_true, implies_true, qn_self, rI_i, rJ_l, rV_n, okZ0, okZ1, o1 hn]
    refine s17 hn he hk hb h hS hT (fun v M' N' ho => ?_)
    simp only [false_imp_iff, true_imp_iff, not_false_eq_true, not_true_eq_false, true_and, and_true, implies_true, qn_self, rI_i, rJ_l, rV_n, okZ0, okZ1, oz ho]
    refine hQ _ _ _ ?_
    rw [if_neg (by omega)]
    by_cases y : 6 ≤ S.1 0
    · rw [if_pos ⟨by omega, by rw [z]; exact y⟩]; rw [if_pos y] at ho; exact ho
    · rw [if_neg (fun x => y (by have := x.2; rw [z] at this; exact this)), if_pos z]; rw [if_neg y] at ho; exact ho
  · simp only [B16_49, false_imp_iff, true_imp_iff, not_false_eq_true, not_true_eq_false, true_and, and_true, implies_true, qn_self, rI_i, rJ_l, rV_n, okZ0, okZ1, o1 hn]
    refine s18 hn he hk hb h hS hT (fun v M' N' ho => ?_)
    simp only [false_imp_iff, true_imp_iff, not_false_eq_true, not_true_eq_false, true_and, and_true, implies_true, qn_self, rI_i, rJ_l, rV_n, okZ0, okZ1, oz ho]
    refine hQ _ _ _ ?_
    rw [if_neg (by omega)]
    by_cases y : 6 ≤ S.1 1
    · rw [if_pos ⟨by omega, by rw [z]; exact y⟩]; rw [if_pos y] at ho; exact ho
    · rw [if_neg (fun x => y (by have := x.2; rw [z] at this; exact this)), if_neg z0, if_pos z]; rw [if_neg y] at ho; exact ho
  · simp only [B16_54, false_imp_iff, true_imp_iff, not_false_eq_true, not_true_eq_false, true_and, and_true, implies_true, qn_self, rI_i, rJ_l, rV_n, okZ0, okZ1, o1 hn]
    refine s19 hn he hk hb h hS hT (fun v M' N' ho => ?_)
    simp only [false_imp_iff, true_imp_iff, not_false_eq_true, not_true_eq_false, true_and, and_true, implies_true, qn_self, rI_i, rJ_l, rV_n, okZ0, okZ1, oz ho]
    refine hQ _ _ _ ?_
    rw [if_neg (by omega)]
    by_cases y : 5 ≤ S.1 2
    · rw [if_pos ⟨by omega, by rw [z]; exact y⟩]; rw [if_pos y] at ho; exact ho
    · rw [if_neg (fun x => y (by have := x.2; rw [z] at this; exact this)), if_neg z0, if_neg z1, if_pos z]; rw [if_neg y] at ho; exact ho
  · simp only [B16_59, false_imp_iff, true_imp_iff, not_false_eq_true, not_true_eq_false, true_and, and_true, implies_true, qn_self, rI_i, rJ_l, rV_n, okZ0, okZ1, o1 hn]
    refine s20 hn he hk hb h hS hT (fun v M' N' ho => ?_)
    simp only [false_imp_iff, true_imp_iff, not_false_eq_true, not_true_eq_false, true_and, and_true, implies_true, qn_self, rI_i, rJ_l, rV_n, okZ0, okZ1, oz ho]
    refine hQ _ _ _ ?_
    rw [if_neg (by omega)]
    by_cases y : 5 ≤ S.1 3
    · rw [if_pos ⟨by omega, by rw [z]; exact y⟩]; rw [if_pos y] at ho; exact ho
    · rw [if_neg (fun x => y (by have := x.2; rw [z] at this; exact this)), if_neg z0, if_neg z1, if_neg z2, if_pos z]; rw [if_neg y] at ho; exact ho
  · rw [if_neg (by omega), if_neg (by omega), if_neg z0, if_neg z1, if_neg z2, if_neg z3, if_pos z] at hQ
    simp only [B16_64, false_imp_iff, true_imp_iff, not_false_eq_true, not_true_eq_false, true_and, and_true, implies_true, qn_self, rI_i, rJ_l, rV_n, okZ0, okZ1, o1 hn]
    refine s21 hn he hk hb h hS hT.ts (fun v M' N' ho => ?_)
    simp only [false_imp_iff, true_imp_iff, not_false_eq_true, not_true_eq_false, true_and, and_true, implies_true, qn_self, rI_i, rJ_l, rV_n, okZ0, okZ1, oz ho]
    exact hQ _ _ _ ho
  · rw [if_neg (by omega), if_neg (by omega), if_neg z0, if_neg z1, if_neg z2, if_neg z3, if_neg z4] at hQ
    simp only [B16_69, false_imp_iff, true_imp_iff, not_false_eq_true, not_true_eq_false, true_and, and_true, implies_true, qn_self, rI_i, rJ_l, rV_n, okZ0, okZ1, o1 hn]
    refine s22 hn he hk hb h hS hT.ts (fun v M' N' ho => ?_)
    simp only [false_imp_iff, true_imp_iff, not_false_eq_true, not_true_eq_false, true_and, and_true, implies_true, qn_self, rI_i, rJ_l, rV_n, okZ0, okZ1, oz ho]
    exact hQ _ _ _ ho
  · rw [if_pos (by omega)] at hQ
    simp only [B16_74, false_imp_iff, true_imp_iff, not_false_eq_true, not_true_eq_false, true_and, and_true, implies_true, qn_self, rI_i, rJ_l, rV_n, okZ0, okZ1, o1 hn, s30 hn hT.2.2.2.2.1, okZ0]
    exact hQ _ _ _ ⟨rfl, h.fl⟩
end REA
