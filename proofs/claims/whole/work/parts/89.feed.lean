/-! DESK and FEED -/
theorem ngc {c : Nat} (h : c < 2 ^ 30) : ng2 - nI c < 0 := by
  have h0 : (0 : Int32).toInt = 0 := by decide +kernel
  rw [Int32.lt_iff_toInt_lt, Int32.toInt_sub, ng2_i, nI_toInt (by omega), h0]
  unfold Int.bmod
  dsimp only
  split <;> omega
theorem vl_le {x : Int32} {a : Nat} (h : a < 2 ^ 30) : vl x (a + 1) ↔ ¬ x < 0 ∧ x ≤ nI a := by
  have h0 : (0 : Int32).toInt = 0 := by decide +kernel
  unfold vl
  rw [Int32.lt_iff_toInt_lt, Int32.le_iff_toInt_le, nI_toInt (by omega), h0]
  omega
section DSK
variable {d : Nat} {M : aM} {N : aN} {P : aP} {t e nx ln is fc dn u a : Nat} {row nd : Nat → Nat} {hs ks : Nat → Nat → Nat} {kp : Nat → Bool} {B : Nat → Nat} {Q : aQ}
theorem s93n (hn : 44 ≤ nx) (ha : M 2 1 = nI a) (ha7 : a ≤ 700) {x : Int32} (hv : ¬ vl x (a + 1)) : aSem (d + 8) 93 [.ref 0, .int x] M N (P0 t e) nx Q ↔ Q (some (.int ng1)) M N (P0 t e) nx := by
  rw [vl_le (by omega)] at hv
  simp only [A93, B93_0, B93_15, false_imp_iff, true_imp_iff, not_false_eq_true, not_true_eq_false, true_and, and_true, implies_true, qn_self, rI_i, rJ_l, rV_n, okZ0, okZ1]
  by_cases h0 : x < 0
  · simp only [h0, false_imp_iff, true_imp_iff, not_false_eq_true, not_true_eq_false, true_and, and_true, implies_true, qn_self, rI_i, rJ_l, rV_n, okZ0, okZ1]
  · simp only [h0, false_imp_iff, true_imp_iff, not_false_eq_true, not_true_eq_false, true_and, and_true, implies_true, qn_self, rI_i, rJ_l, rV_n, okZ0, okZ1, B93_4, B93_15, o0 hn, o2 hn, exP (show P0 t e 0 0 = some 2 from rfl), ha, show ¬ x ≤ nI a from fun z => hv ⟨h0, z⟩]
theorem s93 (hn : 44 ≤ nx) (he : isT e) (hk : KW M) (hb : BY M 3 a B) (ha : M 2 1 = nI a) (ha7 : a ≤ 700) (hP : PA M is u hs kp ks) {n : Nat} (hna : n ≤ a) {hs' ks' : Nat → Nat → Nat}
    (hF : ∀ c M' N', prsM B n (n + 1) S0 0 0 = .error c → (∀ b, b ≠ 1 → b ≠ 2 → b ≠ 5 → b ≠ 6 → b ≠ 7 → b ≠ e → b ≠ e + 1 → b ≠ e + 2 → M' b = M b) → M' 2 1 = nI 0 → eqN1 N N' → Q (some (.int (ng2 - nI c))) M' N' (P0 t e) nx)
    (hO : ∀ S l M' N', prsM B n (n + 1) S0 0 0 = .ok (S, l) → PW S → (∀ b, b ≠ 1 → b ≠ 2 → b ≠ 5 → b ≠ 6 → b ≠ 7 → b ≠ e → b ≠ e + 1 → b ≠ e + 2 → b ≠ 25 → M' b = M b) → M' 2 1 = nI 0 → eqN1 N N' → TD M' e (S.1 0) (S.1 1) (S.1 2) (S.1 3) S.2.1 S.2.2.1 → PA M' (S.1 1) 0 hs' (fun _ => false) ks' → Q (some (.int (nI l))) M' N' (P0 e t) nx) : aSem (d + 8) 93 [.ref 0, .int (nI n)] M N (P0 t e) nx Q := by
  have g8 := he.ge
  have l31 := lT he
  have e22 : ∀ c, c = 25 ∨ c = 26 ∨ c = 27 → ¬ c = e ∧ ¬ c = e + 1 ∧ ¬ c = e + 2 := by
    intro c hc
    rcases he with rfl | rfl | rfl <;> omega
  simp only [A93, B93_0, B93_4, B93_17, false_imp_iff, true_imp_iff, not_false_eq_true, not_true_eq_false, true_and, and_true, implies_true, qn_self, rI_i, rJ_l, rV_n, okZ0, okZ1, nI_pos (show n < 2 ^ 31 by omega), o0 hn, o1 hn, o2 hn, exP (show P0 t e 0 0 = some 2 from rfl), exP (show P0 t e 0 1 = some 1 from rfl), ha, nI_leI (show n < 2 ^ 31 by omega) (show a < 2 ^ 31 by omega), hna]
  have hb2 : BY M 3 n B := fun k hk => hb k (by omega)
  refine s15 hn he hk hb2 ha ha7 hna (fun M1 N1 ho => ?_)
  have g := GA_prs (B := B) (n := n) (n + 1) S0 0 0 PW_0 (Nat.zero_le _) (Nat.le_refl _)
  simp only [false_imp_iff, true_imp_iff, not_false_eq_true, not_true_eq_false, true_and, and_true, implies_true, qn_self, rI_i, rJ_l, rV_n, okZ0, okZ1, o0 hn, o2 hn, exP (show P0 t e 0 0 = some 2 from rfl)]
  cases hr : prsM B n (n + 1) S0 0 0 with
  | error c =>
    rw [hr] at ho g
    have g2 : c ≤ 8 * n + 5 := g
    have e1 : deV (.error c) = ng2 - nI c := rfl
    simp only [e1, ngc (show c < 2 ^ 30 by omega), false_imp_iff, true_imp_iff, not_false_eq_true, not_true_eq_false, true_and, and_true, implies_true, qn_self, rI_i, rJ_l, rV_n, okZ0, okZ1, B93_69]
    refine hF c _ _ hr (fun b x y z w p q r s => ?_) uM_k ho.2
    rw [uM_ne y]; exact ho.1.1 b x y z w p q r s
  | ok y =>
    obtain ⟨S, l⟩ := y
    rw [hr] at ho g
    obtain ⟨g1, g2⟩ := g
    have e1 : deV (.ok (S, l)) = nI l := rfl
    have ho2 : RC M N e S M1 N1 := ho
    have a1 : uP (P0 t e) 0 5 (some e) 0 1 = some 1 := by rw [uP_eq, up_ne (by decide)]; rfl
    have a2 : P0 e t 0 4 = some 25 := rfl
    simp only [e1, nI_pos (show l < 2 ^ 31 by omega), false_imp_iff, true_imp_iff, not_false_eq_true, not_true_eq_false, true_and, and_true, implies_true, qn_self, rI_i, rJ_l, rV_n, okZ0, okZ1, B93_38, o0 hn, o1 hn, o25 hn, exP (show P0 t e 0 5 = some t from rfl), exP (show P0 t e 0 1 = some 1 from rfl), exP (show P0 t e 1 8 = some e from rfl), exP a1, P0_sw, exP a2]
    have hP2 : PA (uM M1 2 1 (nI 0)) is u hs kp ks := by
      refine hP.fr ?_ ?_ ?_
      · rw [uM_ne (by decide)]; exact ho2.1.1 25 (by decide) (by decide) (by decide) (by decide) (by decide) (e22 25 (by omega)).1 (e22 25 (by omega)).2.1 (e22 25 (by omega)).2.2
      · rw [uM_ne (by decide)]; exact ho2.1.1 26 (by decide) (by decide) (by decide) (by decide) (by decide) (e22 26 (by omega)).1 (e22 26 (by omega)).2.1 (e22 26 (by omega)).2.2
      · rw [uM_ne (by decide)]; exact ho2.1.1 27 (by decide) (by decide) (by decide) (by decide) (by decide) (e22 27 (by omega)).1 (e22 27 (by omega)).2.1 (e22 27 (by omega)).2.2
    refine s8 hn hP2 (is' := S.1 1) (hs' := hs') (ks' := ks') (fun M2 he2 hP3 => ?_)
    simp only [false_imp_iff, true_imp_iff, not_false_eq_true, not_true_eq_false, true_and, and_true, implies_true, qn_self, rI_i, rJ_l, rV_n, okZ0, okZ1, B93_69]
    have q25 := e22 25 (by omega)
    refine hO S l _ _ hr g1 (fun b x y z w p q r s v => ?_) ?_ ho2.2.1 (ho2.2.2.2.1.fr ?_ ?_ ?_) hP3
    · rw [he2 b v, uM_ne y]; exact ho2.1.1 b x y z w p q r s
    · rw [he2 2 (by decide), uM_k]
    · rw [he2 e (fun z => q25.1 z.symm), uM_ne (by omega)]
    · rw [he2 _ (fun z => q25.2.1 z.symm), uM_ne (by omega)]
    · rw [he2 _ (fun z => q25.2.2 z.symm), uM_ne (by omega)]
-- feed
def by8 (x : Int32) (s : Nat) : Nat := (x >>> (nI s &&& 31)).toInt8.toUInt8.toNat
/-- bytes with one more int -/
def pt4 (B : Nat → Nat) (a : Nat) (x : Int32) : Nat → Nat := va_up (va_up (va_up (va_up B a (by8 x 24)) (a + 1) (by8 x 16)) (a + 2) (by8 x 8)) (a + 3) (by8 x 0)
theorem BY.up {c : Nat} {x : Int32} {s : Nat} (h : BY M c a B) : BY (uM M c a ((x >>> (nI s &&& 31)).toInt8.toInt32)) c (a + 1) (va_up B a (by8 x s)) := by
  intro k hk
  by_cases q : k = a
  · subst q
    rw [uM_k, up_eq]
    exact sx_b _
  · rw [uM_j q, up_ne q]
    exact h k (by omega)
theorem st47 (hn : 44 ≤ nx) {x y : Int32} (hy : ¬ y < 0) (ha : M 2 1 = nI a) (ha7 : a < 700) : WP (aSem d) g0 47 nx (qn nx Q) 3 [(0, .ref 2), (1, .int x), (2, .int y)] [] M N (P0 t e) nx ↔ WP (aSem d) g0 47 nx (qn nx Q) 3 [(0, .ref 2), (1, .int x), (2, .int (y + Int32.ofInt (-8)))] [] (uM (uM M 3 a ((x >>> (y &&& 31)).toInt8.toInt32)) 2 1 (nI (a + 1))) N (P0 t e) nx := by
  have e1 : uM M 3 a ((x >>> (y &&& 31)).toInt8.toInt32.toInt8.toInt32) 2 1 = nI a := by rw [uM_a (by decide)]; exact ha
  have e2 : ((x >>> (y &&& 31)).toInt8.toInt32).toInt8.toInt32 = (x >>> (y &&& 31)).toInt8.toInt32 := by
    rw [Int8.toInt8_toInt32]
  rw [B47_3]
  simp only [hy, false_imp_iff, true_imp_iff, not_false_eq_true, not_true_eq_false, true_and, and_true, implies_true, qn_self, rI_i, rJ_l, rV_n, okZ0, okZ1, B47_7, B47_17, o2 hn, ha, nI_ge ha7 (show 700 < 2 ^ 31 by decide), exP (show P0 t e 2 0 = some 3 from rfl), exS2 (show kindOf 3 = (2, 700) from rfl) (show 3 < nx by omega) (by decide) ha7, e1, e2, nI_add]
  rw [e2] at e1
  rw [e1, nI_add]
/-- memory but for bytes fed -/
def eqF (c o k : Nat) (M M' : aM) : Prop := (∀ b, b ≠ c → b ≠ o → M' b = M b) ∧ ∀ j, j ≠ k → M' o j = M o j
theorem s47 (hn : 44 ≤ nx) {x : Int32} (ha : M 2 1 = nI a) (ha7 : a + 4 ≤ 700) (hb : BY M 3 a B) (hQ : ∀ M', eqF 3 2 1 M M' → M' 2 1 = nI (a + 4) → BY M' 3 (a + 4) (pt4 B a x) → Q none M' N (P0 t e) nx) : aSem (d + 1) 47 [.ref 2, .int x] M N (P0 t e) nx Q := by
  have q1 : ¬ nI 24 < 0 := by decide +kernel
  have q2 : ¬ nI 16 < 0 := by decide +kernel
  have q3 : ¬ nI 8 < 0 := by decide +kernel
  have q4 : ¬ nI 0 < 0 := by decide +kernel
  have v1 : nI 24 + Int32.ofInt (-8) = nI 16 := by decide +kernel
  have v2 : nI 16 + Int32.ofInt (-8) = nI 8 := by decide +kernel
  have v3 : nI 8 + Int32.ofInt (-8) = nI 0 := by decide +kernel
  have v4 : nI 0 + Int32.ofInt (-8) < 0 := by decide +kernel
  simp only [A47, B47_0]
  rw [st47 hn q1 ha (by omega), v1, st47 hn q2 uM_k (by omega), v2, st47 hn q3 uM_k (by omega), v3, st47 hn q4 uM_k (by omega), B47_3]
  simp only [v4, false_imp_iff, true_imp_iff, not_false_eq_true, not_true_eq_false, true_and, and_true, implies_true, qn_self, rI_i, rJ_l, rV_n, okZ0, okZ1, B47_46]
  have go : ∀ {M : aM} {a : Nat} {B : Nat → Nat} {s : Nat}, BY M 3 a B → BY (uM (uM M 3 a ((x >>> (nI s &&& 31)).toInt8.toInt32)) 2 1 (nI (a + 1))) 3 (a + 1) (va_up B a (by8 x s)) := by
    intro M a B s h k hk
    rw [uM_a (by decide)]
    exact h.up k hk
  have fr : ∀ {M' : aM} {a : Nat} {v w : Int32}, eqF 3 2 1 M M' → eqF 3 2 1 M (uM (uM M' 3 a v) 2 1 w) := by
    intro M' a v w h
    refine ⟨fun b x y => ?_, fun j hj => ?_⟩
    · rw [uM_ne y, uM_ne x]; exact h.1 b x y
    · rw [uM_j hj, uM_a (by decide)]; exact h.2 j hj
  refine hQ _ (fr (fr (fr (fr ⟨fun _ _ _ => rfl, fun _ _ => rfl⟩)))) uM_k (go (go (go (go hb))))
theorem eqF.tr {c o k : Nat} {M1 M2 : aM} (h : eqF c o k M M1) (h' : eqF c o k M1 M2) : eqF c o k M M2 := ⟨fun b x y => (h'.1 b x y).trans (h.1 b x y), fun j hj => (h'.2 j hj).trans (h.2 j hj)⟩
def pt20 (B : Nat → Nat) (a : Nat) (x1 x2 x3 x4 x5 : Int32) : Nat → Nat := pt4 (pt4 (pt4 (pt4 (pt4 B a x1) (a + 4) x2) (a + 4 + 4) x3) (a + 4 + 4 + 4) x4) (a + 4 + 4 + 4 + 4) x5
theorem s92n (hn : 44 ≤ nx) (ha : M 2 1 = nI a) (ha7 : a ≤ 700) (hv : ¬ a + 20 ≤ 700) {x1 x2 x3 x4 x5 : Int32} : aSem (d + 2) 92 [.ref 0, .int x1, .int x2, .int x3, .int x4, .int x5] M N (P0 t e) nx Q ↔ Q (some (.int ng1)) M N (P0 t e) nx := by
  simp only [A92, B92_0, B92_12, false_imp_iff, true_imp_iff, not_false_eq_true, not_true_eq_false, true_and, and_true, implies_true, qn_self, rI_i, rJ_l, rV_n, okZ0, okZ1, o0 hn, o2 hn, exP (show P0 t e 0 0 = some 2 from rfl), s46 hn ha ha7 (show 20 < 1000 by decide), if_neg hv, eq_true nI_0]
theorem s92 (hn : 44 ≤ nx) (ha : M 2 1 = nI a) (hv : a + 20 ≤ 700) (hb : BY M 3 a B) {x1 x2 x3 x4 x5 : Int32} (hQ : ∀ M', eqF 3 2 1 M M' → M' 2 1 = nI (a + 20) → BY M' 3 (a + 20) (pt20 B a x1 x2 x3 x4 x5) → Q (some (.int (nI (a + 20)))) M' N (P0 t e) nx) : aSem (d + 2) 92 [.ref 0, .int x1, .int x2, .int x3, .int x4, .int x5] M N (P0 t e) nx Q := by
  simp only [A92, B92_0, B92_14, false_imp_iff, true_imp_iff, not_false_eq_true, not_true_eq_false, true_and, and_true, implies_true, qn_self, rI_i, rJ_l, rV_n, okZ0, okZ1, o0 hn, o2 hn, exP (show P0 t e 0 0 = some 2 from rfl), s46 hn ha (show a ≤ 700 by omega) (show 20 < 1000 by decide), if_pos hv, one0]
  refine s47 hn ha (by omega) hb (fun M1 f1 a1 b1 => ?_)
  simp only [false_imp_iff, true_imp_iff, not_false_eq_true, not_true_eq_false, true_and, and_true, implies_true, qn_self, rI_i, rJ_l, rV_n, okZ0, okZ1, o0 hn, o2 hn, exP (show P0 t e 0 0 = some 2 from rfl)]
  refine s47 hn a1 (by omega) b1 (fun M2 f2 a2 b2 => ?_)
  simp only [false_imp_iff, true_imp_iff, not_false_eq_true, not_true_eq_false, true_and, and_true, implies_true, qn_self, rI_i, rJ_l, rV_n, okZ0, okZ1, o0 hn, o2 hn, exP (show P0 t e 0 0 = some 2 from rfl)]
  refine s47 hn a2 (by omega) b2 (fun M3 f3 a3 b3 => ?_)
  simp only [false_imp_iff, true_imp_iff, not_false_eq_true, not_true_eq_false, true_and, and_true, implies_true, qn_self, rI_i, rJ_l, rV_n, okZ0, okZ1, o0 hn, o2 hn, exP (show P0 t e 0 0 = some 2 from rfl)]
  refine s47 hn a3 (by omega) b3 (fun M4 f4 a4 b4 => ?_)
  simp only [false_imp_iff, true_imp_iff, not_false_eq_true, not_true_eq_false, true_and, and_true, implies_true, qn_self, rI_i, rJ_l, rV_n, okZ0, okZ1, o0 hn, o2 hn, exP (show P0 t e 0 0 = some 2 from rfl)]
  refine s47 hn a4 (by omega) b4 (fun M5 f5 a5 b5 => ?_)
  simp only [false_imp_iff, true_imp_iff, not_false_eq_true, not_true_eq_false, true_and, and_true, implies_true, qn_self, rI_i, rJ_l, rV_n, okZ0, okZ1, o0 hn, o2 hn, exP (show P0 t e 0 0 = some 2 from rfl), a5]
  exact hQ M5 (f1.tr (f2.tr (f3.tr (f4.tr f5)))) a5 b5
-- the reference's
theorem st132 (hn : 44 ≤ nx) {x y : Int32} (hy : ¬ y < 0) (ha : M 31 2 = nI a) (ha7 : a < 700) : WP (aSem d) g0 132 nx (qn nx Q) 3 [(0, .ref 31), (1, .int x), (2, .int y)] [] M N (P0 t e) nx ↔ WP (aSem d) g0 132 nx (qn nx Q) 3 [(0, .ref 31), (1, .int x), (2, .int (y + Int32.ofInt (-8)))] [] (uM (uM M 32 a ((x >>> (y &&& 31)).toInt8.toInt32)) 31 2 (nI (a + 1))) N (P0 t e) nx := by
  have e1 : uM M 32 a ((x >>> (y &&& 31)).toInt8.toInt32.toInt8.toInt32) 31 2 = nI a := by rw [uM_a (by decide)]; exact ha
  have e2 : ((x >>> (y &&& 31)).toInt8.toInt32).toInt8.toInt32 = (x >>> (y &&& 31)).toInt8.toInt32 := by
    rw [Int8.toInt8_toInt32]
  rw [B132_3]
  simp only [hy, false_imp_iff, true_imp_iff, not_false_eq_true, not_true_eq_false, true_and, and_true, implies_true, qn_self, rI_i, rJ_l, rV_n, okZ0, okZ1, B132_7, o31 hn, ha, exP (show P0 t e 31 1 = some 32 from rfl), exS2 (show kindOf 32 = (2, 700) from rfl) (show 32 < nx by omega) (by decide) ha7, e1, e2, nI_add]
  rw [e2] at e1
  rw [e1, nI_add]
theorem s132 (hn : 44 ≤ nx) {x : Int32} (ha : M 31 2 = nI a) (ha7 : a + 4 ≤ 700) (hb : BY M 32 a B) (hQ : ∀ M', eqF 32 31 2 M M' → M' 31 2 = nI (a + 4) → BY M' 32 (a + 4) (pt4 B a x) → Q none M' N (P0 t e) nx) : aSem (d + 1) 132 [.ref 31, .int x] M N (P0 t e) nx Q := by
  have q1 : ¬ nI 24 < 0 := by decide +kernel
  have q2 : ¬ nI 16 < 0 := by decide +kernel
  have q3 : ¬ nI 8 < 0 := by decide +kernel
  have q4 : ¬ nI 0 < 0 := by decide +kernel
  have v1 : nI 24 + Int32.ofInt (-8) = nI 16 := by decide +kernel
  have v2 : nI 16 + Int32.ofInt (-8) = nI 8 := by decide +kernel
  have v3 : nI 8 + Int32.ofInt (-8) = nI 0 := by decide +kernel
  have v4 : nI 0 + Int32.ofInt (-8) < 0 := by decide +kernel
  simp only [A132, B132_0]
  rw [st132 hn q1 ha (by omega), v1, st132 hn q2 uM_k (by omega), v2, st132 hn q3 uM_k (by omega), v3, st132 hn q4 uM_k (by omega), B132_3]
  simp only [v4, false_imp_iff, true_imp_iff, not_false_eq_true, not_true_eq_false, true_and, and_true, implies_true, qn_self, rI_i, rJ_l, rV_n, okZ0, okZ1, B132_36]
  have go : ∀ {M : aM} {a : Nat} {B : Nat → Nat} {s : Nat}, BY M 32 a B → BY (uM (uM M 32 a ((x >>> (nI s &&& 31)).toInt8.toInt32)) 31 2 (nI (a + 1))) 32 (a + 1) (va_up B a (by8 x s)) := by
    intro M a B s h k hk
    rw [uM_a (by decide)]
    exact h.up k hk
  have fr : ∀ {M' : aM} {a : Nat} {v w : Int32}, eqF 32 31 2 M M' → eqF 32 31 2 M (uM (uM M' 32 a v) 31 2 w) := by
    intro M' a v w h
    refine ⟨fun b x y => ?_, fun j hj => ?_⟩
    · rw [uM_ne y, uM_ne x]; exact h.1 b x y
    · rw [uM_j hj, uM_a (by decide)]; exact h.2 j hj
  refine hQ _ (fr (fr (fr (fr ⟨fun _ _ _ => rfl, fun _ _ => rfl⟩)))) uM_k (go (go (go (go hb))))
theorem s133n (hn : 44 ≤ nx) (ha : M 31 2 = nI a) (ha7 : a ≤ 700) (hv : ¬ a + 20 ≤ 700) {x1 x2 x3 x4 x5 : Int32} (hQ : ∀ M', eqM M M' → Q (some (.int ng1)) M' N (P0 t e) nx) : aSem (d + 2) 133 [.ref 31, .int x1, .int x2, .int x3, .int x4, .int x5] M N (P0 t e) nx Q := by
  have a0 : uM M 31 0 (nI 0) 31 2 = nI a := by rw [uM_j (by decide)]; exact ha
  simp only [A133, B133_0, B133_18, false_imp_iff, true_imp_iff, not_false_eq_true, not_true_eq_false, true_and, and_true, implies_true, qn_self, rI_i, rJ_l, rV_n, okZ0, okZ1, o31 hn, a0, nI_add, nI_leI (show a + 20 < 2 ^ 31 by omega) (show 700 < 2 ^ 31 by decide), hv]
  exact hQ _ eqM_z
theorem s133 (hn : 44 ≤ nx) (ha : M 31 2 = nI a) (hv : a + 20 ≤ 700) (hb : BY M 32 a B) {x1 x2 x3 x4 x5 : Int32} (hQ : ∀ M', eqF 32 31 2 (uM M 31 0 (nI 0)) M' → M' 31 2 = nI (a + 20) → BY M' 32 (a + 20) (pt20 B a x1 x2 x3 x4 x5) → Q (some (.int (nI (a + 20)))) M' N (P0 t e) nx) : aSem (d + 2) 133 [.ref 31, .int x1, .int x2, .int x3, .int x4, .int x5] M N (P0 t e) nx Q := by
  have a0 : uM M 31 0 (nI 0) 31 2 = nI a := by rw [uM_j (by decide)]; exact ha
  have b0 : BY (uM M 31 0 (nI 0)) 32 a B := fun k hk => by rw [uM_a (by decide)]; exact hb k hk
  simp only [A133, B133_0, B133_20, false_imp_iff, true_imp_iff, not_false_eq_true, not_true_eq_false, true_and, and_true, implies_true, qn_self, rI_i, rJ_l, rV_n, okZ0, okZ1, o31 hn, a0, nI_add, nI_leI (show a + 20 < 2 ^ 31 by omega) (show 700 < 2 ^ 31 by decide), hv]
  refine s132 hn a0 (by omega) b0 (fun M1 f1 a1 b1 => ?_)
  simp only [false_imp_iff, true_imp_iff, not_false_eq_true, not_true_eq_false, true_and, and_true, implies_true, qn_self, rI_i, rJ_l, rV_n, okZ0, okZ1, o31 hn]
  refine s132 hn a1 (by omega) b1 (fun M2 f2 a2 b2 => ?_)
  simp only [false_imp_iff, true_imp_iff, not_false_eq_true, not_true_eq_false, true_and, and_true, implies_true, qn_self, rI_i, rJ_l, rV_n, okZ0, okZ1, o31 hn]
  refine s132 hn a2 (by omega) b2 (fun M3 f3 a3 b3 => ?_)
  simp only [false_imp_iff, true_imp_iff, not_false_eq_true, not_true_eq_false, true_and, and_true, implies_true, qn_self, rI_i, rJ_l, rV_n, okZ0, okZ1, o31 hn]
  refine s132 hn a3 (by omega) b3 (fun M4 f4 a4 b4 => ?_)
  simp only [false_imp_iff, true_imp_iff, not_false_eq_true, not_true_eq_false, true_and, and_true, implies_true, qn_self, rI_i, rJ_l, rV_n, okZ0, okZ1, o31 hn]
  refine s132 hn a4 (by omega) b4 (fun M5 f5 a5 b5 => ?_)
  simp only [false_imp_iff, true_imp_iff, not_false_eq_true, not_true_eq_false, true_and, and_true, implies_true, qn_self, rI_i, rJ_l, rV_n, okZ0, okZ1, o31 hn, a5]
  exact hQ M5 (f1.tr (f2.tr (f3.tr (f4.tr f5)))) a5 b5
end DSK
