/-! THE REFERENCE: desk -/
section MD3
variable {d : Nat} {M0 M : aM} {N0 N : aN} {P : aP} {t e nx n : Nat} {B : Nat → Nat} {S : PSt} {Q : aQ}
/-- all is copied -/
theorem c155b (hn : 44 ≤ nx) (h33 : ∀ k, k < 4 → M 33 (4 + k) = nI (S.1 k)) (h35 : ∀ k, k < S.1 3 → M 35 (8 + k) = nI (S.2.2.1 k)) (h37 : ∀ k, k < 89 → M 37 k = nI (S.2.1 k)) (hS : PW S) {l : Nat} (hK : ∀ M' N', (∀ a, a < 31 → M' a = M a) → (∀ a, a < 31 → N' a = N a) → (∀ k, k ≠ 20 → M' 31 k = M 31 k) → M' 31 20 = nI 0 → (∀ a, 38 < a → a ≠ 41 → M' a = M a) → M' 41 0 = nI 0 → M' 41 1 = nI 0 → MV M' (S.1 0) (S.1 1) (S.1 2) (S.1 3) S.2.1 S.2.2.1 → M' 32 = M 32 → Q (some (.int (nI l))) M' N' (P0 t e) nx) : WP (aSem d) g0 155 nx (qn nx Q) 105 [(0, .ref 31), (2, .int (nI l)), (3, .int (nI 1))] [] M N (P0 t e) nx := by
  have c3 := cle hS (show 3 < 4 by decide)
  simp only [B155_105]
  refine fill (M := M) (W := fun k M' => WP (aSem d) g0 155 nx (qn nx Q) 108 [(0, .ref 31), (2, .int (nI l)), (4, .int (nI k))] [] M' N (P0 t e) nx) (c := 33) (o := 0) (N := 4) (g := fun k => nI (S.1 k)) (fun k M' hk _ hc hw => ?_) (fun M1 a1 b1 c1 => ?_)
  · have e1 : M' 33 (4 + k) = nI (S.1 k) := by rw [hc _ (by omega)]; exact h33 k hk
    simp only [B155_108, false_imp_iff, true_imp_iff, not_false_eq_true, not_true_eq_false, true_and, and_true, implies_true, qn_self, rI_i, rJ_l, rV_n, okZ0, okZ1, nI_ge (show k < 4 by omega) (show 4 < 2 ^ 31 by decide)]
    simp only [B155_114, false_imp_iff, true_imp_iff, not_false_eq_true, not_true_eq_false, true_and, and_true, implies_true, qn_self, rI_i, rJ_l, rV_n, okZ0, okZ1, o31 hn, exP (show P0 t e 31 13 = some 33 from rfl), nI_add, x33 hn (show 4 + k < 8 by omega), x33 hn (show k < 8 by omega), e1]
    rw [Nat.zero_add] at hw
    exact hw
  simp only [B155_108, B155_136, false_imp_iff, true_imp_iff, not_false_eq_true, not_true_eq_false, true_and, and_true, implies_true, qn_self, rI_i, rJ_l, rV_n, okZ0, okZ1, nI_le (show 4 ≤ 4 by decide) (show 4 < 2 ^ 31 by decide)]
  have goN : ∀ m k N', k + m = 32 → (∀ a, a < 31 → N' a = N a) → (∀ N2, (∀ a, a < 31 → N2 a = N a) → WP (aSem d) g0 155 nx (qn nx Q) 169 [(0, .ref 31), (2, .int (nI l)), (4, .int (nI 32))] [] M1 N2 (P0 t e) nx) → WP (aSem d) g0 155 nx (qn nx Q) 139 [(0, .ref 31), (2, .int (nI l)), (4, .int (nI k))] [] M1 N' (P0 t e) nx := by
    intro m
    induction m with
    | zero =>
      intro k N' hk hN hK2
      have e1 : k = 32 := by omega
      subst e1
      simp only [B155_139, false_imp_iff, true_imp_iff, not_false_eq_true, not_true_eq_false, true_and, and_true, implies_true, qn_self, rI_i, rJ_l, rV_n, okZ0, okZ1, nI_le (show 32 ≤ 32 by decide) (show 32 < 2 ^ 31 by decide)]
      exact hK2 N' hN
    | succ m ih =>
      intro k N' hk hN hK2
      simp only [B155_139, false_imp_iff, true_imp_iff, not_false_eq_true, not_true_eq_false, true_and, and_true, implies_true, qn_self, rI_i, rJ_l, rV_n, okZ0, okZ1, nI_ge (show k < 32 by omega) (show 32 < 2 ^ 31 by decide)]
      simp only [B155_146, false_imp_iff, true_imp_iff, not_false_eq_true, not_true_eq_false, true_and, and_true, implies_true, qn_self, rI_i, rJ_l, rV_n, okZ0, okZ1, o31 hn, exP (show P0 t e 31 14 = some 34 from rfl), nI_add, x34 hn (show 32 + k < 64 by omega), x34 hn (show k < 64 by omega)]
      exact ih (k + 1) _ (by omega) (fun a ha => by rw [uN_ne (by omega)]; exact hN a ha) hK2
  refine goN 32 0 N (by omega) (fun _ _ => rfl) (fun N2 hN2 => ?_)
  simp only [B155_169]
  have r35 : ∀ k, k < S.1 3 → M1 35 (8 + k) = nI (S.2.2.1 k) := fun k hk => by rw [a1 35 (by decide)]; exact h35 k hk
  refine fill (M := M1) (W := fun k M' => WP (aSem d) g0 155 nx (qn nx Q) 172 [(0, .ref 31), (2, .int (nI l)), (4, .int (nI k))] [] M' N2 (P0 t e) nx) (c := 35) (o := 0) (N := 8) (g := fun k => M1 35 (8 + k)) (fun k M' hk _ hc hw => ?_) (fun M2 a2 b2 c2 => ?_)
  · have e1 : M' 35 (8 + k) = M1 35 (8 + k) := hc _ (by omega)
    simp only [B155_172, false_imp_iff, true_imp_iff, not_false_eq_true, not_true_eq_false, true_and, and_true, implies_true, qn_self, rI_i, rJ_l, rV_n, okZ0, okZ1, nI_ge (show k < 8 by omega) (show 8 < 2 ^ 31 by decide)]
    simp only [B155_179, false_imp_iff, true_imp_iff, not_false_eq_true, not_true_eq_false, true_and, and_true, implies_true, qn_self, rI_i, rJ_l, rV_n, okZ0, okZ1, o31 hn, exP (show P0 t e 31 15 = some 35 from rfl), nI_add, x35 hn (show 8 + k < 16 by omega), x35 hn (show k < 16 by omega), e1]
    rw [Nat.zero_add] at hw
    exact hw
  simp only [B155_172, B155_202, false_imp_iff, true_imp_iff, not_false_eq_true, not_true_eq_false, true_and, and_true, implies_true, qn_self, rI_i, rJ_l, rV_n, okZ0, okZ1, nI_le (show 8 ≤ 8 by decide) (show 8 < 2 ^ 31 by decide)]
  have r37 : ∀ k, k < 89 → M2 37 k = nI (S.2.1 k) := fun k hk => by rw [a2 37 (by decide), a1 37 (by decide)]; exact h37 k hk
  refine fill (M := M2) (W := fun k M' => WP (aSem d) g0 155 nx (qn nx Q) 205 [(0, .ref 31), (2, .int (nI l)), (4, .int (nI k))] [] M' N2 (P0 t e) nx) (c := 36) (o := 0) (N := 89) (g := fun k => nI (S.2.1 k)) (fun k M' hk ha hc hw => ?_) (fun M3 a3 b3 c3 => ?_)
  · have e1 : M' 37 k = nI (S.2.1 k) := by rw [ha 37 (by decide)]; exact r37 k hk
    simp only [B155_205, false_imp_iff, true_imp_iff, not_false_eq_true, not_true_eq_false, true_and, and_true, implies_true, qn_self, rI_i, rJ_l, rV_n, okZ0, okZ1, nI_ge (show k < 89 by omega) (show 89 < 2 ^ 31 by decide)]
    simp only [B155_212, false_imp_iff, true_imp_iff, not_false_eq_true, not_true_eq_false, true_and, and_true, implies_true, qn_self, rI_i, rJ_l, rV_n, okZ0, okZ1, o31 hn, exP (show P0 t e 31 16 = some 36 from rfl), exP (show P0 t e 31 17 = some 37 from rfl), x37 hn hk, x36 hn hk, e1, nI_add]
    rw [Nat.zero_add] at hw
    exact hw
  simp only [B155_205, B155_232, false_imp_iff, true_imp_iff, not_false_eq_true, not_true_eq_false, true_and, and_true, implies_true, qn_self, rI_i, rJ_l, rV_n, okZ0, okZ1, nI_le (show 89 ≤ 89 by decide) (show 89 < 2 ^ 31 by decide), o31 hn, exP (show P0 t e 31 22 = some 41 from rfl), exS3 (show kindOf 41 = (3, 2) from rfl) (show 41 < nx by omega) (by decide) (show 0 < 2 by decide) okZ0, exS3 (show kindOf 41 = (3, 2) from rfl) (show 41 < nx by omega) (by decide) (show 1 < 2 by decide) okZ0]
  have cc : ∀ a, a ≠ 31 → a ≠ 41 → uM (uM (uM M3 31 20 (nI 0)) 41 0 (nI 0)) 41 1 (nI 0) a = M3 a := fun a x y => by rw [uM_ne y, uM_ne y, uM_ne x]
  refine hK _ _ (fun a ha => ?_) hN2 (fun k hk => ?_) ?_ (fun a ha hb => ?_) ?_ uM_k ⟨?_, ?_, ?_, ?_, fun k hk => ?_, fun k hk => ?_⟩ ?_
  · rw [cc a (by omega) (by omega), a3 a (by omega), a2 a (by omega), a1 a (by omega)]
  · rw [uM_a (by decide), uM_a (by decide), uM_j hk, a3 31 (by decide), a2 31 (by decide), a1 31 (by decide)]
  · rw [uM_a (by decide), uM_a (by decide), uM_k]
  · rw [cc a (by omega) hb, a3 a (by omega), a2 a (by omega), a1 a (by omega)]
  · rw [uM_j (by decide), uM_k]
  · rw [cc 33 (by decide) (by decide), a3 33 (by decide), a2 33 (by decide)]; exact b1 0 (by decide)
  · rw [cc 33 (by decide) (by decide), a3 33 (by decide), a2 33 (by decide)]; exact b1 1 (by decide)
  · rw [cc 33 (by decide) (by decide), a3 33 (by decide), a2 33 (by decide)]; exact b1 2 (by decide)
  · rw [cc 33 (by decide) (by decide), a3 33 (by decide), a2 33 (by decide)]; exact b1 3 (by decide)
  · rw [cc 36 (by decide) (by decide)]
    have := b3 k hk
    rw [Nat.zero_add] at this
    exact this
  · rw [cc 35 (by decide) (by decide), a3 35 (by decide)]
    have := b2 k (by omega)
    rw [Nat.zero_add] at this
    rw [this]
    exact r35 k hk
  · rw [cc 32 (by decide) (by decide), a3 32 (by decide), a2 32 (by decide), a1 32 (by decide)]
theorem l155 (hn : 44 ≤ nx) (hb : BY M0 32 n B) (hn7 : n ≤ 700) {r : Except Nat (PSt × Nat)} (hF : ∀ c M' N', r = .error c → FR M0 N0 c M' N' → Q (some (.int (ng2 - nI c))) (uM M' 31 12 (nI 0)) N' (P0 t e) nx) (hY : ∀ S l M' N', r = .ok (S, l) → PW S → RR M0 N0 S M' N' → WP (aSem (d + 6)) g0 155 nx (qn nx Q) 105 [(0, .ref 31), (2, .int (nI l)), (3, .int (nI 1))] [] (uM M' 31 12 (nI 0)) N' (P0 t e) nx) : ∀ m S p l M N, n < p + m → p ≤ n → PW S → RR M0 N0 S M N → RO M N B n p → prsM B n m S p l = r → WP (aSem (d + 6)) g0 155 nx (qn nx Q) 58 [(0, .ref 31), (2, .int (nI l)), (3, .int (nI 1))] [] M N (P0 t e) nx := by
  intro m
  induction m with
  | zero =>
    intro S p l M N h1 h2
    omega
  | succ m ih =>
    intro S p l M N hm hp hS h hO hr
    have h5 := tK_le (B := B) (n := n) (p := p)
    have h1 := tP_ge (B := B) hp
    unfold prsM at hr
    simp only [B155_58, B155_62, false_imp_iff, true_imp_iff, not_false_eq_true, not_true_eq_false, true_and, and_true, implies_true, qn_self, rI_i, rJ_l, rV_n, okZ0, okZ1, one0, o31 hn, hO.2.2.2.2.1, nI_z (show tK B n p < 2 ^ 31 by omega)]
    refine ⟨fun z => ?_, fun z => ?_⟩
    · rw [if_pos z] at hr
      simp only [B155_80, false_imp_iff, true_imp_iff, not_false_eq_true, not_true_eq_false, true_and, and_true, implies_true, qn_self, rI_i, rJ_l, rV_n, okZ0, okZ1, one0, o31 hn]
      exact hY S l M N hr.symm hS h
    · rw [if_neg z] at hr
      simp only [B155_69, false_imp_iff, true_imp_iff, not_false_eq_true, not_true_eq_false, true_and, and_true, implies_true, qn_self, rI_i, rJ_l, rV_n, okZ0, okZ1, o31 hn]
      refine s153 hn hb h hS hO (fun v M1 N1 ho => ?_)
      have g := GD_line (B := B) hS hp
      cases hx : lineM B n S p with
      | error c =>
        rw [hx] at ho hr g
        obtain ⟨o1', o2', o3', pl, kd, q10, q9, qc⟩ := ho
        have e10 : uM M1 31 12 (nI 0) 31 10 = nI pl := by rw [uM_j (by decide)]; exact q10
        have e9 : uM M1 31 12 (nI 0) 31 9 = nI kd := by rw [uM_j (by decide)]; exact q9
        simp only [false_imp_iff, true_imp_iff, not_false_eq_true, not_true_eq_false, true_and, and_true, implies_true, qn_self, rI_i, rJ_l, rV_n, okZ0, okZ1, o1', B155_58, eq_true nI_0, B155_80, B155_89, o31 hn, e10, e9, nI_mul, nI_add]
        rw [← qc]
        exact hF c M1 N1 hr.symm ⟨o2', o3', pl, kd, q10, q9, qc⟩
      | ok x =>
        obtain ⟨S', q⟩ := x
        rw [hx] at ho hr g
        obtain ⟨o1', o2', o3'⟩ := ho
        obtain ⟨g1, g2, g3⟩ := g
        simp only [false_imp_iff, true_imp_iff, not_false_eq_true, not_true_eq_false, true_and, and_true, implies_true, qn_self, rI_i, rJ_l, rV_n, okZ0, okZ1, o1', nI_add]
        exact ih S' q (l + 1) M1 N1 (by omega) g3 g1 o2' o3' hr
theorem wi_t {x : Int32} {a : Nat} (h : a < 2 ^ 30) : (lN 0 ≤ x.toInt64 ∧ x.toInt64 ≤ (nI a).toInt64) ↔ vl x (a + 1) := by
  rw [nI_l (by omega)]
  exact wi_c (by omega)
section M155
variable {ln is fc dn u a : Nat} {row nd : Nat → Nat} {hs ks : Nat → Nat → Nat} {kp : Nat → Bool}
theorem s155n (hn : 44 ≤ nx) (ha : M 31 2 = nI a) (ha7 : a ≤ 700) {x : Int32} (hv : ¬ vl x (a + 1)) (hQ : ∀ M', eqM M M' → Q (some (.int ng1)) M' N (P0 t e) nx) : aSem (d + 7) 155 [.ref 31, .int x] M N (P0 t e) nx Q := by
  have a0 : uM M 31 0 (nI 0) 31 2 = nI a := by rw [uM_j (by decide)]; exact ha
  simp only [A155, B155_0, B155_19, false_imp_iff, true_imp_iff, not_false_eq_true, not_true_eq_false, true_and, and_true, implies_true, qn_self, rI_i, rJ_l, rV_n, okZ0, okZ1, o31 hn, a0, s131, wi_t (show a < 2 ^ 30 by omega), vB_iff, vB_f hv, if_false, Bool.false_eq_true, eq_true nI_0]
  exact hQ _ eqM_z
theorem s155 (hn : 44 ≤ nx) (hT : MT M ln is fc dn row nd) (hU : MU M u hs kp ks) (ha : M 31 2 = nI a) (ha7 : a ≤ 700) (hb : BY M 32 a B) (hna : n ≤ a) {hs' ks' : Nat → Nat → Nat}
    (hF : ∀ c M' N', prsM B n (n + 1) S0 0 0 = .error c → (∀ b, b < 31 → M' b = M b) → (∀ b, b < 31 → N' b = N b) → MT M' ln is fc dn row nd → MU M' u hs kp ks → M' 31 2 = nI 0 → Q (some (.int (ng2 - nI c))) M' N' (P0 t e) nx)
    (hO : ∀ S l M' N', prsM B n (n + 1) S0 0 0 = .ok (S, l) → PW S → (∀ b, b < 31 → M' b = M b) → (∀ b, b < 31 → N' b = N b) → MT M' (S.1 0) (S.1 1) (S.1 2) (S.1 3) S.2.1 S.2.2.1 → MU M' 0 hs' (fun _ => false) ks' → M' 31 2 = nI 0 → Q (some (.int (nI l))) M' N' (P0 t e) nx) : aSem (d + 7) 155 [.ref 31, .int (nI n)] M N (P0 t e) nx Q := by
  have a0 : uM M 31 0 (nI 0) 31 2 = nI a := by rw [uM_j (by decide)]; exact ha
  have v1 : vB (nI n) (a + 1) = true := vB_t ((vl_nI (by omega)).mpr (by omega))
  simp only [A155, B155_0, B155_21, false_imp_iff, true_imp_iff, not_false_eq_true, not_true_eq_false, true_and, and_true, implies_true, qn_self, rI_i, rJ_l, rV_n, okZ0, okZ1, o31 hn, a0, s131, wi_t (show a < 2 ^ 30 by omega), vB_iff, v1, if_true, one0]
  obtain ⟨M1, hM1⟩ : ∃ M1, M1 = uM (uM (uM (uM (uM (uM M 31 0 (nI 0)) 31 2 (nI 0)) 31 3 (nI n)) 31 5 (nI 0)) 31 9 (nI 0)) 31 12 (nI 1) := ⟨_, rfl⟩
  rw [← hM1]
  have o1 : ∀ b, b ≠ 31 → M1 b = M b := fun b hb => by rw [hM1, uM_ne hb, uM_ne hb, uM_ne hb, uM_ne hb, uM_ne hb, uM_ne hb]
  have k2 : M1 31 2 = nI 0 := by rw [hM1, uM_j (by decide), uM_j (by decide), uM_j (by decide), uM_j (by decide), uM_k]
  have k3 : M1 31 3 = nI n := by rw [hM1, uM_j (by decide), uM_j (by decide), uM_j (by decide), uM_k]
  have k5 : M1 31 5 = nI 0 := by rw [hM1, uM_j (by decide), uM_j (by decide), uM_k]
  have k9 : M1 31 9 = nI 0 := by rw [hM1, uM_j (by decide), uM_k]
  have k12 : M1 31 12 = nI 1 := by rw [hM1, uM_k]
  have kk : ∀ k, k ≠ 0 → k ≠ 2 → k ≠ 3 → k ≠ 5 → k ≠ 9 → k ≠ 12 → M1 31 k = M 31 k := fun k x y z w p q => by rw [hM1, uM_j q, uM_j p, uM_j w, uM_j z, uM_j y, uM_j x]
  refine s154 hn (fun M2 f1 f2 f3 f4 f5 f6 => ?_)
  have hb2 : BY M1 32 n B := fun k hk => by rw [o1 32 (by decide)]; exact hb k (by omega)
  have hR : RR M1 N S0 M2 N := by
    refine ⟨⟨fun b x y z w p => f1 b y z w p, f2, f4, fun k _ _ _ _ _ _ _ _ => by rw [f1 31 (by decide) (by decide) (by decide) (by decide)]⟩, fun _ _ _ => rfl, ?_, ?_, fun k hk => f3 k hk, (fun x hx => by cases hx), fun k hk => absurd hk (Nat.not_lt_zero _), f5, fun j hj => ?_⟩
    · rw [f1 31 (by decide) (by decide) (by decide) (by decide)]; exact k9
    · rw [f1 31 (by decide) (by decide) (by decide) (by decide)]; exact k12
    · rw [f6 j hj]; rfl
  simp only [false_imp_iff, true_imp_iff, not_false_eq_true, not_true_eq_false, true_and, and_true, implies_true, qn_self, rI_i, rJ_l, rV_n, okZ0, okZ1, o31 hn]
  refine s135 hn (hR.by hb2) (n := n) (p := 0) (by rw [f1 31 (by decide) (by decide) (by decide) (by decide)]; exact k3) (by rw [f1 31 (by decide) (by decide) (by decide) (by decide)]; exact k5) (Nat.zero_le _) (by omega) (fun M3 N3 he3 hj3 hO3 => ?_)
  simp only [false_imp_iff, true_imp_iff, not_false_eq_true, not_true_eq_false, true_and, and_true, implies_true, qn_self, rI_i, rJ_l, rV_n, okZ0, okZ1]
  refine l155 hn hb2 (by omega) (r := prsM B n (n + 1) S0 0 0) (fun c M4 N4 hr hfr => ?_) (fun S l M4 N4 hr hS4 h4 => ?_) (n + 1) S0 0 0 M3 N3 (by omega) (Nat.zero_le _) PW_0 (hR.h he3 hj3) hO3 rfl
  · have q1 := hfr.1
    have lo : ∀ b, b ≠ 31 → b ≠ 33 → b ≠ 35 → b ≠ 37 → b ≠ 38 → uM M4 31 12 (nI 0) b = M b := fun b x y z w p => by rw [uM_ne x, q1.1 b x y z w p, o1 b x]
    have l33 : ∀ k, k < 4 → uM M4 31 12 (nI 0) 33 k = M 33 k := fun k hk => by rw [uM_a (by decide), q1.2.1 k hk, o1 33 (by decide)]
    have l35 : ∀ k, k < 8 → uM M4 31 12 (nI 0) 35 k = M 35 k := fun k hk => by rw [uM_a (by decide), q1.2.2.1 k hk, o1 35 (by decide)]
    have c6 := hT.2.2.2.2.2.2.1
    unfold wfC at c6
    refine hF c _ _ hr (fun b hb => lo b (by omega) (by omega) (by omega) (by omega) (by omega)) (fun b hb => hfr.2.1 b (by omega) (by omega)) ?_ ?_ ?_
    · obtain ⟨t1, t2, t3, t4, t5, t6, t7, t8, t9⟩ := hT
      refine ⟨by rw [l33 0 (by decide)]; exact t1, by rw [l33 1 (by decide)]; exact t2, by rw [l33 2 (by decide)]; exact t3, by rw [l33 3 (by decide)]; exact t4, fun k hk => by rw [lo 36 (by decide) (by decide) (by decide) (by decide) (by decide)]; exact t5 k hk, fun k hk => by rw [l35 k (by omega)]; exact t6 k hk, t7, t8, t9⟩
    · obtain ⟨u1, u2, u3, u4, u5⟩ := hU
      refine ⟨u1, ?_, fun j hj k hk => by rw [lo 39 (by decide) (by decide) (by decide) (by decide) (by decide)]; exact u3 j hj k hk, fun j hj => by rw [lo 41 (by decide) (by decide) (by decide) (by decide) (by decide)]; exact u4 j hj, fun j hj hq k hk => by rw [lo 40 (by decide) (by decide) (by decide) (by decide) (by decide)]; exact u5 j hj hq k hk⟩
      rw [uM_j (by decide), q1.2.2.2 20 (by decide) (by decide) (by decide) (by decide) (by decide) (by decide) (by decide) (by decide), kk 20 (by decide) (by decide) (by decide) (by decide) (by decide) (by decide)]
      exact u2
    · rw [uM_j (by decide), q1.2.2.2 2 (by decide) (by decide) (by decide) (by decide) (by decide) (by decide) (by decide) (by decide)]
      exact k2
  · have q1 := h4.1
    have h5 : ∀ k, k < 4 → uM M4 31 12 (nI 0) 33 (4 + k) = nI (S.1 k) := fun k hk => by rw [uM_a (by decide)]; exact h4.2.2.2.2.1 k hk
    refine c155b hn (M := uM M4 31 12 (nI 0)) h5 (fun k hk => by rw [uM_a (by decide)]; exact h4.2.2.2.2.2.2.1 k hk) (fun k hk => by rw [uM_a (by decide)]; exact h4.2.2.2.2.2.2.2.1 k hk) hS4 (fun M5 N5 p1 p2 p3 p4 p5 p6 p7 p8 p9 => ?_)
    refine hO S l _ _ hr hS4 (fun b hb => ?_) (fun b hb => ?_) (p8.mt hS4.1 hS4.2.1 hS4.2.2.2.1) ⟨by omega, p4, fun j hj => by omega, fun j hj => ?_, fun j hj hq => absurd (show false = true from hq) (by decide)⟩ ?_
    · rw [p1 b hb, uM_ne (by omega), q1.1 b (by omega) (by omega) (by omega) (by omega) (by omega), o1 b (by omega)]
    · rw [p2 b hb, h4.2.1 b (by omega) (by omega)]
    · rcases (show j = 0 ∨ j = 1 by omega) with rfl | rfl
      · rw [p6]; rfl
      · rw [p7]; rfl
    · rw [p3 2 (by decide), uM_j (by decide), q1.2.2.2 2 (by decide) (by decide) (by decide) (by decide) (by decide) (by decide) (by decide) (by decide)]
      exact k2
end M155
end MD3
