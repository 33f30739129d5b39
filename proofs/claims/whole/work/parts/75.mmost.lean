/-! THE REFERENCE: most, shop, tally, limps -/
theorem ltN {a b : Nat} (ha : a < 2 ^ 31) (hb : b < 2 ^ 31) : nI a < nI b ↔ a < b := by
  rw [Int32.lt_iff_toInt_lt, nI_toInt ha, nI_toInt hb]; omega
theorem i2l {n : Nat} (h : n < 2 ^ 31) : (nI n).toInt64 = lN n := by
  have h1 : (lN n).toInt = n := by
    unfold lN
    exact Int64.toInt_ofNat_of_lt (by omega)
  apply Int64.toInt_inj.mp
  rw [Int32.toInt_toInt64, nI_toInt h, h1]
theorem sumF_add {f g : Nat → Nat} : ∀ n i, sumF (fun j => f j + g j) i n = sumF f i n + sumF g i n
  | 0, i => rfl
  | n + 1, i => by
    show (f i + g i) + sumF (fun j => f j + g j) (i + 1) n = (f i + sumF f (i + 1) n) + (g i + sumF g (i + 1) n)
    rw [sumF_add n (i + 1)]; omega
theorem sumF_z : ∀ n i, sumF (fun _ => 0) i n = 0
  | 0, i => rfl
  | n + 1, i => by
    show 0 + sumF (fun _ => 0) (i + 1) n = 0
    rw [sumF_z n (i + 1)]
/-- sums may be taken in either order -/
theorem sumF_x {p : Nat → Nat → Bool} {m : Nat} : ∀ n i, sumF (fun l => cntF (p l) 0 m) i n = sumF (fun j => cntF (fun l => p l j) i n) 0 m
  | 0, i => (sumF_z m 0).symm
  | n + 1, i => by
    have e : ∀ k j, cntF (p i) j k = sumF (fun q => if p i q = true then 1 else 0) j k := by
      intro k
      induction k with
      | zero => intro j; rfl
      | succ k ih =>
        intro j
        show (if p i j = true then 1 else 0) + cntF (p i) (j + 1) k = (if p i j = true then 1 else 0) + sumF (fun q => if p i q = true then 1 else 0) (j + 1) k
        rw [ih]
    show cntF (p i) 0 m + sumF (fun l => cntF (p l) 0 m) (i + 1) n = sumF (fun j => (if p i j = true then 1 else 0) + cntF (fun l => p l j) (i + 1) n) 0 m
    rw [sumF_x n (i + 1), sumF_add, e]
section MMO
variable {d : Nat} {M : aM} {N : aN} {P : aP} {t e nx ln is fc dn : Nat} {row nd : Nat → Nat} {Q : aQ}
theorem l187 (hn : 44 ≤ nx) (h : MT M ln is fc dn row nd) {i l : Nat} {w x y : Int32} (hi : i < is) (hl : l < ln) (hK : ∀ M', eqM M M' → WP (aSem (d + 6)) g0 187 nx (qn nx Q) 98 [(0, .ref 31), (1, .int (nI i)), (2, .int w), (3, .int x), (4, .int y), (5, .int (nI l)), (6, .int (nI (cntF (fun o => ownLand row i o == l) 0 ln))), (7, .int (nI ln))] [] M' N (P0 t e) nx) : ∀ n o c M', o + n = ln → eqM M M' → c + cntF (fun o => ownLand row i o == l) o n = cntF (fun o => ownLand row i o == l) 0 ln → WP (aSem (d + 6)) g0 187 nx (qn nx Q) 59 [(0, .ref 31), (1, .int (nI i)), (2, .int w), (3, .int x), (4, .int y), (5, .int (nI l)), (6, .int (nI c)), (7, .int (nI o))] [] M' N (P0 t e) nx := by
  have c6 := h.2.2.2.2.2.2.1
  unfold wfC at c6
  have hp := nxM_ok h.2.2.2.2.2.2.2.1 c6.1 c6.2.1 hi
  intro n
  induction n with
  | zero =>
    intro o c M' ho he hz
    have hz2 : c = cntF (fun o => ownLand row i o == l) 0 ln := hz
    simp only [B187_59, false_imp_iff, true_imp_iff, not_false_eq_true, not_true_eq_false, true_and, and_true, implies_true, qn_self, rI_i, rJ_l, rV_n, okZ0, okZ1, o31 hn, exP (show P0 t e 31 13 = some 33 from rfl), x33 hn (show 0 < 8 by decide), (h.m he).1, nI_le (show ln ≤ o by omega) (show o < 2 ^ 31 by omega)]
    rw [hz2, show o = ln by omega]
    exact hK M' he
  | succ n ih =>
    intro o c M' ho he hz
    simp only [B187_59, false_imp_iff, true_imp_iff, not_false_eq_true, not_true_eq_false, true_and, and_true, implies_true, qn_self, rI_i, rJ_l, rV_n, okZ0, okZ1, o31 hn, exP (show P0 t e 31 13 = some 33 from rfl), x33 hn (show 0 < 8 by decide), (h.m he).1, nI_ge (show o < ln by omega) (show ln < 2 ^ 31 by omega)]
    simp only [B187_70, false_imp_iff, true_imp_iff, not_false_eq_true, not_true_eq_false, true_and, and_true, implies_true, qn_self, rI_i, rJ_l, rV_n, okZ0, okZ1, o31 hn]
    refine s181 hn (h.m he) (show o < ln by omega) hi (fun M2 he2 => ?_)
    have b1 : ownLand row i o < ln := comesM_lt hp (by omega)
    have hz2 : c + ((if (ownLand row i o == l) = true then 1 else 0) + cntF (fun o => ownLand row i o == l) (o + 1) n) = cntF (fun o => ownLand row i o == l) 0 ln := hz
    simp only [false_imp_iff, true_imp_iff, not_false_eq_true, not_true_eq_false, true_and, and_true, implies_true, qn_self, rI_i, rJ_l, rV_n, okZ0, okZ1, nI_eq (show ownLand row i o < 2 ^ 31 by omega) (show l < 2 ^ 31 by omega)]
    refine ⟨fun q => ?_, fun q => ?_⟩
    · rw [if_neg (by simp [q]), Nat.zero_add] at hz2
      simp only [B187_88, B187_89, nI_add, Nat.add_zero]
      exact ih (o + 1) c M2 (by omega) (he.tr he2) hz2
    · rw [if_pos (by simp [q]), ← Nat.add_assoc] at hz2
      simp only [B187_84, B187_89, nI_add]
      exact ih (o + 1) (c + 1) M2 (by omega) (he.tr he2) hz2
theorem m187 (hn : 44 ≤ nx) (h : MT M ln is fc dn row nd) {i : Nat} {w : Int32} {z : Nat × Nat} (hi : i < is) (hQ : ∀ M', eqM M M' → Q (some (.int (if w = 0 then nI z.1 else nI z.2))) M' N (P0 t e) nx) : ∀ n l y M', l + n = ln → y.2 ≤ 6 → eqM M M' → arM (fun l => cntF (fun o => ownLand row i o == l) 0 ln) n l y = z → WP (aSem (d + 6)) g0 187 nx (qn nx Q) 42 [(0, .ref 31), (1, .int (nI i)), (2, .int w), (3, .int (nI y.1)), (4, .int (nI y.2)), (5, .int (nI l))] [] M' N (P0 t e) nx := by
  have c6 := h.2.2.2.2.2.2.1
  unfold wfC at c6
  intro n
  induction n with
  | zero =>
    intro l y M' hl hy he hz
    have hz2 : y = z := hz
    simp only [B187_42, B187_121, B187_125, B187_129, B187_131, false_imp_iff, true_imp_iff, not_false_eq_true, not_true_eq_false, true_and, and_true, implies_true, qn_self, rI_i, rJ_l, rV_n, okZ0, okZ1, o31 hn, exP (show P0 t e 31 13 = some 33 from rfl), x33 hn (show 0 < 8 by decide), (h.m he).1, nI_le (show ln ≤ l by omega) (show l < 2 ^ 31 by omega)]
    rw [hz2]
    have hq := hQ M' he
    refine ⟨fun q => ?_, fun q => ?_⟩
    · rw [if_neg q] at hq; exact hq
    · rw [if_pos q] at hq; exact hq
  | succ n ih =>
    intro l y M' hl hy he hz
    simp only [B187_42, false_imp_iff, true_imp_iff, not_false_eq_true, not_true_eq_false, true_and, and_true, implies_true, qn_self, rI_i, rJ_l, rV_n, okZ0, okZ1, o31 hn, exP (show P0 t e 31 13 = some 33 from rfl), x33 hn (show 0 < 8 by decide), (h.m he).1, nI_ge (show l < ln by omega) (show ln < 2 ^ 31 by omega)]
    simp only [B187_53]
    refine l187 hn (h.m he) hi (show l < ln by omega) (fun M2 he2 => ?_) ln 0 0 M' (by omega) eqM.rf (by omega)
    have b1 := cntF_le (fun o => ownLand row i o == l) ln 0
    have hz2 : arM (fun l => cntF (fun o => ownLand row i o == l) 0 ln) n (l + 1) (if cntF (fun o => ownLand row i o == l) 0 ln ≤ y.2 then y else (l, cntF (fun o => ownLand row i o == l) 0 ln)) = z := hz
    simp only [B187_98, false_imp_iff, true_imp_iff, not_false_eq_true, not_true_eq_false, true_and, and_true, implies_true, qn_self, rI_i, rJ_l, rV_n, okZ0, okZ1, ltN (show y.2 < 2 ^ 31 by omega) (show cntF (fun o => ownLand row i o == l) 0 ln < 2 ^ 31 by omega)]
    refine ⟨fun q => ?_, fun q => ?_⟩
    · rw [if_neg (by omega)] at hz2
      simp only [B187_108, B187_115, nI_add]
      exact ih (l + 1) _ M2 (by omega) (by show cntF (fun o => ownLand row i o == l) 0 ln ≤ 6; omega) (he.tr he2) hz2
    · rw [if_pos (by omega)] at hz2
      simp only [B187_105, B187_115, nI_add]
      exact ih (l + 1) y M2 (by omega) hy (he.tr he2) hz2
theorem fS_0 {k : Nat} {a b : Int32} (hk : k < 2) : (if nI k = 0 then a else b) = fS (nI k) a b := by
  unfold fS
  rcases (show k = 0 ∨ k = 1 by omega) with rfl | rfl
  · rw [if_pos (by decide +kernel), if_pos rfl]
  · rw [if_neg (by decide +kernel), if_neg (by decide +kernel), if_pos rfl]
theorem s187 (hn : 44 ≤ nx) (h : MT M ln is fc dn row nd) {i : Nat} {w : Int32} (hi : i < is) (h0 : 0 < ln) {z : Nat × Nat} (hz : arM (fun l => cntF (fun x => ownLand row i x == l) 0 ln) (ln - 1) 1 (0, cntF (fun x => ownLand row i x == 0) 0 ln) = z) (hQ : ∀ M', eqM M M' → Q (some (.int (fS w (nI z.1) (nI z.2)))) M' N (P0 t e) nx) : aSem (d + 7) 187 [.ref 31, .int (nI i), .int w] M N (P0 t e) nx Q := by
  have c6 := h.2.2.2.2.2.2.1
  unfold wfC at c6
  have h2 := h.z (v := nI 0)
  have b2 : vB (nI i) is = true := vB_t ((vl_nI (by omega)).mpr hi)
  simp only [A187, B187_0, B187_13, false_imp_iff, true_imp_iff, not_false_eq_true, not_true_eq_false, true_and, and_true, implies_true, qn_self, rI_i, rJ_l, rV_n, okZ0, okZ1, o31 hn, s157 hn h2, b2, if_true, one0, s131, wi_c (show 1 < 2 ^ 31 by decide), vB_iff]
  by_cases hv : vl w (1 + 1)
  · obtain ⟨k, hk, rfl⟩ := vl_of hv
    simp only [vB_t hv, if_true, one0, false_imp_iff, true_imp_iff, not_false_eq_true, not_true_eq_false, true_and, and_true, implies_true, qn_self, rI_i, rJ_l, rV_n, okZ0, okZ1, B187_23, o31 hn, exP (show P0 t e 31 13 = some 33 from rfl), x33 hn (show 0 < 8 by decide), h2.1, nI_z (show ln < 2 ^ 31 by omega), show ¬ ln = 0 by omega, B187_34]
    refine m187 (y := (0, 0)) hn h2 (z := z) hi (fun M' he => ?_) ln 0 _ (by omega) (by decide) eqM.rf ?_
    · rw [fS_0 hk]; exact hQ M' (eqM_z.tr he)
    · obtain ⟨m, rfl⟩ : ∃ m, ln = m + 1 := ⟨ln - 1, by omega⟩
      rw [show m + 1 - 1 = m by omega] at hz
      rw [← hz]
      show arM _ m (0 + 1) (if cntF (fun o => ownLand row i o == 0) 0 (m + 1) ≤ 0 then (0, 0) else (0, cntF (fun o => ownLand row i o == 0) 0 (m + 1))) = _
      congr 1
      split
      · rename_i q; rw [show cntF (fun o => ownLand row i o == 0) 0 (m + 1) = 0 by omega]
      · rfl
  · have hq := hQ _ (eqM_z (v := nI 0))
    rw [fS_v hv] at hq
    simp only [vB_f hv, if_false, Bool.false_eq_true, eq_true nI_0, false_imp_iff, true_imp_iff, not_false_eq_true, not_true_eq_false, true_and, and_true, implies_true, qn_self, rI_i, rJ_l, rV_n, okZ0, okZ1, B187_32]
    exact hq
theorem s187n (hn : 44 ≤ nx) (h : MT M ln is fc dn row nd) {x w : Int32} (hv : ¬ vl x is ∨ ln = 0) (hQ : ∀ M', eqM M M' → Q (some (.int ng1)) M' N (P0 t e) nx) : aSem (d + 7) 187 [.ref 31, .int x, .int w] M N (P0 t e) nx Q := by
  have c6 := h.2.2.2.2.2.2.1
  unfold wfC at c6
  have h2 := h.z (v := nI 0)
  have hq := hQ _ (eqM_z (v := nI 0))
  by_cases hx : vl x is
  · have h0 : ln = 0 := hv.elim (fun q => absurd hx q) id
    simp only [A187, B187_0, B187_13, false_imp_iff, true_imp_iff, not_false_eq_true, not_true_eq_false, true_and, and_true, implies_true, qn_self, rI_i, rJ_l, rV_n, okZ0, okZ1, o31 hn, s157 hn h2, vB_t hx, if_true, one0, s131, wi_c (show 1 < 2 ^ 31 by decide), vB_iff]
    by_cases hw : vl w (1 + 1)
    · simp only [vB_t hw, if_true, one0, false_imp_iff, true_imp_iff, not_false_eq_true, not_true_eq_false, true_and, and_true, implies_true, qn_self, rI_i, rJ_l, rV_n, okZ0, okZ1, B187_23, B187_32, o31 hn, exP (show P0 t e 31 13 = some 33 from rfl), x33 hn (show 0 < 8 by decide), h2.1, nI_z (show ln < 2 ^ 31 by omega), h0, eq_true nI_0]
      exact hq
    · simp only [vB_f hw, if_false, Bool.false_eq_true, eq_true nI_0, false_imp_iff, true_imp_iff, not_false_eq_true, not_true_eq_false, true_and, and_true, implies_true, qn_self, rI_i, rJ_l, rV_n, okZ0, okZ1, B187_32]
      exact hq
  · simp only [A187, B187_0, B187_32, false_imp_iff, true_imp_iff, not_false_eq_true, not_true_eq_false, true_and, and_true, implies_true, qn_self, rI_i, rJ_l, rV_n, okZ0, okZ1, o31 hn, s157 hn h2, vB_f hx, if_false, Bool.false_eq_true, eq_true nI_0]
    exact hq
theorem l188 (hn : 44 ≤ nx) (h : MT M ln is fc dn row nd) {i : Nat} {w : Int32} {z : Nat × Nat} (hi : i < is) (hQ : ∀ M', eqM M M' → Q (some (.int (if w = 0 then nI z.2 else nI z.1))) M' N (P0 t e) nx) : ∀ n l b M', l + n = ln → b < ln → eqM M M' → arM (fun l => ownAns row i l) n l (b, ownAns row i b) = z → WP (aSem (d + 7)) g0 188 nx (qn nx Q) 39 [(0, .ref 31), (1, .int (nI i)), (2, .int w), (3, .int (nI b)), (4, .int (nI l))] [] M' N (P0 t e) nx := by
  have c6 := h.2.2.2.2.2.2.1
  unfold wfC at c6
  have hp := nxM_ok h.2.2.2.2.2.2.2.1 c6.1 c6.2.1 hi
  have b9 : ∀ l, l < ln → ownAns row i l ≤ 99 := fun l hl => by
    have hlt : ownLand row i l < ln := comesM_lt hp hl
    exact h.2.2.2.2.2.2.2.1.2.2.2.1 _ (by omega) (by omega)
  intro n
  induction n with
  | zero =>
    intro l b M' hl hb he hz
    have hz2 : (b, ownAns row i b) = z := hz
    subst hz2
    simp only [B188_39, B188_75, B188_79, B188_88, B188_89, false_imp_iff, true_imp_iff, not_false_eq_true, not_true_eq_false, true_and, and_true, implies_true, qn_self, rI_i, rJ_l, rV_n, okZ0, okZ1, o31 hn, exP (show P0 t e 31 13 = some 33 from rfl), x33 hn (show 0 < 8 by decide), (h.m he).1, nI_le (show ln ≤ l by omega) (show l < 2 ^ 31 by omega)]
    refine ⟨fun q => ?_, fun q => ?_⟩
    · have hq := hQ M' he
      rw [if_neg q] at hq; exact hq
    · refine s182 hn (h.m he) hb hi (fun M2 he2 => ?_)
      have hq := hQ M2 (he.tr he2)
      rw [if_pos q] at hq
      simp only [false_imp_iff, true_imp_iff, not_false_eq_true, not_true_eq_false, true_and, and_true, implies_true, qn_self, rI_i, rJ_l, rV_n, okZ0, okZ1]
      exact hq
  | succ n ih =>
    intro l b M' hl hb he hz
    simp only [B188_39, false_imp_iff, true_imp_iff, not_false_eq_true, not_true_eq_false, true_and, and_true, implies_true, qn_self, rI_i, rJ_l, rV_n, okZ0, okZ1, o31 hn, exP (show P0 t e 31 13 = some 33 from rfl), x33 hn (show 0 < 8 by decide), (h.m he).1, nI_ge (show l < ln by omega) (show ln < 2 ^ 31 by omega)]
    simp only [B188_50, false_imp_iff, true_imp_iff, not_false_eq_true, not_true_eq_false, true_and, and_true, implies_true, qn_self, rI_i, rJ_l, rV_n, okZ0, okZ1, o31 hn]
    refine s182 hn (h.m he) (show l < ln by omega) hi (fun M2 he2 => ?_)
    simp only [false_imp_iff, true_imp_iff, not_false_eq_true, not_true_eq_false, true_and, and_true, implies_true, qn_self, rI_i, rJ_l, rV_n, okZ0, okZ1, o31 hn]
    refine s182 hn (h.m (he.tr he2)) hb hi (fun M3 he3 => ?_)
    have k1 := b9 l (by omega)
    have k2 := b9 b hb
    have hz2 : arM (fun l => ownAns row i l) n (l + 1) (if ownAns row i l ≤ ownAns row i b then (b, ownAns row i b) else (l, ownAns row i l)) = z := hz
    simp only [false_imp_iff, true_imp_iff, not_false_eq_true, not_true_eq_false, true_and, and_true, implies_true, qn_self, rI_i, rJ_l, rV_n, okZ0, okZ1, nI_leI (show ownAns row i l < 2 ^ 31 by omega) (show ownAns row i b < 2 ^ 31 by omega)]
    refine ⟨fun q => ?_, fun q => ?_⟩
    · rw [if_pos q] at hz2
      simp only [B188_69, nI_add]
      exact ih (l + 1) b M3 (by omega) hb (he.tr (he2.tr he3)) hz2
    · rw [if_neg q] at hz2
      simp only [B188_66, B188_69, nI_add]
      exact ih (l + 1) l M3 (by omega) (by omega) (he.tr (he2.tr he3)) hz2
theorem s188 (hn : 44 ≤ nx) (h : MT M ln is fc dn row nd) {i : Nat} {w : Int32} (hi : i < is) (h0 : 0 < ln) {z : Nat × Nat} (hz : arM (fun l => ownAns row i l) (ln - 1) 1 (0, ownAns row i 0) = z) (hQ : ∀ M', eqM M M' → Q (some (.int (fS w (nI z.2) (nI z.1)))) M' N (P0 t e) nx) : aSem (d + 8) 188 [.ref 31, .int (nI i), .int w] M N (P0 t e) nx Q := by
  have c6 := h.2.2.2.2.2.2.1
  unfold wfC at c6
  have h2 := h.z (v := nI 0)
  have b2 : vB (nI i) is = true := vB_t ((vl_nI (by omega)).mpr hi)
  simp only [A188, B188_0, B188_13, false_imp_iff, true_imp_iff, not_false_eq_true, not_true_eq_false, true_and, and_true, implies_true, qn_self, rI_i, rJ_l, rV_n, okZ0, okZ1, o31 hn, s157 hn h2, b2, if_true, one0, s131, wi_c (show 1 < 2 ^ 31 by decide), vB_iff]
  by_cases hv : vl w (1 + 1)
  · obtain ⟨k, hk, rfl⟩ := vl_of hv
    simp only [vB_t hv, if_true, one0, false_imp_iff, true_imp_iff, not_false_eq_true, not_true_eq_false, true_and, and_true, implies_true, qn_self, rI_i, rJ_l, rV_n, okZ0, okZ1, B188_23, o31 hn, exP (show P0 t e 31 13 = some 33 from rfl), x33 hn (show 0 < 8 by decide), h2.1, nI_z (show ln < 2 ^ 31 by omega), show ¬ ln = 0 by omega, B188_34]
    refine l188 hn h2 (z := z) hi (fun M' he => ?_) (ln - 1) 1 0 _ (by omega) h0 eqM.rf hz
    rw [fS_0 hk]; exact hQ M' (eqM_z.tr he)
  · have hq := hQ _ (eqM_z (v := nI 0))
    rw [fS_v hv] at hq
    simp only [vB_f hv, if_false, Bool.false_eq_true, eq_true nI_0, false_imp_iff, true_imp_iff, not_false_eq_true, not_true_eq_false, true_and, and_true, implies_true, qn_self, rI_i, rJ_l, rV_n, okZ0, okZ1, B188_32]
    exact hq
theorem s188n (hn : 44 ≤ nx) (h : MT M ln is fc dn row nd) {x w : Int32} (hv : ¬ vl x is ∨ ln = 0) (hQ : ∀ M', eqM M M' → Q (some (.int ng1)) M' N (P0 t e) nx) : aSem (d + 8) 188 [.ref 31, .int x, .int w] M N (P0 t e) nx Q := by
  have c6 := h.2.2.2.2.2.2.1
  unfold wfC at c6
  have h2 := h.z (v := nI 0)
  have hq := hQ _ (eqM_z (v := nI 0))
  by_cases hx : vl x is
  · have h0 : ln = 0 := hv.elim (fun q => absurd hx q) id
    simp only [A188, B188_0, B188_13, false_imp_iff, true_imp_iff, not_false_eq_true, not_true_eq_false, true_and, and_true, implies_true, qn_self, rI_i, rJ_l, rV_n, okZ0, okZ1, o31 hn, s157 hn h2, vB_t hx, if_true, one0, s131, wi_c (show 1 < 2 ^ 31 by decide), vB_iff]
    by_cases hw : vl w (1 + 1)
    · simp only [vB_t hw, if_true, one0, false_imp_iff, true_imp_iff, not_false_eq_true, not_true_eq_false, true_and, and_true, implies_true, qn_self, rI_i, rJ_l, rV_n, okZ0, okZ1, B188_23, B188_32, o31 hn, exP (show P0 t e 31 13 = some 33 from rfl), x33 hn (show 0 < 8 by decide), h2.1, nI_z (show ln < 2 ^ 31 by omega), h0, eq_true nI_0]
      exact hq
    · simp only [vB_f hw, if_false, Bool.false_eq_true, eq_true nI_0, false_imp_iff, true_imp_iff, not_false_eq_true, not_true_eq_false, true_and, and_true, implies_true, qn_self, rI_i, rJ_l, rV_n, okZ0, okZ1, B188_32]
      exact hq
  · simp only [A188, B188_0, B188_32, false_imp_iff, true_imp_iff, not_false_eq_true, not_true_eq_false, true_and, and_true, implies_true, qn_self, rI_i, rJ_l, rV_n, okZ0, okZ1, o31 hn, s157 hn h2, vB_f hx, if_false, Bool.false_eq_true, eq_true nI_0]
    exact hq
theorem l189 (hn : 44 ≤ nx) (h : MT M ln is fc dn row nd) {l v c0 : Nat} (hl : l < ln) (hv : v < 100) (hK : ∀ M', eqM M M' → WP (aSem (d + 7)) g0 189 nx (qn nx Q) 74 [(0, .ref 31), (1, .int (nI v)), (2, .int (nI (c0 + cntF (fun i => ownAns row i l == v) 0 is))), (3, .int (nI l)), (4, .int (nI is))] [] M' N (P0 t e) nx) : ∀ n i c M', i + n = is → eqM M M' → c + cntF (fun i => ownAns row i l == v) i n = c0 + cntF (fun i => ownAns row i l == v) 0 is → WP (aSem (d + 7)) g0 189 nx (qn nx Q) 38 [(0, .ref 31), (1, .int (nI v)), (2, .int (nI c)), (3, .int (nI l)), (4, .int (nI i))] [] M' N (P0 t e) nx := by
  have c6 := h.2.2.2.2.2.2.1
  unfold wfC at c6
  intro n
  induction n with
  | zero =>
    intro i c M' hi he hz
    have hz2 : c = c0 + cntF (fun i => ownAns row i l == v) 0 is := hz
    simp only [B189_38, false_imp_iff, true_imp_iff, not_false_eq_true, not_true_eq_false, true_and, and_true, implies_true, qn_self, rI_i, rJ_l, rV_n, okZ0, okZ1, o31 hn, exP (show P0 t e 31 13 = some 33 from rfl), x33 hn (show 1 < 8 by decide), (h.m he).2.1, nI_le (show is ≤ i by omega) (show i < 2 ^ 31 by omega)]
    rw [hz2, show i = is by omega]
    exact hK M' he
  | succ n ih =>
    intro i c M' hi he hz
    have hp := nxM_ok h.2.2.2.2.2.2.2.1 c6.1 c6.2.1 (show i < is by omega)
    have hlt : ownLand row i l < ln := comesM_lt hp hl
    have b9 : ownAns row i l ≤ 99 := h.2.2.2.2.2.2.2.1.2.2.2.1 _ (by omega) (by omega)
    simp only [B189_38, false_imp_iff, true_imp_iff, not_false_eq_true, not_true_eq_false, true_and, and_true, implies_true, qn_self, rI_i, rJ_l, rV_n, okZ0, okZ1, o31 hn, exP (show P0 t e 31 13 = some 33 from rfl), x33 hn (show 1 < 8 by decide), (h.m he).2.1, nI_ge (show i < is by omega) (show is < 2 ^ 31 by omega)]
    simp only [B189_49, false_imp_iff, true_imp_iff, not_false_eq_true, not_true_eq_false, true_and, and_true, implies_true, qn_self, rI_i, rJ_l, rV_n, okZ0, okZ1, o31 hn]
    refine s182 hn (h.m he) hl (show i < is by omega) (fun M2 he2 => ?_)
    have hz2 : c + ((if (ownAns row i l == v) = true then 1 else 0) + cntF (fun i => ownAns row i l == v) (i + 1) n) = c0 + cntF (fun i => ownAns row i l == v) 0 is := hz
    simp only [false_imp_iff, true_imp_iff, not_false_eq_true, not_true_eq_false, true_and, and_true, implies_true, qn_self, rI_i, rJ_l, rV_n, okZ0, okZ1, nI_eq (show ownAns row i l < 2 ^ 31 by omega) (show v < 2 ^ 31 by omega)]
    refine ⟨fun q => ?_, fun q => ?_⟩
    · rw [if_neg (by simp [q]), Nat.zero_add] at hz2
      simp only [B189_65, B189_66, nI_add, Nat.add_zero]
      exact ih (i + 1) c M2 (by omega) (he.tr he2) hz2
    · rw [if_pos (by simp [q]), ← Nat.add_assoc] at hz2
      simp only [B189_61, B189_66, nI_add]
      exact ih (i + 1) (c + 1) M2 (by omega) (he.tr he2) hz2
theorem m189 (hn : 44 ≤ nx) (h : MT M ln is fc dn row nd) {v z : Nat} (hv : v < 100) (hQ : ∀ M', eqM M M' → Q (some (.long (lN z))) M' N (P0 t e) nx) : ∀ n l c M', l + n = ln → c ≤ 6 * l → eqM M M' → c + sumF (fun l => cntF (fun i => ownAns row i l == v) 0 is) l n = z → WP (aSem (d + 7)) g0 189 nx (qn nx Q) 25 [(0, .ref 31), (1, .int (nI v)), (2, .int (nI c)), (3, .int (nI l))] [] M' N (P0 t e) nx := by
  have c6 := h.2.2.2.2.2.2.1
  unfold wfC at c6
  intro n
  induction n with
  | zero =>
    intro l c M' hl hc he hz
    have hz2 : c = z := hz
    simp only [B189_25, B189_80, false_imp_iff, true_imp_iff, not_false_eq_true, not_true_eq_false, true_and, and_true, implies_true, qn_self, rI_i, rJ_l, rV_n, okZ0, okZ1, o31 hn, exP (show P0 t e 31 13 = some 33 from rfl), x33 hn (show 0 < 8 by decide), (h.m he).1, nI_le (show ln ≤ l by omega) (show l < 2 ^ 31 by omega), i2l (show c < 2 ^ 31 by omega)]
    rw [hz2]
    exact hQ M' he
  | succ n ih =>
    intro l c M' hl hc he hz
    have b1 := cntF_le (fun i => ownAns row i l == v) is 0
    have hz2 : c + (cntF (fun i => ownAns row i l == v) 0 is + sumF (fun l => cntF (fun i => ownAns row i l == v) 0 is) (l + 1) n) = z := hz
    rw [← Nat.add_assoc] at hz2
    simp only [B189_25, false_imp_iff, true_imp_iff, not_false_eq_true, not_true_eq_false, true_and, and_true, implies_true, qn_self, rI_i, rJ_l, rV_n, okZ0, okZ1, o31 hn, exP (show P0 t e 31 13 = some 33 from rfl), x33 hn (show 0 < 8 by decide), (h.m he).1, nI_ge (show l < ln by omega) (show ln < 2 ^ 31 by omega)]
    simp only [B189_35]
    refine l189 hn (h.m he) (show l < ln by omega) hv (c0 := c) (fun M2 he2 => ?_) is 0 c M' (by omega) eqM.rf rfl
    simp only [B189_74, nI_add]
    exact ih (l + 1) _ M2 (by omega) (by omega) (he.tr he2) hz2
theorem s189 (hn : 44 ≤ nx) (h : MT M ln is fc dn row nd) {v : Nat} (hv : v < 100) (hQ : ∀ M', eqM M M' → Q (some (.long (lN (sumF (taM row ln v) 0 is)))) M' N (P0 t e) nx) : aSem (d + 8) 189 [.ref 31, .int (nI v)] M N (P0 t e) nx Q := by
  have h2 := h.z (v := nI 0)
  have b1 : vB (nI v) (99 + 1) = true := vB_t ((vl_nI (by omega)).mpr hv)
  simp only [A189, B189_0, B189_21, false_imp_iff, true_imp_iff, not_false_eq_true, not_true_eq_false, true_and, and_true, implies_true, qn_self, rI_i, rJ_l, rV_n, okZ0, okZ1, o31 hn, s131, wi_c (show 99 < 2 ^ 31 by decide), vB_iff, b1, if_true, one0]
  refine m189 hn h2 hv (fun M' he => hQ M' (eqM_z.tr he)) ln 0 0 _ (by omega) (by decide) eqM.rf ?_
  rw [Nat.zero_add]
  exact sumF_x (p := fun l i => ownAns row i l == v) ln 0
theorem s189n (hn : 44 ≤ nx) (h : MT M ln is fc dn row nd) {x : Int32} (hv : ¬ vl x 100) (hQ : ∀ M', eqM M M' → Q (some (.long ngL)) M' N (P0 t e) nx) : aSem (d + 8) 189 [.ref 31, .int x] M N (P0 t e) nx Q := by
  have b1 : ¬ vB x (99 + 1) = true := vB_f hv
  simp only [A189, B189_0, B189_17, false_imp_iff, true_imp_iff, not_false_eq_true, not_true_eq_false, true_and, and_true, implies_true, qn_self, rI_i, rJ_l, rV_n, okZ0, okZ1, o31 hn, s131, wi_c (show 99 < 2 ^ 31 by decide), vB_iff, b1, if_false, Bool.false_eq_true, eq_true nI_0]
  exact hQ _ eqM_z
theorem an1 : ∀ b, b < 64 → 0 < b → nI b &&& (nI b - nI 1) = nI (b &&& (b - 1)) ∧ b &&& (b - 1) < b ∧ popN b = popN (b &&& (b - 1)) + 1 := by decide +kernel
theorem l193 : ∀ n b c, b < 64 → b ≤ n → (WP (aSem d) g0 193 nx (qn nx Q) 4 [(1, .int (nI c)), (2, .int (nI b))] [] M N P nx ↔ Q (some (.int (nI (c + popN b)))) M N P nx) := by
  intro n
  induction n with
  | zero =>
    intro b c hb hn
    rw [show b = 0 by omega]
    simp only [B193_4, B193_20, false_imp_iff, true_imp_iff, not_false_eq_true, not_true_eq_false, true_and, and_true, implies_true, qn_self, rI_i, rJ_l, rV_n, okZ0, okZ1, eq_true nI_0]
    exact Iff.rfl
  | succ n ih =>
    intro b c hb hn
    by_cases q : b = 0
    · rw [q]
      simp only [B193_4, B193_20, false_imp_iff, true_imp_iff, not_false_eq_true, not_true_eq_false, true_and, and_true, implies_true, qn_self, rI_i, rJ_l, rV_n, okZ0, okZ1, eq_true nI_0]
      exact Iff.rfl
    · have k := an1 b hb (by omega)
      simp only [B193_4, false_imp_iff, true_imp_iff, not_false_eq_true, not_true_eq_false, true_and, and_true, implies_true, qn_self, rI_i, rJ_l, rV_n, okZ0, okZ1, nI_z (show b < 2 ^ 31 by omega), q]
      simp only [B193_8, nI_add, k.1]
      rw [ih (b &&& (b - 1)) (c + 1) (by omega) (by omega), k.2.2, Nat.add_assoc, Nat.add_comm 1]
theorem s193 {b : Nat} (hb : b < 64) : aSem (d + 1) 193 [.int (nI b)] M N P nx Q ↔ Q (some (.int (nI (popN b)))) M N P nx := by
  simp only [A193, B193_0]
  rw [l193 b b 0 hb (Nat.le_refl _), Nat.zero_add]
theorem l196 (hn : 44 ≤ nx) (h : MT M ln is fc dn row nd) {z : Nat} (hQ : ∀ M', eqM M M' → Q (some (.int (nI z))) M' N (P0 t e) nx) : ∀ n k c M', k + n = dn → c < 2 ^ k → eqM M M' → c + bitF (liB row nd is ln) k n = z → WP (aSem (d + 9)) g0 196 nx (qn nx Q) 9 [(0, .ref 31), (1, .int (nI c)), (2, .int (nI k))] [] M' N (P0 t e) nx := by
  have c6 := h.2.2.2.2.2.2.1
  unfold wfC at c6
  intro n
  induction n with
  | zero =>
    intro k c M' hk hc he hz
    simp only [B196_9, B196_55, false_imp_iff, true_imp_iff, not_false_eq_true, not_true_eq_false, true_and, and_true, implies_true, qn_self, rI_i, rJ_l, rV_n, okZ0, okZ1, o31 hn, exP (show P0 t e 31 13 = some 33 from rfl), x33 hn (show 3 < 8 by decide), (h.m he).2.2.2.1, nI_le (show dn ≤ k by omega) (show k < 2 ^ 31 by omega)]
    have hz2 : c = z := hz
    rw [hz2]
    exact hQ M' he
  | succ n ih =>
    intro k c M' hk hc he hz
    have hpw : 2 ^ (k + 1) = 2 * 2 ^ k := by rw [Nat.pow_succ]; omega
    have h32 := pow6 (show k < 6 by omega)
    have hB := (whB_BS (row := row) (need := nd k) (is := is) c6.1).1
    have hA := (BS_all c6.1).1
    simp only [B196_9, false_imp_iff, true_imp_iff, not_false_eq_true, not_true_eq_false, true_and, and_true, implies_true, qn_self, rI_i, rJ_l, rV_n, okZ0, okZ1, o31 hn, exP (show P0 t e 31 13 = some 33 from rfl), x33 hn (show 3 < 8 by decide), (h.m he).2.2.2.1, nI_ge (show k < dn by omega) (show dn < 2 ^ 31 by omega)]
    simp only [B196_19, false_imp_iff, true_imp_iff, not_false_eq_true, not_true_eq_false, true_and, and_true, implies_true, qn_self, rI_i, rJ_l, rV_n, okZ0, okZ1, o31 hn]
    refine s191 hn (h.m he) (show k < dn by omega) (fun M2 he2 => ?_)
    have hz2 : c + ((if liB row nd is ln k = true then 2 ^ k else 0) + bitF (liB row nd is ln) (k + 1) n) = z := hz
    have no : ∀ M3, eqM M M3 → ¬ liB row nd is ln k = true → WP (aSem (d + 9)) g0 196 nx (qn nx Q) 9 [(0, .ref 31), (1, .int (nI c)), (2, .int (nI (k + 1)))] [] M3 N (P0 t e) nx := by
      intro M3 he3 q
      rw [if_neg q, Nat.zero_add] at hz2
      exact ih (k + 1) c M3 (by omega) (by omega) he3 hz2
    simp only [false_imp_iff, true_imp_iff, not_false_eq_true, not_true_eq_false, true_and, and_true, implies_true, qn_self, rI_i, rJ_l, rV_n, okZ0, okZ1, nI_z (show whB row (nd k) is ln < 2 ^ 31 by omega)]
    refine ⟨fun q => ?_, fun q => ?_⟩
    · simp only [B196_46, B196_47, or6z c (by omega), nI_add]
      exact no M2 (he.tr he2) (by unfold liB; simp [q])
    · simp only [B196_28, false_imp_iff, true_imp_iff, not_false_eq_true, not_true_eq_false, true_and, and_true, implies_true, qn_self, rI_i, rJ_l, rV_n, okZ0, okZ1, o31 hn]
      refine s191 hn (h.m (he.tr he2)) (show k < dn by omega) (fun M3 he3 => ?_)
      have he4 := he.tr (he2.tr he3)
      simp only [false_imp_iff, true_imp_iff, not_false_eq_true, not_true_eq_false, true_and, and_true, implies_true, qn_self, rI_i, rJ_l, rV_n, okZ0, okZ1, o31 hn, s192 hn (h.m he4), nI_eq (show whB row (nd k) is ln < 2 ^ 31 by omega) (show 2 ^ ln - 1 < 2 ^ 31 by omega)]
      refine ⟨fun w => ?_, fun w => ?_⟩
      · simp only [B196_46, B196_47, or6z c (by omega), nI_add]
        exact no M3 he4 (by unfold liB; simp [w])
      · rw [if_pos (by unfold liB; simp [q, w]), ← Nat.add_assoc] at hz2
        simp only [B196_40, B196_47, or6 k (by omega) c hc, nI_add]
        exact ih (k + 1) (c + 2 ^ k) M3 (by omega) (by omega) he4 hz2
theorem s196 (hn : 44 ≤ nx) (h : MT M ln is fc dn row nd) (hQ : ∀ M', eqM M M' → Q (some (.int (nI (bitF (liB row nd is ln) 0 dn)))) M' N (P0 t e) nx) : aSem (d + 10) 196 [.ref 31] M N (P0 t e) nx Q := by
  have h2 := h.z (v := nI 0)
  simp only [A196, B196_0, false_imp_iff, true_imp_iff, not_false_eq_true, not_true_eq_false, true_and, and_true, implies_true, qn_self, rI_i, rJ_l, rV_n, okZ0, okZ1, o31 hn]
  exact l196 hn h2 (fun M' he => hQ M' (eqM_z.tr he)) dn 0 0 _ (by omega) (by decide) eqM.rf (by omega)
end MMO
