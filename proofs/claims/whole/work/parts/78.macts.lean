/-! THE REFERENCE: tie, think, point, say, count -/
section MAC
variable {d : Nat} {M : aM} {N : aN} {P : aP} {t e nx ln is fc dn u tp : Nat} {row nd : Nat → Nat} {hs ks : Nat → Nat → Nat} {kp : Nat → Bool} {Q : aQ}
theorem MU.z {v : Int32} (h : MU M u hs kp ks) : MU (uM M 31 0 v) u hs kp ks := h.m (eqM_z (v := v))
theorem eqB_z {v : Int32} : eqB M (uM M 31 0 v) := (eqM_z (v := v)).B
theorem s202 (hn : 44 ≤ nx) (h : MT M ln is fc dn row nd) (hU : MU M u hs kp ks) {f l : Nat} (hf : f < fc) (hl : l < ln) (hQ : ∀ M', eqB M M' → MT M' ln is fc dn (va_up row (6 + f) l) nd → MU M' (psU u) (psH u hs row) kp ks → Q (some (.int (nI (row (6 + f))))) M' N (P0 t e) nx) : aSem (d + 3) 202 [.ref 31, .int (nI f), .int (nI l)] M N (P0 t e) nx Q := by
  have c6 := h.2.2.2.2.2.2.1
  unfold wfC at c6
  have h2 := h.z (v := nI 0)
  have b1 : vB (nI f) fc = true := vB_t ((vl_nI (by omega)).mpr hf)
  have b2 : vB (nI l) ln = true := vB_t ((vl_nI (by omega)).mpr hl)
  simp only [A202, B202_0, B202_13, B202_21, false_imp_iff, true_imp_iff, not_false_eq_true, not_true_eq_false, true_and, and_true, implies_true, qn_self, rI_i, rJ_l, rV_n, okZ0, okZ1, o31 hn, s156 hn h2, s158 hn h2, b1, b2, if_true, one0, nI_add]
  refine s201 hn h2 hU.z (show 6 + f < 89 by omega) (h.2.2.2.2.2.2.2.1.fa c6.2.2.1 hf hl) (fun M' he hm hu => ?_)
  simp only [false_imp_iff, true_imp_iff, not_false_eq_true, not_true_eq_false, true_and, and_true, implies_true, qn_self, rI_i, rJ_l, rV_n, okZ0, okZ1, B202_34]
  exact hQ M' (eqB_z.tr he) hm hu
theorem s202n (hn : 44 ≤ nx) (h : MT M ln is fc dn row nd) {x y : Int32} (hv : ¬ (vl x fc ∧ vl y ln)) (hQ : ∀ M', eqM M M' → Q (some (.int ng1)) M' N (P0 t e) nx) : aSem (d + 3) 202 [.ref 31, .int x, .int y] M N (P0 t e) nx Q := by
  have h2 := h.z (v := nI 0)
  have hq := hQ _ (eqM_z (v := nI 0))
  by_cases hx : vl x fc
  · simp only [A202, B202_0, B202_13, B202_33, B202_34, false_imp_iff, true_imp_iff, not_false_eq_true, not_true_eq_false, true_and, and_true, implies_true, qn_self, rI_i, rJ_l, rV_n, okZ0, okZ1, o31 hn, s156 hn h2, s158 hn h2, vB_t hx, vB_f (fun q => hv ⟨hx, q⟩), if_true, if_false, Bool.false_eq_true, one0, eq_true nI_0]
    exact hq
  · simp only [A202, B202_0, B202_33, B202_34, false_imp_iff, true_imp_iff, not_false_eq_true, not_true_eq_false, true_and, and_true, implies_true, qn_self, rI_i, rJ_l, rV_n, okZ0, okZ1, o31 hn, s158 hn h2, vB_f hx, if_false, Bool.false_eq_true, eq_true nI_0]
    exact hq
theorem s203 (hn : 44 ≤ nx) (h : MT M ln is fc dn row nd) (hU : MU M u hs kp ks) {l y : Nat} (hl : l < ln) (hy : y < 5) (hQ : ∀ M', eqB M M' → MT M' ln is fc dn (va_up row l y) nd → MU M' (psU u) (psH u hs row) kp ks → Q (some (.int (nI (row l)))) M' N (P0 t e) nx) : aSem (d + 3) 203 [.ref 31, .int (nI l), .int (nI y)] M N (P0 t e) nx Q := by
  have c6 := h.2.2.2.2.2.2.1
  unfold wfC at c6
  have h2 := h.z (v := nI 0)
  have b1 : vB (nI l) ln = true := vB_t ((vl_nI (by omega)).mpr hl)
  have b2 : vB (nI y) (4 + 1) = true := vB_t ((vl_nI (by omega)).mpr hy)
  simp only [A203, B203_0, B203_13, B203_25, false_imp_iff, true_imp_iff, not_false_eq_true, not_true_eq_false, true_and, and_true, implies_true, qn_self, rI_i, rJ_l, rV_n, okZ0, okZ1, o31 hn, s156 hn h2, b1, b2, if_true, one0, s131, wi_c (show 4 < 2 ^ 31 by decide), vB_iff]
  refine s201 hn h2 hU.z (show l < 89 by omega) (h.2.2.2.2.2.2.2.1.th (by omega) (by omega) c6.2.2.1) (fun M' he hm hu => ?_)
  simp only [false_imp_iff, true_imp_iff, not_false_eq_true, not_true_eq_false, true_and, and_true, implies_true, qn_self, rI_i, rJ_l, rV_n, okZ0, okZ1, B203_35]
  exact hQ M' (eqB_z.tr he) hm hu
theorem s203n (hn : 44 ≤ nx) (h : MT M ln is fc dn row nd) {x y : Int32} (hv : ¬ (vl x ln ∧ vl y 5)) (hQ : ∀ M', eqM M M' → Q (some (.int ng1)) M' N (P0 t e) nx) : aSem (d + 3) 203 [.ref 31, .int x, .int y] M N (P0 t e) nx Q := by
  have h2 := h.z (v := nI 0)
  have hq := hQ _ (eqM_z (v := nI 0))
  by_cases hx : vl x ln
  · have hy : ¬ vB y (4 + 1) = true := vB_f (fun q => hv ⟨hx, q⟩)
    simp only [A203, B203_0, B203_13, B203_34, B203_35, false_imp_iff, true_imp_iff, not_false_eq_true, not_true_eq_false, true_and, and_true, implies_true, qn_self, rI_i, rJ_l, rV_n, okZ0, okZ1, o31 hn, s156 hn h2, vB_t hx, s131, wi_c (show 4 < 2 ^ 31 by decide), vB_iff, hy, if_true, if_false, Bool.false_eq_true, one0, eq_true nI_0]
    exact hq
  · simp only [A203, B203_0, B203_34, B203_35, false_imp_iff, true_imp_iff, not_false_eq_true, not_true_eq_false, true_and, and_true, implies_true, qn_self, rI_i, rJ_l, rV_n, okZ0, okZ1, o31 hn, s156 hn h2, vB_f hx, if_false, Bool.false_eq_true, eq_true nI_0]
    exact hq
theorem a6 {a l i : Nat} : nI a + nI 6 * nI l + nI i = nI (a + (6 * l + i)) := by rw [nI_mul, nI_add, nI_add, Nat.add_assoc]
theorem s205 (hn : 44 ≤ nx) (h : MT M ln is fc dn row nd) (hU : MU M u hs kp ks) {l i y : Nat} (hl : l < ln) (hi : i < is) (hy : y < 100) (hQ : ∀ M', eqB M M' → MT M' ln is fc dn (va_up row (47 + (6 * l + i)) y) nd → MU M' (psU u) (psH u hs row) kp ks → Q (some (.int (nI (row (47 + (6 * l + i)))))) M' N (P0 t e) nx) : aSem (d + 3) 205 [.ref 31, .int (nI l), .int (nI i), .int (nI y)] M N (P0 t e) nx Q := by
  have c6 := h.2.2.2.2.2.2.1
  unfold wfC at c6
  have h2 := h.z (v := nI 0)
  have b1 : vB (nI l) ln = true := vB_t ((vl_nI (by omega)).mpr hl)
  have b2 : vB (nI i) is = true := vB_t ((vl_nI (by omega)).mpr hi)
  have b3 : vB (nI y) (99 + 1) = true := vB_t ((vl_nI (by omega)).mpr hy)
  simp only [A205, B205_0, B205_13, B205_21, B205_33, false_imp_iff, true_imp_iff, not_false_eq_true, not_true_eq_false, true_and, and_true, implies_true, qn_self, rI_i, rJ_l, rV_n, okZ0, okZ1, o31 hn, s156 hn h2, s157 hn h2, b1, b2, b3, if_true, one0, s131, wi_c (show 99 < 2 ^ 31 by decide), vB_iff, a6]
  refine s201 hn h2 hU.z (show 47 + (6 * l + i) < 89 by omega) (h.2.2.2.2.2.2.2.1.la (by omega) (by omega) (by omega) c6.2.2.1) (fun M' he hm hu => ?_)
  simp only [false_imp_iff, true_imp_iff, not_false_eq_true, not_true_eq_false, true_and, and_true, implies_true, qn_self, rI_i, rJ_l, rV_n, okZ0, okZ1, B205_51]
  exact hQ M' (eqB_z.tr he) hm hu
theorem s205n (hn : 44 ≤ nx) (h : MT M ln is fc dn row nd) {x y z : Int32} (hv : ¬ ((vl x ln ∧ vl y is) ∧ vl z 100)) (hQ : ∀ M', eqM M M' → Q (some (.int ng1)) M' N (P0 t e) nx) : aSem (d + 3) 205 [.ref 31, .int x, .int y, .int z] M N (P0 t e) nx Q := by
  have h2 := h.z (v := nI 0)
  have hq := hQ _ (eqM_z (v := nI 0))
  by_cases hx : vl x ln
  · by_cases hy : vl y is
    · have hz : ¬ vB z (99 + 1) = true := vB_f (fun q => hv ⟨⟨hx, hy⟩, q⟩)
      simp only [A205, B205_0, B205_13, B205_21, B205_50, B205_51, false_imp_iff, true_imp_iff, not_false_eq_true, not_true_eq_false, true_and, and_true, implies_true, qn_self, rI_i, rJ_l, rV_n, okZ0, okZ1, o31 hn, s156 hn h2, s157 hn h2, vB_t hx, vB_t hy, s131, wi_c (show 99 < 2 ^ 31 by decide), vB_iff, hz, if_true, if_false, Bool.false_eq_true, one0, eq_true nI_0]
      exact hq
    · simp only [A205, B205_0, B205_13, B205_50, B205_51, false_imp_iff, true_imp_iff, not_false_eq_true, not_true_eq_false, true_and, and_true, implies_true, qn_self, rI_i, rJ_l, rV_n, okZ0, okZ1, o31 hn, s156 hn h2, s157 hn h2, vB_t hx, vB_f hy, if_true, if_false, Bool.false_eq_true, one0, eq_true nI_0]
      exact hq
  · simp only [A205, B205_0, B205_50, B205_51, false_imp_iff, true_imp_iff, not_false_eq_true, not_true_eq_false, true_and, and_true, implies_true, qn_self, rI_i, rJ_l, rV_n, okZ0, okZ1, o31 hn, s156 hn h2, vB_f hx, if_false, Bool.false_eq_true, eq_true nI_0]
    exact hq
theorem s204 (hn : 44 ≤ nx) (h : MT M ln is fc dn row nd) (hU : MU M u hs kp ks) {l i : Nat} {x z : Int32} (hl : l < ln) (hi : i < is) (hx : x = ng1 ∨ vl x fc) (hz : z = nI 0 ∨ z = nI 1) (hQ : ∀ M', eqB M M' → MT M' ln is fc dn (va_up row (11 + (6 * l + i)) (ruN x z)) nd → MU M' (psU u) (psH u hs row) kp ks → Q (some (.int (nI 1))) M' N (P0 t e) nx) : aSem (d + 3) 204 [.ref 31, .int (nI l), .int (nI i), .int x, .int z] M N (P0 t e) nx Q := by
  have c6 := h.2.2.2.2.2.2.1
  unfold wfC at c6
  have h2 := h.z (v := nI 0)
  have b1 : vB (nI l) ln = true := vB_t ((vl_nI (by omega)).mpr hl)
  have b2 : vB (nI i) is = true := vB_t ((vl_nI (by omega)).mpr hi)
  have b9 : row (11 + (6 * l + i)) ≤ 2 * fc := h.2.2.2.2.2.2.2.1.2.2.1 _ (by omega) (by omega)
  have tail : ∀ y, y ≤ 2 * fc → y = ruN x z → WP (aSem (d + 2)) g0 204 nx (qn nx Q) 71 [] [.int (nI y), .int (nI (11 + (6 * l + i))), .ref 31] (uM M 31 0 (nI 0)) N (P0 t e) nx := by
    intro y hy ey
    simp only [B204_71, false_imp_iff, true_imp_iff, not_false_eq_true, not_true_eq_false, true_and, and_true, implies_true, qn_self, rI_i, rJ_l, rV_n, okZ0, okZ1, o31 hn]
    refine s201 hn h2 hU.z (show 11 + (6 * l + i) < 89 by omega) (h.2.2.2.2.2.2.2.1.ru (by omega) (by omega) hy c6.2.2.1) (fun M' he hm hu => ?_)
    rw [ey] at hm
    simp only [false_imp_iff, true_imp_iff, not_false_eq_true, not_true_eq_false, true_and, and_true, implies_true, qn_self, rI_i, rJ_l, rV_n, okZ0, okZ1, nI_pos (show row (11 + (6 * l + i)) < 2 ^ 31 by omega), B204_81, B204_86, okZ1]
    exact hQ M' (eqB_z.tr he) hm hu
  simp only [A204, B204_0, B204_13, B204_21, false_imp_iff, true_imp_iff, not_false_eq_true, not_true_eq_false, true_and, and_true, implies_true, qn_self, rI_i, rJ_l, rV_n, okZ0, okZ1, o31 hn, s156 hn h2, s157 hn h2, b1, b2, if_true, one0]
  by_cases q : x = ng1
  · simp only [q, false_imp_iff, true_imp_iff, not_false_eq_true, not_true_eq_false, true_and, and_true, implies_true, qn_self, rI_i, rJ_l, rV_n, okZ0, okZ1, B204_36, B204_51, a6]
    exact tail 0 (Nat.zero_le _) (by unfold ruN; rw [if_pos q])
  · have hv : vl x fc := hx.elim (fun z => absurd z q) id
    obtain ⟨f, hf, rfl⟩ := vl_of hv
    have e1 : iN (nI f) = f := iN_nI (by omega)
    have e2 : nI 1 + nI 2 * nI f = nI (1 + 2 * f) := by rw [nI_mul, nI_add]
    simp only [q, false_imp_iff, true_imp_iff, not_false_eq_true, not_true_eq_false, true_and, and_true, implies_true, qn_self, rI_i, rJ_l, rV_n, okZ0, okZ1, B204_26, o31 hn, s158 hn h2, vB_t hv, if_true, one0, B204_36, B204_55, e2, a6]
    rcases hz with rfl | rfl
    · simp only [eq_true nI_0, false_imp_iff, true_imp_iff, not_false_eq_true, not_true_eq_false, true_and, and_true, implies_true, qn_self, rI_i, rJ_l, rV_n, okZ0, okZ1, B204_69, B204_70, nI_add]
      refine tail (1 + 2 * f + 0) (by omega) ?_
      unfold ruN
      rw [if_neg q, if_neg (by decide +kernel), e1]; omega
    · simp only [one0, false_imp_iff, true_imp_iff, not_false_eq_true, not_true_eq_false, true_and, and_true, implies_true, qn_self, rI_i, rJ_l, rV_n, okZ0, okZ1, B204_65, B204_70, nI_add]
      refine tail (1 + 2 * f + 1) (by omega) ?_
      unfold ruN
      rw [if_neg q, if_pos rfl, e1]; omega
theorem s204n (hn : 44 ≤ nx) (h : MT M ln is fc dn row nd) {x y v z : Int32} (hv : ¬ ((vl x ln ∧ vl y is) ∧ (v = ng1 ∨ vl v fc))) (hQ : ∀ M', eqM M M' → Q (some (.int (nI 0))) M' N (P0 t e) nx) : aSem (d + 3) 204 [.ref 31, .int x, .int y, .int v, .int z] M N (P0 t e) nx Q := by
  have h2 := h.z (v := nI 0)
  have hq := hQ _ (eqM_z (v := nI 0))
  by_cases hx : vl x ln
  · by_cases hy : vl y is
    · have q1 : ¬ v = ng1 := fun q => hv ⟨⟨hx, hy⟩, Or.inl q⟩
      have q2 : ¬ vB v fc = true := vB_f (fun q => hv ⟨⟨hx, hy⟩, Or.inr q⟩)
      simp only [A204, B204_0, B204_13, B204_21, B204_26, B204_34, false_imp_iff, true_imp_iff, not_false_eq_true, not_true_eq_false, true_and, and_true, implies_true, qn_self, rI_i, rJ_l, rV_n, okZ0, okZ1, o31 hn, s156 hn h2, s157 hn h2, s158 hn h2, vB_t hx, vB_t hy, q1, q2, if_true, if_false, Bool.false_eq_true, one0, eq_true nI_0, okZ0]
      exact hq
    · simp only [A204, B204_0, B204_13, B204_34, false_imp_iff, true_imp_iff, not_false_eq_true, not_true_eq_false, true_and, and_true, implies_true, qn_self, rI_i, rJ_l, rV_n, okZ0, okZ1, o31 hn, s156 hn h2, s157 hn h2, vB_t hx, vB_f hy, if_true, if_false, Bool.false_eq_true, one0, eq_true nI_0, okZ0]
      exact hq
  · simp only [A204, B204_0, B204_34, false_imp_iff, true_imp_iff, not_false_eq_true, not_true_eq_false, true_and, and_true, implies_true, qn_self, rI_i, rJ_l, rV_n, okZ0, okZ1, o31 hn, s156 hn h2, vB_f hx, if_false, Bool.false_eq_true, eq_true nI_0, okZ0]
    exact hq
theorem l206 (hn : 44 ≤ nx) (h : MT M ln is fc dn row nd) {a : Nat} (ha : a < 6) : ∀ n i c, i + n = is → (WP (aSem d) g0 206 nx (qn nx Q) 4 [(0, .ref 31), (1, .int (nI a)), (2, .int (nI c)), (3, .int (nI i))] [] M N (P0 t e) nx ↔ Q (some (.int (nI (c + cntF (fun k => row (83 + k) == a) i n)))) M N (P0 t e) nx) := by
  have c6 := h.2.2.2.2.2.2.1
  unfold wfC at c6
  intro n
  induction n with
  | zero =>
    intro i c hi
    simp only [B206_4, B206_41, false_imp_iff, true_imp_iff, not_false_eq_true, not_true_eq_false, true_and, and_true, implies_true, qn_self, rI_i, rJ_l, rV_n, okZ0, okZ1, o31 hn, exP (show P0 t e 31 13 = some 33 from rfl), x33 hn (show 1 < 8 by decide), h.2.1, nI_le (show is ≤ i by omega) (show i < 2 ^ 31 by omega)]
    exact Iff.rfl
  | succ n ih =>
    intro i c hi
    have b1 := h.2.2.2.2.2.2.2.1.2.2.2.2 i (by omega)
    have e1 : cntF (fun k => row (83 + k) == a) i (n + 1) = (if (row (83 + i) == a) = true then 1 else 0) + cntF (fun k => row (83 + k) == a) (i + 1) n := rfl
    simp only [B206_4, false_imp_iff, true_imp_iff, not_false_eq_true, not_true_eq_false, true_and, and_true, implies_true, qn_self, rI_i, rJ_l, rV_n, okZ0, okZ1, o31 hn, exP (show P0 t e 31 13 = some 33 from rfl), x33 hn (show 1 < 8 by decide), h.2.1, nI_ge (show i < is by omega) (show is < 2 ^ 31 by omega)]
    simp only [B206_14, B206_28, B206_32, B206_33, false_imp_iff, true_imp_iff, not_false_eq_true, not_true_eq_false, true_and, and_true, implies_true, qn_self, rI_i, rJ_l, rV_n, okZ0, okZ1, o31 hn, exP (show P0 t e 31 16 = some 36 from rfl), nI_add, x36 hn (show 83 + i < 89 by omega), h.2.2.2.2.1 (83 + i) (show 83 + i < 89 by omega), nI_eq (show row (83 + i) < 2 ^ 31 by omega) (show a < 2 ^ 31 by omega)]
    by_cases q : row (83 + i) = a
    · simp only [q, false_imp_iff, true_imp_iff, not_false_eq_true, not_true_eq_false, true_and, and_true, implies_true, qn_self, rI_i, rJ_l, rV_n, okZ0, okZ1, ih (i + 1) (c + 1) (by omega), e1, beq_self_eq_true, if_true, Nat.add_assoc]
    · have q2 : (row (83 + i) == a) = false := by simp [q]
      simp only [q, false_imp_iff, true_imp_iff, not_false_eq_true, not_true_eq_false, true_and, and_true, implies_true, qn_self, rI_i, rJ_l, rV_n, okZ0, okZ1, Nat.add_zero, ih (i + 1) c (by omega), e1, q2, Bool.false_eq_true, if_false, Nat.zero_add]
theorem s206 (hn : 44 ≤ nx) (h : MT M ln is fc dn row nd) {a : Nat} (ha : a < 6) : aSem (d + 1) 206 [.ref 31, .int (nI a)] M N (P0 t e) nx Q ↔ Q (some (.int (nI (cntF (fun k => row (83 + k) == a) 0 is)))) M N (P0 t e) nx := by
  simp only [A206, B206_0]
  rw [l206 hn h ha is 0 0 (by omega), Nat.zero_add]
theorem l213 (hn : 44 ≤ nx) (h : MT M ln is fc dn row nd) : ∀ n l c, l + n = ln → (WP (aSem (d + 1)) g0 213 nx (qn nx Q) 4 [(0, .ref 31), (1, .int (nI c)), (2, .int (nI l))] [] M N (P0 t e) nx ↔ Q (some (.int (nI (c + sumF (fun l => cntF (hasR row l) 0 is) l n)))) M N (P0 t e) nx) := by
  have c6 := h.2.2.2.2.2.2.1
  unfold wfC at c6
  intro n
  induction n with
  | zero =>
    intro l c hl
    simp only [B213_4, B213_28, false_imp_iff, true_imp_iff, not_false_eq_true, not_true_eq_false, true_and, and_true, implies_true, qn_self, rI_i, rJ_l, rV_n, okZ0, okZ1, o31 hn, exP (show P0 t e 31 13 = some 33 from rfl), x33 hn (show 0 < 8 by decide), h.1, nI_le (show ln ≤ l by omega) (show l < 2 ^ 31 by omega)]
    exact Iff.rfl
  | succ n ih =>
    intro l c hl
    have e1 : sumF (fun l => cntF (hasR row l) 0 is) l (n + 1) = cntF (hasR row l) 0 is + sumF (fun l => cntF (hasR row l) 0 is) (l + 1) n := rfl
    simp only [B213_4, false_imp_iff, true_imp_iff, not_false_eq_true, not_true_eq_false, true_and, and_true, implies_true, qn_self, rI_i, rJ_l, rV_n, okZ0, okZ1, o31 hn, exP (show P0 t e 31 13 = some 33 from rfl), x33 hn (show 0 < 8 by decide), h.1, nI_ge (show l < ln by omega) (show ln < 2 ^ 31 by omega)]
    simp only [B213_14, false_imp_iff, true_imp_iff, not_false_eq_true, not_true_eq_false, true_and, and_true, implies_true, qn_self, rI_i, rJ_l, rV_n, okZ0, okZ1, o31 hn, s161 hn h (show l < ln by omega), nI_add, ih (l + 1) _ (by omega), e1, Nat.add_assoc]
theorem s213 (hn : 44 ≤ nx) (h : MT M ln is fc dn row nd) : aSem (d + 2) 213 [.ref 31] M N (P0 t e) nx Q ↔ Q (some (.int (nI (sumF (fun l => cntF (hasR row l) 0 is) 0 ln)))) M N (P0 t e) nx := by
  simp only [A213, B213_0]
  rw [l213 hn h ln 0 0 (by omega), Nat.zero_add]
theorem l214 (hn : 44 ≤ nx) (h : MT M ln is fc dn row nd) : ∀ n i c, i + n = is → (WP (aSem d) g0 214 nx (qn nx Q) 4 [(0, .ref 31), (1, .int (nI c)), (2, .int (nI i))] [] M N (P0 t e) nx ↔ Q (some (.int (nI (c + cntF (fun k => row (83 + k) == k) i n)))) M N (P0 t e) nx) := by
  have c6 := h.2.2.2.2.2.2.1
  unfold wfC at c6
  intro n
  induction n with
  | zero =>
    intro i c hi
    simp only [B214_4, B214_41, false_imp_iff, true_imp_iff, not_false_eq_true, not_true_eq_false, true_and, and_true, implies_true, qn_self, rI_i, rJ_l, rV_n, okZ0, okZ1, o31 hn, exP (show P0 t e 31 13 = some 33 from rfl), x33 hn (show 1 < 8 by decide), h.2.1, nI_le (show is ≤ i by omega) (show i < 2 ^ 31 by omega)]
    exact Iff.rfl
  | succ n ih =>
    intro i c hi
    have b1 := h.2.2.2.2.2.2.2.1.2.2.2.2 i (by omega)
    have e1 : cntF (fun k => row (83 + k) == k) i (n + 1) = (if (row (83 + i) == i) = true then 1 else 0) + cntF (fun k => row (83 + k) == k) (i + 1) n := rfl
    simp only [B214_4, false_imp_iff, true_imp_iff, not_false_eq_true, not_true_eq_false, true_and, and_true, implies_true, qn_self, rI_i, rJ_l, rV_n, okZ0, okZ1, o31 hn, exP (show P0 t e 31 13 = some 33 from rfl), x33 hn (show 1 < 8 by decide), h.2.1, nI_ge (show i < is by omega) (show is < 2 ^ 31 by omega)]
    simp only [B214_14, B214_28, B214_32, B214_33, false_imp_iff, true_imp_iff, not_false_eq_true, not_true_eq_false, true_and, and_true, implies_true, qn_self, rI_i, rJ_l, rV_n, okZ0, okZ1, o31 hn, exP (show P0 t e 31 16 = some 36 from rfl), nI_add, x36 hn (show 83 + i < 89 by omega), h.2.2.2.2.1 (83 + i) (show 83 + i < 89 by omega), nI_eq (show row (83 + i) < 2 ^ 31 by omega) (show i < 2 ^ 31 by omega)]
    by_cases q : row (83 + i) = i
    · have q2 : (row (83 + i) == i) = true := by simp [q]
      rw [e1, if_pos q2]
      simp only [q, false_imp_iff, true_imp_iff, not_false_eq_true, not_true_eq_false, true_and, and_true, implies_true, qn_self, rI_i, rJ_l, rV_n, okZ0, okZ1, ih (i + 1) (c + 1) (by omega), Nat.add_assoc]
    · have q2 : (row (83 + i) == i) = false := by simp [q]
      simp only [q, false_imp_iff, true_imp_iff, not_false_eq_true, not_true_eq_false, true_and, and_true, implies_true, qn_self, rI_i, rJ_l, rV_n, okZ0, okZ1, Nat.add_zero, ih (i + 1) c (by omega), e1, q2, Bool.false_eq_true, if_false, Nat.zero_add]
theorem s214 (hn : 44 ≤ nx) (h : MT M ln is fc dn row nd) : aSem (d + 1) 214 [.ref 31] M N (P0 t e) nx Q ↔ Q (some (.int (nI (cntF (fun k => row (83 + k) == k) 0 is)))) M N (P0 t e) nx := by
  simp only [A214, B214_0]
  rw [l214 hn h is 0 0 (by omega), Nat.zero_add]
theorem s215 (hn : 44 ≤ nx) (h : MT M ln is fc dn row nd) (hU : MU M u hs kp ks) (htp : M 31 2 = nI tp) {x : Int32} (hQ : ∀ M', eqM M M' → Q (some (.int (coV ln is fc dn u tp row x))) M' N (P0 t e) nx) : aSem (d + 3) 215 [.ref 31, .int x] M N (P0 t e) nx Q := by
  have h2 := h.z (v := nI 0)
  have hu2 := (hU.z (v := nI 0)).2.1
  have htp2 : uM M 31 0 (nI 0) 31 2 = nI tp := by rw [uM_j (by decide)]; exact htp
  have hq := hQ _ (eqM_z (v := nI 0))
  unfold coV at hq
  rw [if_c (R := fun y => Q (some (.int y)) _ N (P0 t e) nx), if_c (R := fun y => Q (some (.int y)) _ N (P0 t e) nx), if_c (R := fun y => Q (some (.int y)) _ N (P0 t e) nx), if_c (R := fun y => Q (some (.int y)) _ N (P0 t e) nx), if_c (R := fun y => Q (some (.int y)) _ N (P0 t e) nx), if_c (R := fun y => Q (some (.int y)) _ N (P0 t e) nx), if_c (R := fun y => Q (some (.int y)) _ N (P0 t e) nx), if_c (R := fun y => Q (some (.int y)) _ N (P0 t e) nx)] at hq
  simp only [A215, B215_0, B215_52, B215_59, B215_66, B215_73, B215_80, B215_85, B215_90, B215_95, B215_100, false_imp_iff, true_imp_iff, not_false_eq_true, not_true_eq_false, true_and, and_true, implies_true, qn_self, rI_i, rJ_l, rV_n, okZ0, okZ1, o31 hn, exP (show P0 t e 31 13 = some 33 from rfl), x33 hn (show 0 < 8 by decide), x33 hn (show 1 < 8 by decide), x33 hn (show 2 < 8 by decide), x33 hn (show 3 < 8 by decide), h2.1, h2.2.1, h2.2.2.1, h2.2.2.2.1, hu2, htp2, s213 hn h2, s214 hn h2]
  exact hq
end MAC
