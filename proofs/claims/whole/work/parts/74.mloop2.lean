/-! THE REFERENCE: loop -/
theorem nthX_f {f : Nat → Bool} {x : Int32} : ∀ n c i, (∀ j, i ≤ j → j < i + n → f j = false) → nthX f x n c i = none
  | 0, c, i, _ => rfl
  | n + 1, c, i, h => by
    rw [nthX_s, if_neg (by rw [h i (Nat.le_refl _) (by omega)]; decide)]
    exact nthX_f n c (i + 1) (fun j a b => h j (by omega) (by omega))
theorem nthX_t {f : Nat → Bool} {x : Int32} : ∀ n m c i, (∀ j, i + n ≤ j → j < i + n + m → f j = false) → nthX f x (n + m) c i = nthX f x n c i
  | 0, m, c, i, h => by
    rw [Nat.zero_add]
    exact nthX_f m c i (fun j a b => h j (by omega) (by omega))
  | n + 1, m, c, i, h => by
    rw [show n + 1 + m = (n + m) + 1 by omega, nthX_s, nthX_s, nthX_t n m _ (i + 1) (fun j a b => h j (by omega) (by omega)), nthX_t n m _ (i + 1) (fun j a b => h j (by omega) (by omega))]
theorem nthX_ng {f : Nat → Bool} {x : Int32} (hx : ¬ 0 ≤ x) : ∀ n c i, c + n < 2 ^ 31 → nthX f x n c i = none
  | 0, c, i, _ => rfl
  | n + 1, c, i, h => by
    have h1 : ¬ nI c = x := fun q => hx (q ▸ nI_ge0 (by omega))
    rw [nthX_s, if_neg h1, nthX_ng hx n (c + 1) (i + 1) (by omega), nthX_ng hx n c (i + 1) (by omega)]
    split <;> rfl
theorem cntF_f {f : Nat → Bool} : ∀ n i, (∀ j, i ≤ j → j < i + n → f j = false) → cntF f i n = 0
  | 0, i, _ => rfl
  | n + 1, i, h => by
    show (if f i = true then 1 else 0) + cntF f (i + 1) n = 0
    rw [h i (Nat.le_refl _) (by omega), cntF_f n (i + 1) (fun j a b => h j (by omega) (by omega))]
    rfl
/-- what is answered of the sets from i on -/
def lpR (f : Nat → Bool) (x : Int32) (n c i : Nat) : Int32 := if x = ng1 then nI (c + cntF f i n) else oN (nthX f x n c i)
theorem lpR_A {nxt : Nat → Nat} {wh : Nat → Bool} {ln : Nat} {x : Int32} (hp : ptOK ln nxt) (h6 : ln ≤ 6) : lpR (lpS nxt wh ln) x (2 ^ ln - 1) 0 1 = lpA nxt wh ln x := by
  have h1 : 1 ≤ 2 ^ ln := Nat.pow_pos (by decide)
  have h64 : 2 ^ ln ≤ 64 := by
    have : 2 ^ ln ≤ 2 ^ 6 := Nat.pow_le_pow_right (by decide) h6
    omega
  have hhi : ∀ j, 2 ^ ln ≤ j → lpS nxt wh ln j = false := fun j hj => lpS_hi hp hj
  have e1 : cntF (lpS nxt wh ln) 0 64 = cntF (lpS nxt wh ln) 1 (2 ^ ln - 1) := by
    have a1 := cntF_add (lpS nxt wh ln) 1 0 63
    have a2 := cntF_add (lpS nxt wh ln) (2 ^ ln - 1) 1 (64 - 2 ^ ln)
    rw [show 2 ^ ln - 1 + (64 - 2 ^ ln) = 63 by omega] at a2
    have z1 := cntF_f (f := lpS nxt wh ln) 1 0 (fun j a b => by rw [show j = 0 by omega]; exact lpS_0)
    have z2 := cntF_f (f := lpS nxt wh ln) (64 - 2 ^ ln) (1 + (2 ^ ln - 1)) (fun j a b => hhi j (by omega))
    rw [show (0 : Nat) + 1 = 1 from rfl] at a1
    rw [show (64 : Nat) = 1 + 63 from rfl, a1, z1, a2, z2]
    omega
  have e2 : nthX (lpS nxt wh ln) x 64 0 0 = nthX (lpS nxt wh ln) x (2 ^ ln - 1) 0 1 := by
    have a1 := nthX_t (f := lpS nxt wh ln) (x := x) (2 ^ ln - 1) (64 - 2 ^ ln) 0 1 (fun j a b => hhi j (by omega))
    rw [show 2 ^ ln - 1 + (64 - 2 ^ ln) = 63 by omega] at a1
    rw [← a1, show (64 : Nat) = 63 + 1 from rfl, nthX_s, if_neg (by rw [lpS_0]; decide)]
  unfold lpR lpA
  rw [e1, e2, Nat.zero_add]
  by_cases hx : 0 ≤ x
  · rw [if_pos hx]
  · rw [if_neg hx, nthX_ng hx _ _ _ (by omega)]
    rfl
theorem shl6 : ∀ l, l < 7 → (nI 1 <<< (nI l &&& 31)) = nI (2 ^ l) := by decide +kernel
section MLP
variable {d : Nat} {M : aM} {N : aN} {P : aP} {t e nx ln is fc dn : Nat} {row nd : Nat → Nat} {Q : aQ}
theorem lpS_st {nxt : Nat → Nat} {wh : Nat → Bool} {l b : Nat} (hb : 0 < b) : lpS nxt wh (l + 1) b = (lpS nxt wh l b || (lpO nxt wh l == b)) := by
  show (lpS nxt wh l b || ((road nxt wh l).2.1 == 3 && lpF (road nxt wh l).2.2 (road nxt wh l).1 0 == b)) = _
  congr 1
  unfold lpO
  by_cases h : (road nxt wh l).2.1 = 3
  · simp [h]
  · rw [if_neg h]
    have h1 : ((road nxt wh l).2.1 == 3) = false := by simp [h]
    have h2 : (0 == b) = false := by
      rw [beq_eq_false_iff_ne]; omega
    rw [h1, h2, Bool.false_and]
theorem lpO_lt {nxt : Nat → Nat} {wh : Nat → Bool} {l : Nat} (hp : ptOK ln nxt) (h6 : ln ≤ 6) (hl : l < ln) : lpO nxt wh l < 64 := by
  have hok := road_ok (wh := wh) hp hl
  unfold lpO
  split
  · exact lpF_lt (n := 6) _ 0 (by decide) (fun x hx => by have := hok.2 x hx; omega)
  · decide
theorem l178 (hn : 44 ≤ nx) (h : MT M ln is fc dn row nd) {i b c : Nat} {x : Int32} (hi : i < is) (hb : 0 < b) (hb2 : b < 64) (hK : ∀ M', eqM M M' → WP (aSem (d + 4)) g0 178 nx (qn nx Q) 79 [(0, .ref 31), (1, .int (nI i)), (2, .int x), (3, .int (nI c)), (4, .int (nI b)), (5, .int (if lpS (nxM row i) (whM row i) ln b = true then nI 1 else nI 0)), (6, .int (nI ln))] [] M' N (P0 t e) nx) : ∀ n l M', l + n = ln → eqM M M' → WP (aSem (d + 4)) g0 178 nx (qn nx Q) 40 [(0, .ref 31), (1, .int (nI i)), (2, .int x), (3, .int (nI c)), (4, .int (nI b)), (5, .int (if lpS (nxM row i) (whM row i) l b = true then nI 1 else nI 0)), (6, .int (nI l))] [] M' N (P0 t e) nx := by
  have c6 := h.2.2.2.2.2.2.1
  unfold wfC at c6
  have hp := nxM_ok h.2.2.2.2.2.2.2.1 c6.1 c6.2.1 hi
  intro n
  induction n with
  | zero =>
    intro l M' hl he
    simp only [B178_40, false_imp_iff, true_imp_iff, not_false_eq_true, not_true_eq_false, true_and, and_true, implies_true, qn_self, rI_i, rJ_l, rV_n, okZ0, okZ1, o31 hn, exP (show P0 t e 31 13 = some 33 from rfl), x33 hn (show 0 < 8 by decide), (h.m he).1, nI_le (show ln ≤ l by omega) (show l < 2 ^ 31 by omega)]
    rw [show l = ln by omega]
    exact hK M' he
  | succ n ih =>
    intro l M' hl he
    simp only [B178_40, false_imp_iff, true_imp_iff, not_false_eq_true, not_true_eq_false, true_and, and_true, implies_true, qn_self, rI_i, rJ_l, rV_n, okZ0, okZ1, o31 hn, exP (show P0 t e 31 13 = some 33 from rfl), x33 hn (show 0 < 8 by decide), (h.m he).1, nI_ge (show l < ln by omega) (show ln < 2 ^ 31 by omega)]
    simp only [B178_51, false_imp_iff, true_imp_iff, not_false_eq_true, not_true_eq_false, true_and, and_true, implies_true, qn_self, rI_i, rJ_l, rV_n, okZ0, okZ1, o31 hn]
    refine s177 hn (h.m he) (show l < ln by omega) hi (fun M2 he2 => ?_)
    have b1 := lpO_lt (wh := whM row i) hp c6.1 (show l < ln by omega)
    have hs := lpS_st (nxt := nxM row i) (wh := whM row i) (l := l) hb
    have ih2 := ih (l + 1) M2 (by omega) (he.tr he2)
    rw [hs] at ih2
    simp only [false_imp_iff, true_imp_iff, not_false_eq_true, not_true_eq_false, true_and, and_true, implies_true, qn_self, rI_i, rJ_l, rV_n, okZ0, okZ1, nI_eq (show lpO (nxM row i) (whM row i) l < 2 ^ 31 by omega) (show b < 2 ^ 31 by omega)]
    refine ⟨fun q => ?_, fun q => ?_⟩
    · have q2 : (lpO (nxM row i) (whM row i) l == b) = false := by simp [q]
      rw [q2, Bool.or_false] at ih2
      simp only [B178_69, B178_70, nI_add]
      by_cases w : lpS (nxM row i) (whM row i) l b = true
      · simp only [w, if_true, or11.2.2.1] at ih2 ⊢
        exact ih2
      · simp only [w, if_false, Bool.false_eq_true, or11.1] at ih2 ⊢
        exact ih2
    · have q2 : (lpO (nxM row i) (whM row i) l == b) = true := by simp [q]
      rw [q2, Bool.or_true, if_pos rfl] at ih2
      simp only [B178_65, B178_70, nI_add]
      by_cases w : lpS (nxM row i) (whM row i) l b = true
      · simp only [w, if_true, or11.2.2.2]
        exact ih2
      · simp only [w, if_false, Bool.false_eq_true, or11.2.1]
        exact ih2
theorem m178 (hn : 44 ≤ nx) (h : MT M ln is fc dn row nd) {i : Nat} {x z : Int32} (hi : i < is) (hQ : ∀ M', eqM M M' → Q (some (.int z)) M' N (P0 t e) nx) : ∀ n b c M', b + n = 2 ^ ln → 0 < b → c ≤ b → eqM M M' → lpR (lpS (nxM row i) (whM row i) ln) x n c b = z → WP (aSem (d + 4)) g0 178 nx (qn nx Q) 21 [(0, .ref 31), (1, .int (nI i)), (2, .int x), (3, .int (nI c)), (4, .int (nI b))] [] M' N (P0 t e) nx := by
  have c6 := h.2.2.2.2.2.2.1
  unfold wfC at c6
  have h64 : 2 ^ ln ≤ 64 := by
    have : 2 ^ ln ≤ 2 ^ 6 := Nat.pow_le_pow_right (by decide) c6.1
    omega
  intro n
  induction n with
  | zero =>
    intro b c M' hb h0 hc he hz
    simp only [B178_21, false_imp_iff, true_imp_iff, not_false_eq_true, not_true_eq_false, true_and, and_true, implies_true, qn_self, rI_i, rJ_l, rV_n, okZ0, okZ1, o31 hn, exP (show P0 t e 31 13 = some 33 from rfl), x33 hn (show 0 < 8 by decide), (h.m he).1, shl6 ln (by omega), nI_le (show 2 ^ ln ≤ b by omega) (show b < 2 ^ 31 by omega), B178_104, B178_109, B178_113, B178_115]
    have hq := hQ M' he
    rw [← hz] at hq
    unfold lpR at hq
    refine ⟨fun q => ?_, fun q => ?_⟩
    · rw [if_neg q] at hq; exact hq
    · rw [if_pos q] at hq; exact hq
  | succ n ih =>
    intro b c M' hb h0 hc he hz
    simp only [B178_21, false_imp_iff, true_imp_iff, not_false_eq_true, not_true_eq_false, true_and, and_true, implies_true, qn_self, rI_i, rJ_l, rV_n, okZ0, okZ1, o31 hn, exP (show P0 t e 31 13 = some 33 from rfl), x33 hn (show 0 < 8 by decide), (h.m he).1, shl6 ln (by omega), nI_ge (show b < 2 ^ ln by omega) (show 2 ^ ln < 2 ^ 31 by omega)]
    simp only [B178_34]
    refine l178 hn (h.m he) hi h0 (show b < 64 by omega) (fun M2 he2 => ?_) ln 0 M' (by omega) eqM.rf
    have hng : ¬ nI c = ng1 := nI_ng1 (by omega)
    have hz2 : (if x = ng1 then nI (c + ((if lpS (nxM row i) (whM row i) ln b = true then 1 else 0) + cntF (lpS (nxM row i) (whM row i) ln) (b + 1) n)) else oN (nthX (lpS (nxM row i) (whM row i) ln) x (n + 1) c b)) = z := hz
    rw [nthX_s] at hz2
    by_cases w : lpS (nxM row i) (whM row i) ln b = true
    · simp only [w, if_true, one0, B178_79, false_imp_iff, true_imp_iff, not_false_eq_true, not_true_eq_false, true_and, and_true, implies_true, qn_self, rI_i, rJ_l, rV_n, okZ0, okZ1, B178_87, B178_92, B178_95, B178_98, nI_add] at hz2 ⊢
      refine ⟨fun q => ?_, fun q => ?_⟩
      · refine ih (b + 1) (c + 1) M2 (by omega) (by omega) (by omega) (he.tr he2) ?_
        rw [if_neg q, ← Nat.add_assoc] at hz2
        exact hz2
      · have h3 : ¬ x = ng1 := q ▸ hng
        rw [if_neg h3, if_pos q] at hz2
        have hq := hQ M2 (he.tr he2)
        rw [← hz2] at hq
        exact hq
    · simp only [w, if_false, Bool.false_eq_true, eq_true nI_0, B178_79, false_imp_iff, true_imp_iff, not_false_eq_true, not_true_eq_false, true_and, and_true, implies_true, qn_self, rI_i, rJ_l, rV_n, okZ0, okZ1, B178_84, B178_98, nI_add] at hz2 ⊢
      refine ih (b + 1) c M2 (by omega) (by omega) (by omega) (he.tr he2) ?_
      rw [Nat.zero_add] at hz2
      exact hz2
theorem s178 (hn : 44 ≤ nx) (h : MT M ln is fc dn row nd) {i : Nat} {x : Int32} (hi : i < is) (hQ : ∀ M', eqM M M' → Q (some (.int (lpA (nxM row i) (whM row i) ln x))) M' N (P0 t e) nx) : aSem (d + 5) 178 [.ref 31, .int (nI i), .int x] M N (P0 t e) nx Q := by
  have c6 := h.2.2.2.2.2.2.1
  unfold wfC at c6
  have hp := nxM_ok h.2.2.2.2.2.2.2.1 c6.1 c6.2.1 hi
  have h1 : 1 ≤ 2 ^ ln := Nat.pow_pos (by decide)
  have h2 := h.z (v := nI 0)
  have b2 : vB (nI i) is = true := vB_t ((vl_nI (by omega)).mpr hi)
  simp only [A178, B178_0, B178_16, false_imp_iff, true_imp_iff, not_false_eq_true, not_true_eq_false, true_and, and_true, implies_true, qn_self, rI_i, rJ_l, rV_n, okZ0, okZ1, o31 hn, s157 hn h2, b2, if_true, one0]
  exact m178 hn h2 hi (fun M' he => hQ M' (eqM_z.tr he)) (2 ^ ln - 1) 1 0 _ (by omega) (by decide) (by decide) eqM.rf (lpR_A hp c6.1)
theorem s178n (hn : 44 ≤ nx) (h : MT M ln is fc dn row nd) {x y : Int32} (hv : ¬ vl x is) (hQ : ∀ M', eqM M M' → Q (some (.int ng2)) M' N (P0 t e) nx) : aSem (d + 5) 178 [.ref 31, .int x, .int y] M N (P0 t e) nx Q := by
  have h2 := h.z (v := nI 0)
  simp only [A178, B178_0, B178_13, false_imp_iff, true_imp_iff, not_false_eq_true, not_true_eq_false, true_and, and_true, implies_true, qn_self, rI_i, rJ_l, rV_n, okZ0, okZ1, o31 hn, s157 hn h2, vB_f hv, if_false, Bool.false_eq_true, eq_true nI_0]
  exact hQ _ eqM_z
end MLP
