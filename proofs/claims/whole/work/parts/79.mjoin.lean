/-! THE REFERENCE: join, cut, mirror, undo, keep -/
/-- what lies there, well formed or not -/
def MV (M : aM) (ln is fc dn : Nat) (row nd : Nat → Nat) : Prop := M 33 0 = nI ln ∧ M 33 1 = nI is ∧ M 33 2 = nI fc ∧ M 33 3 = nI dn ∧ (∀ k, k < 89 → M 36 k = nI (row k)) ∧ ∀ k, k < dn → M 35 k = nI (nd k)
section MJO
variable {d : Nat} {M : aM} {N : aN} {P : aP} {t e nx ln is fc dn u tp : Nat} {row nd : Nat → Nat} {hs ks : Nat → Nat → Nat} {kp : Nat → Bool} {Q : aQ}
theorem MT.v (h : MT M ln is fc dn row nd) : MV M ln is fc dn row nd := ⟨h.1, h.2.1, h.2.2.1, h.2.2.2.1, h.2.2.2.2.1, h.2.2.2.2.2.1⟩
theorem MV.mt (h : MV M ln is fc dn row nd) (h1 : wfC ln is fc dn) (h2 : wfR ln is fc row) (h3 : ∀ k, k < dn → nd k < 64) : MT M ln is fc dn row nd := ⟨h.1, h.2.1, h.2.2.1, h.2.2.2.1, h.2.2.2.2.1, h.2.2.2.2.2, h1, h2, h3⟩
theorem MV.up {K y : Nat} (h : MV M ln is fc dn row nd) (hK : K < 89) : MV (uM M 36 K (nI y)) ln is fc dn (va_up row K y) nd := by
  obtain ⟨h1, h2, h3, h4, h5, h6⟩ := h
  refine ⟨?_, ?_, ?_, ?_, ?_, ?_⟩
  · rw [uM_a (by decide)]; exact h1
  · rw [uM_a (by decide)]; exact h2
  · rw [uM_a (by decide)]; exact h3
  · rw [uM_a (by decide)]; exact h4
  · intro k hk
    by_cases q : k = K
    · subst q; rw [uM_k, up_eq]
    · rw [uM_j q, up_ne q]; exact h5 k hk
  · intro k hk
    rw [uM_a (by decide)]; exact h6 k hk
/-- memory but for the row -/
def eqS (M M' : aM) : Prop := ∀ a, a ≠ 36 → M' a = M a
theorem eqS.up2 {M' : aM} {k : Nat} {v : Int32} (h : eqS M M') : eqS M (uM M' 36 k v) := fun a ha => by rw [uM_ne ha]; exact h a ha
theorem eqS.B {M' : aM} (h : eqS M M') : eqB M M' := ⟨fun a _ x _ _ _ _ => h a x, fun k _ _ _ _ _ => by rw [h 31 (by decide)]⟩
theorem MU.es {M' : aM} (h : MU M u hs kp ks) (he : eqS M M') : MU M' u hs kp ks := by
  unfold MU
  rw [he 31 (by decide), he 39 (by decide), he 40 (by decide), he 41 (by decide)]
  exact h
-- join
theorem mvS_s {a b m : Nat} : mvR row a b (m + 1) = if row (83 + m) = a then va_up (mvR row a b m) (83 + m) b else mvR row a b m := by
  by_cases q : row (83 + m) = a
  · rw [if_pos q]
    funext k
    by_cases w : k = 83 + m
    · subst w
      rw [up_eq]
      unfold mvR
      rw [if_pos ⟨by omega, by omega, q⟩]
    · rw [up_ne w]
      unfold mvR
      by_cases z : 83 ≤ k ∧ k < 83 + m ∧ row k = a
      · rw [if_pos z, if_pos ⟨z.1, by omega, z.2.2⟩]
      · rw [if_neg z, if_neg (fun y => z ⟨y.1, by omega, y.2.2⟩)]
  · rw [if_neg q]
    funext k
    unfold mvR
    by_cases z : 83 ≤ k ∧ k < 83 + m ∧ row k = a
    · rw [if_pos z, if_pos ⟨z.1, by omega, z.2.2⟩]
    · rw [if_neg z]
      by_cases w : k = 83 + m
      · subst w; rw [if_neg (fun y => q y.2.2)]
      · rw [if_neg (fun y => z ⟨y.1, by omega, y.2.2⟩)]
theorem mvS_n {a b m k : Nat} (h : 83 + m ≤ k) : mvR row a b m k = row k := by
  unfold mvR; rw [if_neg (by omega)]
theorem l207 (hn : 44 ≤ nx) {j a : Nat} (h6 : is ≤ 6) (hj : j < is) (hw : ∀ i, i < is → row (83 + i) < is) (ha : a < 6) (hne : ¬ row (83 + j) = a) (hK : ∀ M', eqS M M' → MV M' ln is fc dn (mvR row a (row (83 + j)) is) nd → WP (aSem d) g0 207 nx (qn nx Q) 111 [(0, .ref 31), (2, .int (nI j)), (3, .int (nI a)), (4, .int (nI is))] [] M' N (P0 t e) nx) : ∀ n m M', m + n = is → eqS M M' → MV M' ln is fc dn (mvR row a (row (83 + j)) m) nd → WP (aSem d) g0 207 nx (qn nx Q) 61 [(0, .ref 31), (2, .int (nI j)), (3, .int (nI a)), (4, .int (nI m))] [] M' N (P0 t e) nx := by
  intro n
  induction n with
  | zero =>
    intro m M' hm he hv
    have e1 : m = is := by omega
    subst e1
    simp only [B207_61, false_imp_iff, true_imp_iff, not_false_eq_true, not_true_eq_false, true_and, and_true, implies_true, qn_self, rI_i, rJ_l, rV_n, okZ0, okZ1, o31 hn, exP (show P0 t e 31 13 = some 33 from rfl), x33 hn (show 1 < 8 by decide), hv.2.1, nI_le (show m ≤ m by omega) (show m < 2 ^ 31 by omega)]
    exact hK M' he hv
  | succ n ih =>
    intro m M' hm he hv
    have b1 := hw m (by omega)
    have e1 : M' 36 (83 + m) = nI (row (83 + m)) := by rw [hv.2.2.2.2.1 _ (by omega), mvS_n (Nat.le_refl _)]
    have e2 : mvR row a (row (83 + j)) m (83 + j) = row (83 + j) := by
      unfold mvR; rw [if_neg (fun z => hne z.2.2)]
    simp only [B207_61, false_imp_iff, true_imp_iff, not_false_eq_true, not_true_eq_false, true_and, and_true, implies_true, qn_self, rI_i, rJ_l, rV_n, okZ0, okZ1, o31 hn, exP (show P0 t e 31 13 = some 33 from rfl), x33 hn (show 1 < 8 by decide), hv.2.1, nI_ge (show m < is by omega) (show is < 2 ^ 31 by omega)]
    simp only [B207_72, false_imp_iff, true_imp_iff, not_false_eq_true, not_true_eq_false, true_and, and_true, implies_true, qn_self, rI_i, rJ_l, rV_n, okZ0, okZ1, o31 hn, exP (show P0 t e 31 16 = some 36 from rfl), nI_add, x36 hn (show 83 + m < 89 by omega), e1, nI_eq (show row (83 + m) < 2 ^ 31 by omega) (show a < 2 ^ 31 by omega)]
    refine ⟨fun q => ?_, fun q => ?_⟩
    · simp only [B207_105, nI_add]
      refine ih (m + 1) M' (by omega) he ?_
      rw [mvS_s, if_neg q]; exact hv
    · simp only [B207_86, B207_105, false_imp_iff, true_imp_iff, not_false_eq_true, not_true_eq_false, true_and, and_true, implies_true, qn_self, rI_i, rJ_l, rV_n, okZ0, okZ1, o31 hn, exP (show P0 t e 31 16 = some 36 from rfl), nI_add, x36 hn (show 83 + j < 89 by omega), x36 hn (show 83 + m < 89 by omega), hv.2.2.2.2.1 (83 + j) (show 83 + j < 89 by omega), e2]
      refine ih (m + 1) _ (by omega) he.up2 ?_
      rw [mvS_s, if_pos q]; exact hv.up (by omega)
theorem mvS_0 {a b : Nat} : mvR row a b 0 = row := by
  funext k
  unfold mvR; rw [if_neg (by omega)]
theorem s207 (hn : 44 ≤ nx) (h : MT M ln is fc dn row nd) (hU : MU M u hs kp ks) {i j : Nat} (hi : i < is) (hj : j < is) (hne : ¬ row (83 + i) = row (83 + j)) (hQ : ∀ M', eqB M M' → MT M' ln is fc dn (mvR row (row (83 + i)) (row (83 + j)) is) nd → MU M' (psU u) (psH u hs row) kp ks → Q (some (.int (nI (cntF (fun k => mvR row (row (83 + i)) (row (83 + j)) is (83 + k) == row (83 + j)) 0 is)))) M' N (P0 t e) nx) : aSem (d + 3) 207 [.ref 31, .int (nI i), .int (nI j)] M N (P0 t e) nx Q := by
  have c6 := h.2.2.2.2.2.2.1
  unfold wfC at c6
  have hw := h.2.2.2.2.2.2.2.1.2.2.2.2
  have g1 := hw i hi
  have g2 := hw j hj
  have h2 := h.z (v := nI 0)
  have b1 : vB (nI i) is = true := vB_t ((vl_nI (by omega)).mpr hi)
  have b2 : vB (nI j) is = true := vB_t ((vl_nI (by omega)).mpr hj)
  simp only [A207, B207_0, B207_13, B207_21, B207_44, false_imp_iff, true_imp_iff, not_false_eq_true, not_true_eq_false, true_and, and_true, implies_true, qn_self, rI_i, rJ_l, rV_n, okZ0, okZ1, o31 hn, s157 hn h2, b1, b2, if_true, one0, exP (show P0 t e 31 16 = some 36 from rfl), nI_add, x36 hn (show 83 + i < 89 by omega), x36 hn (show 83 + j < 89 by omega), h2.2.2.2.2.1 (83 + i) (show 83 + i < 89 by omega), h2.2.2.2.2.1 (83 + j) (show 83 + j < 89 by omega), nI_eq (show row (83 + i) < 2 ^ 31 by omega) (show row (83 + j) < 2 ^ 31 by omega), hne]
  refine s200 hn h2.2.2.2.2.1 hU.z (fun M1 he1 hU1 => ?_)
  have h1 := h2.k he1
  simp only [false_imp_iff, true_imp_iff, not_false_eq_true, not_true_eq_false, true_and, and_true, implies_true, qn_self, rI_i, rJ_l, rV_n, okZ0, okZ1, o31 hn, exP (show P0 t e 31 16 = some 36 from rfl), x36 hn (show 83 + i < 89 by omega), h1.2.2.2.2.1 (83 + i) (show 83 + i < 89 by omega)]
  refine l207 hn (M := M1) c6.2.1 hj hw (by omega) (fun q => hne q.symm) (fun M2 he2 hv2 => ?_) is 0 M1 (by omega) (fun _ _ => rfl) (by rw [mvS_0]; exact h1.v)
  have e2 : mvR row (row (83 + i)) (row (83 + j)) is (83 + j) = row (83 + j) := by
    unfold mvR; rw [if_neg (fun z => hne z.2.2.symm)]
  have h3 := hv2.mt h.2.2.2.2.2.2.1 (mvR_wf h.2.2.2.2.2.2.2.1 g2 c6.2.2.1) h.2.2.2.2.2.2.2.2
  simp only [B207_111, false_imp_iff, true_imp_iff, not_false_eq_true, not_true_eq_false, true_and, and_true, implies_true, qn_self, rI_i, rJ_l, rV_n, okZ0, okZ1, o31 hn, exP (show P0 t e 31 16 = some 36 from rfl), nI_add, x36 hn (show 83 + j < 89 by omega), h3.2.2.2.2.1 (83 + j) (show 83 + j < 89 by omega), e2, s206 hn h3 (show row (83 + j) < 6 by omega)]
  exact hQ M2 ((eqB_z.tr he1.B).tr he2.B) h3 (hU1.es he2)
theorem s207n (hn : 44 ≤ nx) (h : MT M ln is fc dn row nd) {x y : Int32} (hv : ¬ (vl x is ∧ vl y is)) (hQ : ∀ M', eqM M M' → Q (some (.int ng1)) M' N (P0 t e) nx) : aSem (d + 3) 207 [.ref 31, .int x, .int y] M N (P0 t e) nx Q := by
  have h2 := h.z (v := nI 0)
  have hq := hQ _ (eqM_z (v := nI 0))
  by_cases hx : vl x is
  · simp only [A207, B207_0, B207_13, B207_42, false_imp_iff, true_imp_iff, not_false_eq_true, not_true_eq_false, true_and, and_true, implies_true, qn_self, rI_i, rJ_l, rV_n, okZ0, okZ1, o31 hn, s157 hn h2, vB_t hx, vB_f (fun q => hv ⟨hx, q⟩), if_true, if_false, Bool.false_eq_true, one0, eq_true nI_0]
    exact hq
  · simp only [A207, B207_0, B207_42, false_imp_iff, true_imp_iff, not_false_eq_true, not_true_eq_false, true_and, and_true, implies_true, qn_self, rI_i, rJ_l, rV_n, okZ0, okZ1, o31 hn, s157 hn h2, vB_f hx, if_false, Bool.false_eq_true, eq_true nI_0]
    exact hq
theorem s207z (hn : 44 ≤ nx) (h : MT M ln is fc dn row nd) {i j : Nat} (hi : i < is) (hj : j < is) (heq : row (83 + i) = row (83 + j)) (hQ : ∀ M', eqM M M' → Q (some (.int ng1)) M' N (P0 t e) nx) : aSem (d + 3) 207 [.ref 31, .int (nI i), .int (nI j)] M N (P0 t e) nx Q := by
  have c6 := h.2.2.2.2.2.2.1
  unfold wfC at c6
  have h2 := h.z (v := nI 0)
  have b1 : vB (nI i) is = true := vB_t ((vl_nI (by omega)).mpr hi)
  have b2 : vB (nI j) is = true := vB_t ((vl_nI (by omega)).mpr hj)
  simp only [A207, B207_0, B207_13, B207_21, B207_42, false_imp_iff, true_imp_iff, not_false_eq_true, not_true_eq_false, true_and, and_true, implies_true, qn_self, rI_i, rJ_l, rV_n, okZ0, okZ1, o31 hn, s157 hn h2, b1, b2, if_true, one0, exP (show P0 t e 31 16 = some 36 from rfl), nI_add, x36 hn (show 83 + i < 89 by omega), x36 hn (show 83 + j < 89 by omega), h2.2.2.2.2.1 (83 + i) (show 83 + i < 89 by omega), h2.2.2.2.2.1 (83 + j) (show 83 + j < 89 by omega), heq]
  exact hQ _ eqM_z
theorem mvR_H {a b : Nat} (hH : wfH is row) (hw : ∀ i, i < is → row (83 + i) < is) (hb : row (83 + b) = b) (hb2 : b < is) (hne : ¬ b = a) : wfH is (mvR row a b is) := by
  have e : ∀ k, k < is → mvR row a b is (83 + k) = if row (83 + k) = a then b else row (83 + k) := by
    intro k hk
    unfold mvR
    by_cases q : row (83 + k) = a
    · rw [if_pos ⟨by omega, by omega, q⟩, if_pos q]
    · rw [if_neg (fun z => q z.2.2), if_neg q]
  intro k hk
  rw [e k hk]
  by_cases q : row (83 + k) = a
  · rw [if_pos q, e b hb2, hb, if_neg hne]
  · rw [if_neg q, e _ (hw k hk), hH k hk, if_neg q]
-- cut
theorem fstF_p {p : Nat → Bool} {b : Nat} : ∀ n i m, i ≤ m → m < i + n → p m = true → (∀ k, i ≤ k → k < m → p k = false) → fstF p b i n = m
  | 0, i, m, h1, h2, _, _ => by omega
  | n + 1, i, m, h1, h2, hp, hno => by
    unfold fstF
    by_cases q : i = m
    · subst q; rw [if_pos hp]
    · rw [if_neg (by rw [hno i (Nat.le_refl _) (by omega)]; decide)]
      exact fstF_p n (i + 1) m (by omega) (by omega) hp (fun k a b => hno k (by omega) b)
theorem fstF_t {p : Nat → Bool} {b : Nat} : ∀ n i m, i ≤ m → m < i + n → p m = true → p (fstF p b i n) = true
  | 0, i, m, h1, h2, _ => by omega
  | n + 1, i, m, h1, h2, hp => by
    unfold fstF
    by_cases q : p i = true
    · rw [if_pos q]; exact q
    · rw [if_neg q]
      have : i ≠ m := fun z => q (z ▸ hp)
      exact fstF_t n (i + 1) m (by omega) (by omega) hp
theorem cntF_1 {p : Nat → Bool} : ∀ n i m, i ≤ m → m < i + n → p m = true → 1 ≤ cntF p i n
  | 0, i, m, h1, h2, _ => by omega
  | n + 1, i, m, h1, h2, hp => by
    show 1 ≤ (if p i = true then 1 else 0) + cntF p (i + 1) n
    by_cases q : p i = true
    · rw [if_pos q]; omega
    · rw [if_neg q]
      have : i ≠ m := fun z => q (z ▸ hp)
      have := cntF_1 n (i + 1) m (by omega) (by omega) hp
      omega
/-- heads handed on, up to m -/
def cuG (row : Nat → Nat) (i F m : Nat) : Nat → Nat := fun k => if 83 ≤ k ∧ k < 83 + m ∧ ¬ k = 83 + i ∧ row k = i then F else row k
theorem cuG_s {i F m : Nat} : cuG row i F (m + 1) = if ¬ m = i ∧ row (83 + m) = i then va_up (cuG row i F m) (83 + m) F else cuG row i F m := by
  by_cases q : ¬ m = i ∧ row (83 + m) = i
  · rw [if_pos q]
    funext k
    by_cases w : k = 83 + m
    · subst w
      rw [up_eq]
      unfold cuG
      rw [if_pos ⟨by omega, by omega, by omega, q.2⟩]
    · rw [up_ne w]
      unfold cuG
      by_cases z : 83 ≤ k ∧ k < 83 + m ∧ ¬ k = 83 + i ∧ row k = i
      · rw [if_pos z, if_pos ⟨z.1, by omega, z.2.2⟩]
      · rw [if_neg z, if_neg (fun y => z ⟨y.1, by omega, y.2.2⟩)]
  · rw [if_neg q]
    funext k
    unfold cuG
    by_cases z : 83 ≤ k ∧ k < 83 + m ∧ ¬ k = 83 + i ∧ row k = i
    · rw [if_pos z, if_pos ⟨z.1, by omega, z.2.2⟩]
    · rw [if_neg z]
      by_cases w : k = 83 + m
      · subst w; rw [if_neg (fun y => q ⟨by omega, y.2.2.2⟩)]
      · rw [if_neg (fun y => z ⟨y.1, by omega, y.2.2⟩)]
theorem cuG_n {i F m k : Nat} (h : 83 + m ≤ k) : cuG row i F m k = row k := by
  unfold cuG; rw [if_neg (by omega)]
theorem cuG_e {i : Nat} (hH : wfH is row) : va_up (cuG row i (fstF (fun k => !(k == i) && row (83 + k) == i) i 0 is) is) (83 + i) i = cutR row i is := by
  funext k
  unfold cutR
  by_cases w : k = 83 + i
  · subst w; rw [up_eq, up_eq]
  · rw [up_ne w, up_ne w]
    by_cases q : row (83 + i) = i
    · rw [if_pos q]
      unfold cuG mvR
      by_cases z : 83 ≤ k ∧ k < 83 + is ∧ row k = i
      · rw [if_pos ⟨z.1, z.2.1, w, z.2.2⟩, if_pos z]
      · rw [if_neg (fun y => z ⟨y.1, y.2.1, y.2.2.2⟩), if_neg z]
    · rw [if_neg q]
      unfold cuG
      rw [if_neg (fun y => ?_)]
      have := hH (k - 83) (by omega)
      rw [show 83 + (k - 83) = k by omega, y.2.2.2] at this
      exact q this
theorem cutR_k {i k : Nat} (hk : k < is) : cutR row i is (83 + k) = if k = i then i else if row (83 + i) = i ∧ row (83 + k) = i then fstF (fun k => !(k == i) && row (83 + k) == i) i 0 is else row (83 + k) := by
  unfold cutR
  by_cases w : k = i
  · subst w; rw [up_eq, if_pos rfl]
  · rw [up_ne (by omega), if_neg w]
    by_cases q : row (83 + i) = i
    · rw [if_pos q]
      unfold mvR
      by_cases z : row (83 + k) = i
      · rw [if_pos ⟨by omega, by omega, z⟩, if_pos ⟨q, z⟩]
      · rw [if_neg (fun y => z y.2.2), if_neg (fun y => z y.2)]
    · rw [if_neg q, if_neg (fun y => q y.1)]
theorem cutR_lo {i k : Nat} (hk : k < 83) : cutR row i is k = row k := by
  unfold cutR
  rw [up_ne (by omega)]
  split
  · unfold mvR; rw [if_neg (by omega)]
  · rfl
theorem cutR_wf {i : Nat} (hw : wfR ln is fc row) (hi : i < is) (h5 : fc ≤ 5) : wfR ln is fc (cutR row i is) := by
  obtain ⟨h1, h2, h3, h4, h6⟩ := hw
  refine ⟨fun k hk => ?_, fun f hf => ?_, fun k a b => ?_, fun k a b => ?_, fun k hk => ?_⟩
  · rw [cutR_lo (by omega)]; exact h1 k hk
  · rw [cutR_lo (by omega)]; exact h2 f hf
  · rw [cutR_lo (by omega)]; exact h3 k a b
  · rw [cutR_lo (by omega)]; exact h4 k a b
  · rw [cutR_k hk]
    split
    · exact hi
    · split
      · exact fstF_lt hi is 0 (by omega)
      · exact h6 k hk
theorem cutR_H {i : Nat} (hH : wfH is row) (hw : ∀ i, i < is → row (83 + i) < is) (hi : i < is) : wfH is (cutR row i is) := by
  intro k hk
  rw [cutR_k hk]
  by_cases w : k = i
  · rw [if_pos w, cutR_k hi, if_pos rfl]
  · rw [if_neg w]
    by_cases q : row (83 + i) = i ∧ row (83 + k) = i
    · rw [if_pos q]
      have hp := fstF_t (p := fun k => !(k == i) && row (83 + k) == i) (b := i) is 0 k (by omega) (by omega) (by simp [w, q.2])
      have hl : fstF (fun k => !(k == i) && row (83 + k) == i) i 0 is < is := fstF_lt hi is 0 (by omega)
      obtain ⟨F, hF⟩ : ∃ F, F = fstF (fun k => !(k == i) && row (83 + k) == i) i 0 is := ⟨_, rfl⟩
      rw [← hF] at hp hl ⊢
      have hp2 : ¬ F = i ∧ row (83 + F) = i := by simpa using hp
      rw [cutR_k hl, if_neg hp2.1, if_pos ⟨q.1, hp2.2⟩, ← hF]
    · rw [if_neg q]
      have e1 := hH k hk
      have hc : ¬ row (83 + k) = i := fun z => q ⟨by rw [z] at e1; exact e1, z⟩
      rw [cutR_k (hw k hk), if_neg hc, e1, if_neg (fun z => hc z.2)]
end MJO
