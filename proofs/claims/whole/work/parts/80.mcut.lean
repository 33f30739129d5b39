/-! THE REFERENCE: cut, mirror, undo, keep -/
section MCU
variable {d : Nat} {M : aM} {N : aN} {P : aP} {t e nx ln is fc dn u tp : Nat} {row nd : Nat → Nat} {hs ks : Nat → Nat → Nat} {kp : Nat → Bool} {Q : aQ}
theorem l208 (hn : 44 ≤ nx) {i F : Nat} {x : Int32} (h6 : is ≤ 6) (hi : i < is) (hw : ∀ i, i < is → row (83 + i) < is) (hF : fstF (fun k => !(k == i) && row (83 + k) == i) i 0 is = F) (hK : ∀ M', eqS M M' → MV M' ln is fc dn (va_up (cuG row i F is) (83 + i) i) nd → Q (some (.int x)) M' N (P0 t e) nx) : ∀ n m v M', m + n = is → eqS M M' → MV M' ln is fc dn (cuG row i F m) nd → (v = ng1 ∧ (∀ k, k < m → ¬ (¬ k = i ∧ row (83 + k) = i)) ∨ v = nI F) → WP (aSem d) g0 208 nx (qn nx Q) 55 [(0, .ref 31), (1, .int (nI i)), (2, .int x), (3, .int v), (4, .int (nI m))] [] M' N (P0 t e) nx := by
  have hF6 : F < is := by rw [← hF]; exact fstF_lt hi is 0 (by omega)
  intro n
  induction n with
  | zero =>
    intro m v M' hm he hv hf
    have e1 : m = is := by omega
    subst e1
    simp only [B208_55, B208_117, false_imp_iff, true_imp_iff, not_false_eq_true, not_true_eq_false, true_and, and_true, implies_true, qn_self, rI_i, rJ_l, rV_n, okZ0, okZ1, o31 hn, exP (show P0 t e 31 13 = some 33 from rfl), exP (show P0 t e 31 16 = some 36 from rfl), x33 hn (show 1 < 8 by decide), hv.2.1, nI_le (show m ≤ m by omega) (show m < 2 ^ 31 by omega), nI_add, x36 hn (show 83 + i < 89 by omega)]
    exact hK _ he.up2 (hv.up (by omega))
  | succ n ih =>
    intro m v M' hm he hv hf
    have b1 := hw m (by omega)
    have e1 : M' 36 (83 + m) = nI (row (83 + m)) := by rw [hv.2.2.2.2.1 _ (by omega), cuG_n (Nat.le_refl _)]
    simp only [B208_55, false_imp_iff, true_imp_iff, not_false_eq_true, not_true_eq_false, true_and, and_true, implies_true, qn_self, rI_i, rJ_l, rV_n, okZ0, okZ1, o31 hn, exP (show P0 t e 31 13 = some 33 from rfl), x33 hn (show 1 < 8 by decide), hv.2.1, nI_ge (show m < is by omega) (show is < 2 ^ 31 by omega)]
    simp only [B208_66, false_imp_iff, true_imp_iff, not_false_eq_true, not_true_eq_false, true_and, and_true, implies_true, qn_self, rI_i, rJ_l, rV_n, okZ0, okZ1, nI_eq (show m < 2 ^ 31 by omega) (show i < 2 ^ 31 by omega)]
    have no : ¬ (¬ m = i ∧ row (83 + m) = i) → WP (aSem d) g0 208 nx (qn nx Q) 55 [(0, .ref 31), (1, .int (nI i)), (2, .int x), (3, .int v), (4, .int (nI (m + 1)))] [] M' N (P0 t e) nx := by
      intro q
      refine ih (m + 1) v M' (by omega) he (by rw [cuG_s, if_neg q]; exact hv) (hf.elim (fun z => Or.inl ⟨z.1, fun k hk => ?_⟩) Or.inr)
      by_cases w : k = m
      · subst w; exact q
      · exact z.2 k (by omega)
    refine ⟨fun q => ?_, fun q => ?_⟩
    · simp only [B208_111, nI_add]
      exact no (fun z => z.1 q)
    · simp only [B208_72, false_imp_iff, true_imp_iff, not_false_eq_true, not_true_eq_false, true_and, and_true, implies_true, qn_self, rI_i, rJ_l, rV_n, okZ0, okZ1, o31 hn, exP (show P0 t e 31 16 = some 36 from rfl), nI_add, x36 hn (show 83 + m < 89 by omega), e1, nI_eq (show row (83 + m) < 2 ^ 31 by omega) (show i < 2 ^ 31 by omega)]
      refine ⟨fun z => ?_, fun z => ?_⟩
      · have fin : WP (aSem d) g0 208 nx (qn nx Q) 99 [(0, .ref 31), (1, .int (nI i)), (2, .int x), (4, .int (nI m))] [.int (nI F)] M' N (P0 t e) nx := by
          simp only [B208_99, B208_111, false_imp_iff, true_imp_iff, not_false_eq_true, not_true_eq_false, true_and, and_true, implies_true, qn_self, rI_i, rJ_l, rV_n, okZ0, okZ1, o31 hn, exP (show P0 t e 31 16 = some 36 from rfl), nI_add, x36 hn (show 83 + m < 89 by omega)]
          exact ih (m + 1) _ _ (by omega) he.up2 (by rw [cuG_s, if_pos ⟨q, z⟩]; exact hv.up (by omega)) (Or.inr rfl)
        rcases hf with hf | hf
        · have e2 : F = m := by
            rw [← hF]
            refine fstF_p is 0 m (by omega) (by omega) (by simp [q, z]) (fun k _ hk => ?_)
            have := hf.2 k hk
            rw [Bool.eq_false_iff]
            intro y
            exact this (by simpa using y)
          rw [e2] at fin
          simp only [hf.1, B208_89, false_imp_iff, true_imp_iff, not_false_eq_true, not_true_eq_false, true_and, and_true, implies_true, qn_self, rI_i, rJ_l, rV_n, okZ0, okZ1, ng1_ge0, B208_93]
          exact fin
        · simp only [hf, B208_89, false_imp_iff, true_imp_iff, not_false_eq_true, not_true_eq_false, true_and, and_true, implies_true, qn_self, rI_i, rJ_l, rV_n, okZ0, okZ1, nI_ge0 (show F < 2 ^ 31 by omega), B208_98]
          exact fin
      · simp only [B208_86, B208_111, nI_add]
        exact no (fun y => z y.2)
theorem s208 (hn : 44 ≤ nx) (h : MT M ln is fc dn row nd) (hU : MU M u hs kp ks) (hH : wfH is row) {i : Nat} (hi : i < is) (h2 : 2 ≤ cntF (fun k => row (83 + k) == row (83 + i)) 0 is) (hQ : ∀ M', eqB M M' → MT M' ln is fc dn (cutR row i is) nd → MU M' (psU u) (psH u hs row) kp ks → Q (some (.int (nI (cntF (fun k => row (83 + k) == row (83 + i)) 0 is)))) M' N (P0 t e) nx) : aSem (d + 3) 208 [.ref 31, .int (nI i)] M N (P0 t e) nx Q := by
  have c6 := h.2.2.2.2.2.2.1
  unfold wfC at c6
  have hw := h.2.2.2.2.2.2.2.1.2.2.2.2
  have g1 := hw i hi
  have hz := h.z (v := nI 0)
  have b1 : vB (nI i) is = true := vB_t ((vl_nI (by omega)).mpr hi)
  have bc := cntF_le (fun k => row (83 + k) == row (83 + i)) is 0
  simp only [A208, B208_0, B208_13, B208_32, false_imp_iff, true_imp_iff, not_false_eq_true, not_true_eq_false, true_and, and_true, implies_true, qn_self, rI_i, rJ_l, rV_n, okZ0, okZ1, o31 hn, s157 hn hz, b1, if_true, one0, exP (show P0 t e 31 16 = some 36 from rfl), nI_add, x36 hn (show 83 + i < 89 by omega), hz.2.2.2.2.1 (83 + i) (show 83 + i < 89 by omega), s206 hn hz (show row (83 + i) < 6 by omega), nI_eq (show cntF (fun k => row (83 + k) == row (83 + i)) 0 is < 2 ^ 31 by omega) (show 1 < 2 ^ 31 by decide), show ¬ cntF (fun k => row (83 + k) == row (83 + i)) 0 is = 1 by omega]
  refine s200 hn hz.2.2.2.2.1 hU.z (fun M1 he1 hU1 => ?_)
  have h1 := hz.k he1
  simp only [false_imp_iff, true_imp_iff, not_false_eq_true, not_true_eq_false, true_and, and_true, implies_true, qn_self, rI_i, rJ_l, rV_n, okZ0, okZ1, o31 hn, exP (show P0 t e 31 16 = some 36 from rfl), x36 hn (show 83 + i < 89 by omega), h1.2.2.2.2.1 (83 + i) (show 83 + i < 89 by omega), s206 hn h1 (show row (83 + i) < 6 by omega)]
  refine l208 hn (M := M1) (row := row) (ln := ln) (fc := fc) (dn := dn) (nd := nd) c6.2.1 hi hw rfl (fun M2 he2 hv2 => ?_) is 0 _ M1 (by omega) (fun _ _ => rfl) ?_ (Or.inl ⟨rfl, fun k hk => by omega⟩)
  · rw [cuG_e hH] at hv2
    exact hQ M2 ((eqB_z.tr he1.B).tr he2.B) (hv2.mt h.2.2.2.2.2.2.1 (cutR_wf h.2.2.2.2.2.2.2.1 hi c6.2.2.1) h.2.2.2.2.2.2.2.2) (hU1.es he2)
  · have e0 : ∀ F, cuG row i F 0 = row := by
      intro F
      funext k
      unfold cuG; rw [if_neg (by omega)]
    rw [e0]; exact h1.v
theorem s208n (hn : 44 ≤ nx) (h : MT M ln is fc dn row nd) {x : Int32} (hv : ¬ vl x is) (hQ : ∀ M', eqM M M' → Q (some (.int ng1)) M' N (P0 t e) nx) : aSem (d + 3) 208 [.ref 31, .int x] M N (P0 t e) nx Q := by
  have h2 := h.z (v := nI 0)
  simp only [A208, B208_0, B208_30, false_imp_iff, true_imp_iff, not_false_eq_true, not_true_eq_false, true_and, and_true, implies_true, qn_self, rI_i, rJ_l, rV_n, okZ0, okZ1, o31 hn, s157 hn h2, vB_f hv, if_false, Bool.false_eq_true, eq_true nI_0]
  exact hQ _ eqM_z
theorem s208z (hn : 44 ≤ nx) (h : MT M ln is fc dn row nd) {i : Nat} (hi : i < is) (h2 : cntF (fun k => row (83 + k) == row (83 + i)) 0 is < 2) (hQ : ∀ M', eqM M M' → Q (some (.int ng1)) M' N (P0 t e) nx) : aSem (d + 3) 208 [.ref 31, .int (nI i)] M N (P0 t e) nx Q := by
  have c6 := h.2.2.2.2.2.2.1
  unfold wfC at c6
  have g1 := h.2.2.2.2.2.2.2.1.2.2.2.2 i hi
  have hz := h.z (v := nI 0)
  have b1 : vB (nI i) is = true := vB_t ((vl_nI (by omega)).mpr hi)
  have bc := cntF_1 (p := fun k => row (83 + k) == row (83 + i)) is 0 i (by omega) (by omega) (by simp)
  simp only [A208, B208_0, B208_13, B208_30, false_imp_iff, true_imp_iff, not_false_eq_true, not_true_eq_false, true_and, and_true, implies_true, qn_self, rI_i, rJ_l, rV_n, okZ0, okZ1, o31 hn, s157 hn hz, b1, if_true, one0, exP (show P0 t e 31 16 = some 36 from rfl), nI_add, x36 hn (show 83 + i < 89 by omega), hz.2.2.2.2.1 (83 + i) (show 83 + i < 89 by omega), s206 hn hz (show row (83 + i) < 6 by omega), nI_eq (show cntF (fun k => row (83 + k) == row (83 + i)) 0 is < 2 ^ 31 by omega) (show 1 < 2 ^ 31 by decide), show cntF (fun k => row (83 + k) == row (83 + i)) 0 is = 1 by omega]
  exact hQ _ eqM_z
-- mirror
theorem s209 (hn : 44 ≤ nx) (h : MV M ln is fc dn row nd) {a b : Nat} (ha : a < 89) (hb : b < 89) (hQ : ∀ M', eqS M M' → MV M' ln is fc dn (swR row a b) nd → Q none M' N (P0 t e) nx) : aSem (d + 1) 209 [.ref 31, .int (nI a), .int (nI b)] M N (P0 t e) nx Q := by
  simp only [A209, B209_0, false_imp_iff, true_imp_iff, not_false_eq_true, not_true_eq_false, true_and, and_true, implies_true, qn_self, rI_i, rJ_l, rV_n, okZ0, okZ1, o31 hn, exP (show P0 t e 31 16 = some 36 from rfl), x36 hn ha, x36 hn hb, h.2.2.2.2.1 a ha, h.2.2.2.2.1 b hb]
  refine hQ _ (fun c hc => by rw [uM_ne hc, uM_ne hc]) ?_
  have h2 := (h.up (K := a) (y := row b) ha).up (K := b) (y := row a) hb
  rw [swR_up] at h2
  exact h2
theorem eqS.tr {M1 M2 : aM} (h : eqS M M1) (h' : eqS M1 M2) : eqS M M2 := fun a ha => (h' a ha).trans (h a ha)
theorem l210 (hn : 44 ≤ nx) {l p : Nat} (hl : l < 6) (hp : p < 6) (hlp : l ≠ p) (hK : ∀ M', eqS M M' → MV M' ln is fc dn (mirG row l p 6 fc) nd → Q (some (.int (nI 1))) M' N (P0 t e) nx) : ∀ n i M', i + n = 6 → eqS M M' → MV M' ln is fc dn (mirG row l p i fc) nd → WP (aSem (d + 1)) g0 210 nx (qn nx Q) 110 [(0, .ref 31), (1, .int (nI l)), (2, .int (nI p)), (3, .int (nI i))] [] M' N (P0 t e) nx := by
  intro n
  induction n with
  | zero =>
    intro i M' hi he hv
    have e1 : i = 6 := by omega
    subst e1
    simp only [B210_110, B210_166, false_imp_iff, true_imp_iff, not_false_eq_true, not_true_eq_false, true_and, and_true, implies_true, qn_self, rI_i, rJ_l, rV_n, okZ0, okZ1, nI_le (show 6 ≤ 6 by decide) (show 6 < 2 ^ 31 by decide), okZ1]
    exact hK M' he hv
  | succ n ih =>
    intro i M' hi he hv
    simp only [B210_110, false_imp_iff, true_imp_iff, not_false_eq_true, not_true_eq_false, true_and, and_true, implies_true, qn_self, rI_i, rJ_l, rV_n, okZ0, okZ1, nI_ge (show i < 6 by omega) (show 6 < 2 ^ 31 by decide)]
    simp only [B210_116, false_imp_iff, true_imp_iff, not_false_eq_true, not_true_eq_false, true_and, and_true, implies_true, qn_self, rI_i, rJ_l, rV_n, okZ0, okZ1, o31 hn, a6]
    refine s209 hn hv (show 11 + (6 * l + i) < 89 by omega) (show 11 + (6 * p + i) < 89 by omega) (fun M1 he1 hv1 => ?_)
    simp only [false_imp_iff, true_imp_iff, not_false_eq_true, not_true_eq_false, true_and, and_true, implies_true, qn_self, rI_i, rJ_l, rV_n, okZ0, okZ1, o31 hn]
    refine s209 hn hv1 (show 47 + (6 * l + i) < 89 by omega) (show 47 + (6 * p + i) < 89 by omega) (fun M2 he2 hv2 => ?_)
    rw [mirG_i hl hp (show i < 6 by omega) hlp] at hv2
    simp only [false_imp_iff, true_imp_iff, not_false_eq_true, not_true_eq_false, true_and, and_true, implies_true, qn_self, rI_i, rJ_l, rV_n, okZ0, okZ1, nI_add]
    exact ih (i + 1) M2 (by omega) (he.tr (he1.tr he2)) hv2
theorem m210 (hn : 44 ≤ nx) {l p : Nat} (hl : l < 6) (hp : p < 6) (h5 : fc ≤ 5) (h6 : ln ≤ 6) (hw : ∀ f, f < fc → row (6 + f) < ln) (hK : ∀ M', eqS M M' → MV M' ln is fc dn (mirG row l p 0 fc) nd → WP (aSem (d + 1)) g0 210 nx (qn nx Q) 108 [(0, .ref 31), (1, .int (nI l)), (2, .int (nI p)), (3, .int (nI fc))] [] M' N (P0 t e) nx) : ∀ n f M', f + n = fc → eqS M M' → MV M' ln is fc dn (mirG row l p 0 f) nd → WP (aSem (d + 1)) g0 210 nx (qn nx Q) 40 [(0, .ref 31), (1, .int (nI l)), (2, .int (nI p)), (3, .int (nI f))] [] M' N (P0 t e) nx := by
  intro n
  induction n with
  | zero =>
    intro f M' hf he hv
    have e1 : f = fc := by omega
    subst e1
    simp only [B210_40, false_imp_iff, true_imp_iff, not_false_eq_true, not_true_eq_false, true_and, and_true, implies_true, qn_self, rI_i, rJ_l, rV_n, okZ0, okZ1, o31 hn, exP (show P0 t e 31 13 = some 33 from rfl), x33 hn (show 2 < 8 by decide), hv.2.2.1, nI_le (show f ≤ f by omega) (show f < 2 ^ 31 by omega)]
    exact hK M' he hv
  | succ n ih =>
    intro f M' hf he hv
    have b1 := hw f (by omega)
    have e1 : M' 36 (6 + f) = nI (row (6 + f)) := by rw [hv.2.2.2.2.1 _ (by omega), mirG_fa (by omega)]
    simp only [B210_40, false_imp_iff, true_imp_iff, not_false_eq_true, not_true_eq_false, true_and, and_true, implies_true, qn_self, rI_i, rJ_l, rV_n, okZ0, okZ1, o31 hn, exP (show P0 t e 31 13 = some 33 from rfl), x33 hn (show 2 < 8 by decide), hv.2.2.1, nI_ge (show f < fc by omega) (show fc < 2 ^ 31 by omega)]
    have hs := mirG_f (row := row) (l := l) (p := p) (i := 0) (f := f) (by omega)
    have fin : ∀ y, y = (if row (6 + f) = l then p else if row (6 + f) = p then l else row (6 + f)) → WP (aSem (d + 1)) g0 210 nx (qn nx Q) 101 [(0, .ref 31), (1, .int (nI l)), (2, .int (nI p)), (3, .int (nI f))] [.int (nI y), .int (nI (6 + f)), .ref 36] M' N (P0 t e) nx := by
      intro y hy
      simp only [B210_101, false_imp_iff, true_imp_iff, not_false_eq_true, not_true_eq_false, true_and, and_true, implies_true, qn_self, rI_i, rJ_l, rV_n, okZ0, okZ1, x36 hn (show 6 + f < 89 by omega), nI_add]
      refine ih (f + 1) _ (by omega) he.up2 ?_
      rw [← hs, ← hy]
      exact hv.up (by omega)
    simp only [B210_50, false_imp_iff, true_imp_iff, not_false_eq_true, not_true_eq_false, true_and, and_true, implies_true, qn_self, rI_i, rJ_l, rV_n, okZ0, okZ1, o31 hn, exP (show P0 t e 31 16 = some 36 from rfl), nI_add, x36 hn (show 6 + f < 89 by omega), e1, nI_eq (show row (6 + f) < 2 ^ 31 by omega) (show l < 2 ^ 31 by omega)]
    refine ⟨fun q => ?_, fun q => ?_⟩
    · simp only [B210_75, false_imp_iff, true_imp_iff, not_false_eq_true, not_true_eq_false, true_and, and_true, implies_true, qn_self, rI_i, rJ_l, rV_n, okZ0, okZ1, o31 hn, exP (show P0 t e 31 16 = some 36 from rfl), nI_add, x36 hn (show 6 + f < 89 by omega), e1, nI_eq (show row (6 + f) < 2 ^ 31 by omega) (show p < 2 ^ 31 by omega)]
      refine ⟨fun z => ?_, fun z => ?_⟩
      · simp only [B210_92, false_imp_iff, true_imp_iff, not_false_eq_true, not_true_eq_false, true_and, and_true, implies_true, qn_self, rI_i, rJ_l, rV_n, okZ0, okZ1, o31 hn, exP (show P0 t e 31 16 = some 36 from rfl), nI_add, x36 hn (show 6 + f < 89 by omega), e1]
        exact fin _ (by rw [if_neg q, if_neg z])
      · simp only [B210_88]
        exact fin l (by rw [if_neg q, if_pos z])
    · simp only [B210_71]
      exact fin p (by rw [if_pos q])
theorem mirG_wf {l p : Nat} (hw : wfR ln is fc row) (hl : l < ln) (hp : p < ln) (h6 : ln ≤ 6) (h5 : fc ≤ 5) : wfR ln is fc (mirG row l p 6 fc) := by
  obtain ⟨h1, h2, h3, h4, hh⟩ := hw
  refine ⟨fun k hk => ?_, fun f hf => ?_, fun k a b => ?_, fun k a b => ?_, fun k hk => ?_⟩
  · unfold mirG
    rw [if_pos hk]
    split
    · exact h1 p (by omega)
    · split
      · exact h1 l (by omega)
      · exact h1 k hk
  · unfold mirG
    rw [if_neg (by omega), if_pos (by omega), if_pos (by omega)]
    split
    · exact hp
    · split
      · exact hl
      · exact h2 f hf
  · unfold mirG
    rw [if_neg (by omega), if_neg (by omega), if_pos b]
    split
    · split
      · exact h3 _ (by omega) (by omega)
      · split
        · exact h3 _ (by omega) (by omega)
        · exact h3 k a b
    · exact h3 k a b
  · unfold mirG
    rw [if_neg (by omega), if_neg (by omega), if_neg (by omega), if_pos b]
    split
    · split
      · exact h4 _ (by omega) (by omega)
      · split
        · exact h4 _ (by omega) (by omega)
        · exact h4 k a b
    · exact h4 k a b
  · unfold mirG
    rw [if_neg (by omega), if_neg (by omega), if_neg (by omega), if_neg (by omega)]
    exact hh k hk
theorem mirG_H {l p : Nat} (hH : wfH is row) : wfH is (mirG row l p 6 fc) := by
  have e : ∀ k, 83 ≤ k → mirG row l p 6 fc k = row k := by
    intro k hk
    unfold mirG
    rw [if_neg (by omega), if_neg (by omega), if_neg (by omega), if_neg (by omega)]
  intro i hi
  rw [e (83 + i) (by omega), e _ (by omega)]
  exact hH i hi
theorem s210 (hn : 44 ≤ nx) (h : MT M ln is fc dn row nd) (hU : MU M u hs kp ks) {l p : Nat} (hl : l < ln) (hp : p < ln) (hlp : l ≠ p) (hQ : ∀ M', eqB M M' → MT M' ln is fc dn (mirG row l p 6 fc) nd → MU M' (psU u) (psH u hs row) kp ks → Q (some (.int (nI 1))) M' N (P0 t e) nx) : aSem (d + 3) 210 [.ref 31, .int (nI l), .int (nI p)] M N (P0 t e) nx Q := by
  have c6 := h.2.2.2.2.2.2.1
  unfold wfC at c6
  have h2 := h.z (v := nI 0)
  have b1 : vB (nI l) ln = true := vB_t ((vl_nI (by omega)).mpr hl)
  have b2 : vB (nI p) ln = true := vB_t ((vl_nI (by omega)).mpr hp)
  simp only [A210, B210_0, B210_13, B210_21, B210_28, false_imp_iff, true_imp_iff, not_false_eq_true, not_true_eq_false, true_and, and_true, implies_true, qn_self, rI_i, rJ_l, rV_n, okZ0, okZ1, o31 hn, s156 hn h2, b1, b2, if_true, one0, nI_eq (show l < 2 ^ 31 by omega) (show p < 2 ^ 31 by omega), hlp]
  refine s200 hn h2.2.2.2.2.1 hU.z (fun M1 he1 hU1 => ?_)
  have h1 := h2.k he1
  simp only [false_imp_iff, true_imp_iff, not_false_eq_true, not_true_eq_false, true_and, and_true, implies_true, qn_self, rI_i, rJ_l, rV_n, okZ0, okZ1, o31 hn]
  refine s209 hn h1.v (show l < 89 by omega) (show p < 89 by omega) (fun M2 he2 hv2 => ?_)
  simp only [false_imp_iff, true_imp_iff, not_false_eq_true, not_true_eq_false, true_and, and_true, implies_true, qn_self, rI_i, rJ_l, rV_n, okZ0, okZ1]
  rw [mirG_0 (by omega) (by omega)] at hv2
  refine m210 hn (M := M2) (row := row) (by omega) (by omega) c6.2.2.1 c6.1 h.2.2.2.2.2.2.2.1.2.1 (fun M3 he3 hv3 => ?_) fc 0 M2 (by omega) (fun _ _ => rfl) hv2
  simp only [B210_108]
  refine l210 hn (M := M3) (row := row) (by omega) (by omega) hlp (fun M4 he4 hv4 => ?_) 6 0 M3 (by omega) (fun _ _ => rfl) hv3
  have he5 := he2.tr (he3.tr he4)
  exact hQ M4 ((eqB_z.tr he1.B).tr he5.B) (hv4.mt h.2.2.2.2.2.2.1 (mirG_wf h.2.2.2.2.2.2.2.1 hl hp c6.1 c6.2.2.1) h.2.2.2.2.2.2.2.2) (hU1.es he5)
theorem s210n (hn : 44 ≤ nx) (h : MT M ln is fc dn row nd) {x y : Int32} (hv : ¬ ((vl x ln ∧ vl y ln) ∧ ¬ x = y)) (hQ : ∀ M', eqM M M' → Q (some (.int (nI 0))) M' N (P0 t e) nx) : aSem (d + 3) 210 [.ref 31, .int x, .int y] M N (P0 t e) nx Q := by
  have h2 := h.z (v := nI 0)
  have hq := hQ _ (eqM_z (v := nI 0))
  by_cases hx : vl x ln
  · by_cases hy : vl y ln
    · have q : x = y := by
        by_cases z : x = y
        · exact z
        · exact absurd ⟨⟨hx, hy⟩, z⟩ hv
      simp only [A210, B210_0, B210_13, B210_21, B210_26, false_imp_iff, true_imp_iff, not_false_eq_true, not_true_eq_false, true_and, and_true, implies_true, qn_self, rI_i, rJ_l, rV_n, okZ0, okZ1, o31 hn, s156 hn h2, vB_t hx, vB_t hy, if_true, one0, q, okZ0]
      exact hq
    · simp only [A210, B210_0, B210_13, B210_26, false_imp_iff, true_imp_iff, not_false_eq_true, not_true_eq_false, true_and, and_true, implies_true, qn_self, rI_i, rJ_l, rV_n, okZ0, okZ1, o31 hn, s156 hn h2, vB_t hx, vB_f hy, if_true, if_false, Bool.false_eq_true, one0, eq_true nI_0, okZ0]
      exact hq
  · simp only [A210, B210_0, B210_26, false_imp_iff, true_imp_iff, not_false_eq_true, not_true_eq_false, true_and, and_true, implies_true, qn_self, rI_i, rJ_l, rV_n, okZ0, okZ1, o31 hn, s156 hn h2, vB_f hx, if_false, Bool.false_eq_true, eq_true nI_0, okZ0]
    exact hq
-- undo
theorem l211 (hn : 44 ≤ nx) {v : Nat} {r : Nat → Nat} (hv : v < 12) (hU : M 31 20 = nI v) (hR : ∀ k, k < 89 → M 39 (89 * v + k) = nI (r k)) (hK : ∀ M', eqS M M' → (∀ j, j < 89 → M' 36 j = nI (r j)) → Q (some (.int (nI v))) M' N (P0 t e) nx) : ∀ n k M', k + n = 89 → eqS M M' → (∀ j, j < k → M' 36 j = nI (r j)) → WP (aSem d) g0 211 nx (qn nx Q) 26 [(0, .ref 31), (1, .int (nI k))] [] M' N (P0 t e) nx := by
  intro n
  induction n with
  | zero =>
    intro k M' hk he h1
    have e1 : M' 31 20 = nI v := by rw [he 31 (by decide)]; exact hU
    simp only [B211_26, B211_58, false_imp_iff, true_imp_iff, not_false_eq_true, not_true_eq_false, true_and, and_true, implies_true, qn_self, rI_i, rJ_l, rV_n, okZ0, okZ1, nI_le (show 89 ≤ k by omega) (show k < 2 ^ 31 by omega), o31 hn, e1]
    exact hK M' he (fun j hj => h1 j (by omega))
  | succ n ih =>
    intro k M' hk he h1
    have e1 : M' 31 20 = nI v := by rw [he 31 (by decide)]; exact hU
    have e2 : M' 39 (89 * v + k) = nI (r k) := by rw [he 39 (by decide)]; exact hR k (by omega)
    simp only [B211_26, false_imp_iff, true_imp_iff, not_false_eq_true, not_true_eq_false, true_and, and_true, implies_true, qn_self, rI_i, rJ_l, rV_n, okZ0, okZ1, nI_ge (show k < 89 by omega) (show 89 < 2 ^ 31 by decide)]
    simp only [B211_32, false_imp_iff, true_imp_iff, not_false_eq_true, not_true_eq_false, true_and, and_true, implies_true, qn_self, rI_i, rJ_l, rV_n, okZ0, okZ1, o31 hn, exP (show P0 t e 31 19 = some 39 from rfl), exP (show P0 t e 31 16 = some 36 from rfl), x36 hn (show k < 89 by omega), e1, nI_mul, nI_add, x39 hn (show 89 * v + k < 1068 by omega), e2]
    refine ih (k + 1) _ (by omega) he.up2 (fun j hj => ?_)
    by_cases q : j = k
    · subst q; rw [uM_k]
    · rw [uM_j (by omega)]; exact h1 j (by omega)
theorem s211z (hn : 44 ≤ nx) (hU : MU M 0 hs kp ks) (hQ : ∀ M', eqM M M' → Q (some (.int ng1)) M' N (P0 t e) nx) : aSem (d + 1) 211 [.ref 31] M N (P0 t e) nx Q := by
  have hu := (hU.z (v := nI 0)).2.1
  simp only [A211, B211_0, B211_12, false_imp_iff, true_imp_iff, not_false_eq_true, not_true_eq_false, true_and, and_true, implies_true, qn_self, rI_i, rJ_l, rV_n, okZ0, okZ1, o31 hn, hu, eq_true nI_0]
  exact hQ _ eqM_z
theorem s211 (hn : 44 ≤ nx) (h : MT M ln is fc dn row nd) (hU : MU M (u + 1) hs kp ks) (hw : wfR ln is fc (hs u)) (hQ : ∀ M', eqB M M' → MT M' ln is fc dn (hs u) nd → MU M' u hs kp ks → Q (some (.int (nI u))) M' N (P0 t e) nx) : aSem (d + 1) 211 [.ref 31] M N (P0 t e) nx Q := by
  have hz := hU.z (v := nI 0)
  have h2 := h.z (v := nI 0)
  have b12 := hz.1
  have hu := hz.2.1
  have e1 : nI (u + 1) - nI 1 = nI u := by rw [nI_sub (by omega), Nat.add_sub_cancel]
  simp only [A211, B211_0, B211_14, false_imp_iff, true_imp_iff, not_false_eq_true, not_true_eq_false, true_and, and_true, implies_true, qn_self, rI_i, rJ_l, rV_n, okZ0, okZ1, o31 hn, hu, nI_z (show u + 1 < 2 ^ 31 by omega), show ¬ u + 1 = 0 by omega, e1]
  refine l211 hn (M := uM (uM M 31 0 (nI 0)) 31 20 (nI u)) (v := u) (r := hs u) (by omega) uM_k (fun k hk => by rw [uM_a (by decide)]; exact hz.2.2.1 u (by omega) k hk) (fun M' he hr => ?_) 89 0 _ (by omega) (fun _ _ => rfl) (fun j hj => by omega)
  refine hQ M' ⟨fun a x y z w p q => by rw [he a y, uM_ne x, uM_ne x], fun k x y _ _ _ => by rw [he 31 (by decide), uM_j y, uM_j x]⟩ ?_ ?_
  · have m33 : M' 33 = M 33 := by rw [he 33 (by decide), uM_ne (by decide), uM_ne (by decide)]
    have m35 : M' 35 = M 35 := by rw [he 35 (by decide), uM_ne (by decide), uM_ne (by decide)]
    obtain ⟨h1, h2, h3, h4, h5, h6, h7, h8, h9⟩ := h
    refine ⟨?_, ?_, ?_, ?_, hr, ?_, h7, hw, h9⟩ <;> first | rw [m33] | rw [m35]
    · exact h1
    · exact h2
    · exact h3
    · exact h4
    · exact h6
  · obtain ⟨g1, g2, g3, g4, g5⟩ := hU
    refine ⟨by omega, ?_, fun j hj k hk => ?_, fun j hj => ?_, fun j hj hq k hk => ?_⟩
    · rw [he 31 (by decide), uM_k]
    · rw [he 39 (by decide), uM_a (by decide), uM_a (by decide)]; exact g3 j (by omega) k hk
    · rw [he 41 (by decide), uM_a (by decide), uM_a (by decide)]; exact g4 j hj
    · rw [he 40 (by decide), uM_a (by decide), uM_a (by decide)]; exact g5 j hj hq k hk
-- keep
theorem l212b (hn : 44 ≤ nx) {v : Nat} {z : Int32} {r : Nat → Nat} (hv : v < 2) (hz : ¬ z = 0) (hR : ∀ k, k < 89 → M 40 (89 * v + k) = nI (r k)) (hK : ∀ M', eqS M M' → (∀ j, j < 89 → M' 36 j = nI (r j)) → Q (some (.int (nI 1))) (uM M' 31 20 (nI 0)) N (P0 t e) nx) : ∀ n k M', k + n = 89 → eqS M M' → (∀ j, j < k → M' 36 j = nI (r j)) → WP (aSem d) g0 212 nx (qn nx Q) 32 [(0, .ref 31), (1, .int (nI v)), (2, .int z), (3, .int (nI k))] [] M' N (P0 t e) nx := by
  intro n
  induction n with
  | zero =>
    intro k M' hk he h1
    simp only [B212_32, B212_85, B212_89, B212_104, false_imp_iff, true_imp_iff, not_false_eq_true, not_true_eq_false, true_and, and_true, implies_true, qn_self, rI_i, rJ_l, rV_n, okZ0, okZ1, hz, okZ1, nI_le (show 89 ≤ k by omega) (show k < 2 ^ 31 by omega), o31 hn]
    exact hK M' he (fun j hj => h1 j (by omega))
  | succ n ih =>
    intro k M' hk he h1
    have e2 : M' 40 (89 * v + k) = nI (r k) := by rw [he 40 (by decide)]; exact hR k (by omega)
    simp only [B212_32, false_imp_iff, true_imp_iff, not_false_eq_true, not_true_eq_false, true_and, and_true, implies_true, qn_self, rI_i, rJ_l, rV_n, okZ0, okZ1, nI_ge (show k < 89 by omega) (show 89 < 2 ^ 31 by decide)]
    simp only [B212_38, B212_42, B212_79, false_imp_iff, true_imp_iff, not_false_eq_true, not_true_eq_false, true_and, and_true, implies_true, qn_self, rI_i, rJ_l, rV_n, okZ0, okZ1, hz, o31 hn, exP (show P0 t e 31 21 = some 40 from rfl), exP (show P0 t e 31 16 = some 36 from rfl), x36 hn (show k < 89 by omega), nI_mul, nI_add, x40 hn (show 89 * v + k < 178 by omega), e2]
    refine ih (k + 1) _ (by omega) he.up2 (fun j hj => ?_)
    by_cases q : j = k
    · subst q; rw [uM_k]
    · rw [uM_j (by omega)]; exact h1 j (by omega)
theorem l212l (hn : 44 ≤ nx) {v : Nat} (hv : v < 2) (hR : ∀ k, k < 89 → M 36 k = nI (row k)) (hK : ∀ M', (∀ a, a ≠ 40 → M' a = M a) → (∀ j, j < 89 → M' 40 (89 * v + j) = nI (row j)) → (∀ j, (j < 89 * v ∨ 89 * v + 89 ≤ j) → M' 40 j = M 40 j) → Q (some (.int (nI 1))) (uM M' 41 v (nI 1)) N (P0 t e) nx) : ∀ n k M', k + n = 89 → (∀ a, a ≠ 40 → M' a = M a) → (∀ j, j < k → M' 40 (89 * v + j) = nI (row j)) → (∀ j, (j < 89 * v ∨ 89 * v + 89 ≤ j) → M' 40 j = M 40 j) → WP (aSem d) g0 212 nx (qn nx Q) 32 [(0, .ref 31), (1, .int (nI v)), (2, .int 0), (3, .int (nI k))] [] M' N (P0 t e) nx := by
  intro n
  induction n with
  | zero =>
    intro k M' hk he h1 h2
    simp only [B212_32, B212_85, B212_97, B212_104, false_imp_iff, true_imp_iff, not_false_eq_true, not_true_eq_false, true_and, and_true, implies_true, qn_self, rI_i, rJ_l, rV_n, okZ0, okZ1, okZ1, nI_le (show 89 ≤ k by omega) (show k < 2 ^ 31 by omega), o31 hn, exP (show P0 t e 31 22 = some 41 from rfl), exS3 (show kindOf 41 = (3, 2) from rfl) (show 41 < nx by omega) (by decide) hv okZ1]
    exact hK M' he (fun j hj => h1 j (by omega)) h2
  | succ n ih =>
    intro k M' hk he h1 h2
    have e2 : M' 36 k = nI (row k) := by rw [he 36 (by decide)]; exact hR k (by omega)
    simp only [B212_32, false_imp_iff, true_imp_iff, not_false_eq_true, not_true_eq_false, true_and, and_true, implies_true, qn_self, rI_i, rJ_l, rV_n, okZ0, okZ1, nI_ge (show k < 89 by omega) (show 89 < 2 ^ 31 by decide)]
    simp only [B212_38, B212_62, B212_79, false_imp_iff, true_imp_iff, not_false_eq_true, not_true_eq_false, true_and, and_true, implies_true, qn_self, rI_i, rJ_l, rV_n, okZ0, okZ1, o31 hn, exP (show P0 t e 31 21 = some 40 from rfl), exP (show P0 t e 31 16 = some 36 from rfl), x36 hn (show k < 89 by omega), nI_mul, nI_add, x40 hn (show 89 * v + k < 178 by omega), e2]
    refine ih (k + 1) _ (by omega) (fun a ha => by rw [uM_ne ha]; exact he a ha) (fun j hj => ?_) (fun j hj => by rw [uM_j (by omega)]; exact h2 j hj)
    by_cases q : j = k
    · subst q; rw [uM_k]
    · rw [uM_j (by omega)]; exact h1 j (by omega)
theorem s212n (hn : 44 ≤ nx) {x z : Int32} (hv : ¬ vl x 2) (hQ : ∀ M', eqM M M' → Q (some (.int (nI 0))) M' N (P0 t e) nx) : aSem (d + 2) 212 [.ref 31, .int x, .int z] M N (P0 t e) nx Q := by
  have b1 : ¬ vB x (1 + 1) = true := vB_f hv
  simp only [A212, B212_0, B212_28, false_imp_iff, true_imp_iff, not_false_eq_true, not_true_eq_false, true_and, and_true, implies_true, qn_self, rI_i, rJ_l, rV_n, okZ0, okZ1, o31 hn, s131, wi_c (show 1 < 2 ^ 31 by decide), vB_iff, b1, if_false, Bool.false_eq_true, eq_true nI_0, okZ0]
  exact hQ _ eqM_z
theorem s212z (hn : 44 ≤ nx) (hU : MU M u hs kp ks) {k : Nat} {z : Int32} (hk : k < 2) (hz : ¬ z = 0) (hkp : ¬ kp k = true) (hQ : ∀ M', eqM M M' → Q (some (.int (nI 0))) M' N (P0 t e) nx) : aSem (d + 2) 212 [.ref 31, .int (nI k), .int z] M N (P0 t e) nx Q := by
  have b1 : vB (nI k) (1 + 1) = true := vB_t ((vl_nI (by omega)).mpr hk)
  have g4 := (hU.z (v := nI 0)).2.2.2.1 k hk
  rw [if_neg hkp] at g4
  simp only [A212, B212_0, B212_15, B212_19, B212_28, false_imp_iff, true_imp_iff, not_false_eq_true, not_true_eq_false, true_and, and_true, implies_true, qn_self, rI_i, rJ_l, rV_n, okZ0, okZ1, o31 hn, s131, wi_c (show 1 < 2 ^ 31 by decide), vB_iff, b1, if_true, one0, hz, exP (show P0 t e 31 22 = some 41 from rfl), exB3 (show kindOf 41 = (3, 2) from rfl) (show 41 < nx by omega) (by decide) hk, g4, eq_true nI_0, okZ0]
  exact hQ _ eqM_z
theorem s212b (hn : 44 ≤ nx) (h : MT M ln is fc dn row nd) (hU : MU M u hs kp ks) {k : Nat} {z : Int32} (hk : k < 2) (hz : ¬ z = 0) (hkp : kp k = true) (hw : wfR ln is fc (ks k)) (hQ : ∀ M', eqB M M' → MT M' ln is fc dn (ks k) nd → MU M' 0 hs kp ks → Q (some (.int (nI 1))) M' N (P0 t e) nx) : aSem (d + 2) 212 [.ref 31, .int (nI k), .int z] M N (P0 t e) nx Q := by
  have b1 : vB (nI k) (1 + 1) = true := vB_t ((vl_nI (by omega)).mpr hk)
  have hU2 := hU.z (v := nI 0)
  have g4 := hU2.2.2.2.1 k hk
  rw [if_pos hkp] at g4
  simp only [A212, B212_0, B212_15, B212_19, B212_30, false_imp_iff, true_imp_iff, not_false_eq_true, not_true_eq_false, true_and, and_true, implies_true, qn_self, rI_i, rJ_l, rV_n, okZ0, okZ1, o31 hn, s131, wi_c (show 1 < 2 ^ 31 by decide), vB_iff, b1, if_true, one0, hz, exP (show P0 t e 31 22 = some 41 from rfl), exB3 (show kindOf 41 = (3, 2) from rfl) (show 41 < nx by omega) (by decide) hk, g4]
  refine l212b hn (M := uM M 31 0 (nI 0)) (v := k) (r := ks k) hk hz (hU2.2.2.2.2 k hk hkp) (fun M' he hr => ?_) 89 0 _ (by omega) (fun _ _ => rfl) (fun j hj => by omega)
  refine hQ _ ⟨fun a x y _ _ _ _ => by rw [uM_ne x, he a y, uM_ne x], fun k x y _ _ _ => by rw [uM_j y, he 31 (by decide), uM_j x]⟩ ?_ ?_
  · have m33 : uM M' 31 20 (nI 0) 33 = M 33 := by rw [uM_ne (by decide), he 33 (by decide), uM_ne (by decide)]
    have m35 : uM M' 31 20 (nI 0) 35 = M 35 := by rw [uM_ne (by decide), he 35 (by decide), uM_ne (by decide)]
    obtain ⟨h1, h2, h3, h4, h5, h6, h7, h8, h9⟩ := h
    refine ⟨?_, ?_, ?_, ?_, fun k hk => by rw [uM_a (by decide)]; exact hr k hk, ?_, h7, hw, h9⟩ <;> first | rw [m33] | rw [m35]
    · exact h1
    · exact h2
    · exact h3
    · exact h4
    · exact h6
  · obtain ⟨g1, g2, g3, g4, g5⟩ := hU
    refine ⟨by omega, ?_, fun j hj k hk => by omega, fun j hj => ?_, fun j hj hq k hk => ?_⟩
    · rw [uM_k]
    · rw [uM_a (by decide), he 41 (by decide), uM_a (by decide)]; exact g4 j hj
    · rw [uM_a (by decide), he 40 (by decide), uM_a (by decide)]; exact g5 j hj hq k hk
theorem s212l (hn : 44 ≤ nx) (h : MT M ln is fc dn row nd) (hU : MU M u hs kp ks) {k : Nat} (hk : k < 2) (hQ : ∀ M', eqB M M' → MT M' ln is fc dn row nd → MU M' u hs (va_up kp k true) (va_up ks k row) → Q (some (.int (nI 1))) M' N (P0 t e) nx) : aSem (d + 2) 212 [.ref 31, .int (nI k), .int 0] M N (P0 t e) nx Q := by
  have b1 : vB (nI k) (1 + 1) = true := vB_t ((vl_nI (by omega)).mpr hk)
  have h2 := h.z (v := nI 0)
  simp only [A212, B212_0, B212_15, B212_30, false_imp_iff, true_imp_iff, not_false_eq_true, not_true_eq_false, true_and, and_true, implies_true, qn_self, rI_i, rJ_l, rV_n, okZ0, okZ1, o31 hn, s131, wi_c (show 1 < 2 ^ 31 by decide), vB_iff, b1, if_true, one0]
  refine l212l hn (M := uM M 31 0 (nI 0)) (v := k) (row := row) hk h2.2.2.2.2.1 (fun M' he hr ho => ?_) 89 0 _ (by omega) (fun _ _ => rfl) (fun j hj => by omega) (fun _ _ => rfl)
  refine hQ _ ⟨fun a x _ _ y z _ => by rw [uM_ne z, he a y, uM_ne x], fun k x _ _ _ _ => by rw [uM_a (by decide), he 31 (by decide), uM_j x]⟩ ?_ ?_
  · have m33 : uM M' 41 k (nI 1) 33 = M 33 := by rw [uM_ne (by decide), he 33 (by decide), uM_ne (by decide)]
    have m35 : uM M' 41 k (nI 1) 35 = M 35 := by rw [uM_ne (by decide), he 35 (by decide), uM_ne (by decide)]
    have m36 : uM M' 41 k (nI 1) 36 = M 36 := by rw [uM_ne (by decide), he 36 (by decide), uM_ne (by decide)]
    unfold MT
    rw [m33, m35, m36]
    exact h
  · obtain ⟨g1, g2, g3, g4, g5⟩ := hU
    refine ⟨g1, ?_, fun j hj i hi => ?_, fun j hj => ?_, fun j hj hq i hi => ?_⟩
    · rw [uM_a (by decide), he 31 (by decide), uM_j (by decide)]; exact g2
    · rw [uM_a (by decide), he 39 (by decide), uM_a (by decide)]; exact g3 j hj i hi
    · by_cases q : j = k
      · subst q; rw [uM_k, up_eq, if_pos rfl]
      · rw [uM_j q, he 41 (by decide), uM_a (by decide), up_ne q]; exact g4 j hj
    · rw [uM_a (by decide)]
      by_cases q : j = k
      · subst q; rw [up_eq]; exact hr i hi
      · rw [up_ne q] at hq ⊢
        rw [ho _ (by omega), uM_a (by decide)]; exact g5 j hj hq i hi
end MCU
