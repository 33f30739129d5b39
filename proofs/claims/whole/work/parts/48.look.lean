/-! ROADS: looking at what is told; steps; loops -/
/-- memory that differs in a Roads alone -/
def eqR (r : Nat) (M M' : aM) : Prop := ∀ a, (a < r ∨ r + 4 < a) → M' a = M a
theorem eqR.rf {r : Nat} {M : aM} : eqR r M M := fun _ _ => rfl
theorem eqR.tr {r : Nat} {M M' M'' : aM} (h : eqR r M M') (h' : eqR r M' M'') : eqR r M M'' := fun a x => (h' a x).trans (h a x)
theorem eqW.R {r : Nat} {M M' : aM} (h : eqW r M M') : eqR r M M' := fun a x => h.1 a (by omega) (by omega)
theorem eqR.u {r a k : Nat} {M M' : aM} {v : Int32} (h : eqR r M M') (ha : r ≤ a) (ha2 : a ≤ r + 4) : eqR r M (uM M' a k v) := fun b x => by rw [uM_ne (by omega)]; exact h b x
theorem TR {o r : Nat} (ho : isT o) (hr : isR r) : (o < r ∨ r + 4 < o) ∧ (o + 1 < r ∨ r + 4 < o + 1) ∧ (o + 2 < r ∨ r + 4 < o + 2) := by
  rcases ho with rfl | rfl | rfl <;> rcases hr with rfl | rfl <;> omega
theorem TD.R {M M' : aM} {o r ln is fc dn : Nat} {row nd : Nat → Nat} (hT : TD M o ln is fc dn row nd) (ho : isT o) (hr : isR r) (h : eqR r M M') : TD M' o ln is fc dn row nd :=
  hT.frame (h _ (TR ho hr).1) (h _ (TR ho hr).2.1) (h _ (TR ho hr).2.2)
section LOK
variable {d : Nat} {M : aM} {N : aN} {t e nx o r ln is fc dn : Nat} {row nd : Nat → Nat} {Q : aQ}
theorem xR1 (hn : 44 ≤ nx) (hr : isR r) {K : Nat} {R : Nat → Prop} (h : K < 6) : (∃ k, okA nx (r + 1) 1 (nI K) k ∧ R k) ↔ R K := exA (kR1 hr) (by have := lR hr; omega) (by decide) h
theorem xR2 (hn : 44 ≤ nx) (hr : isR r) {K : Nat} {R : Nat → Prop} (h : K < 6) : (∃ k, okA nx (r + 2) 1 (nI K) k ∧ R k) ↔ R K := exA (kR2 hr) (by have := lR hr; omega) (by decide) h
theorem xR3 (hn : 44 ≤ nx) (hr : isR r) {K : Nat} {R : Nat → Prop} (h : K < 6) : (∃ k, okA nx (r + 3) 1 (nI K) k ∧ R k) ↔ R K := exA (kR3 hr) (by have := lR hr; omega) (by decide) h
/-- the first k lands have been looked at -/
def LK (M : aM) (r ln : Nat) (row : Nat → Nat) (i k : Nat) : Prop :=
  M r 4 = nI ln ∧ (∀ l, l < k → M (r + 1) l = if l < ln then oI (nxM row i l) else ng1) ∧ (∀ l, l < k → l < ln → M (r + 2) l = nI (row l)) ∧ (∀ l, l < k → l < ln → M (r + 3) l = nI (row (47 + (6 * l + i)))) ∧ ∃ w, M r 5 = nI w ∧ BS w (fun l => l < k ∧ l < ln ∧ whM row i l = true)
theorem LK.RD {i : Nat} (h : LK M r ln row i 6) (h6 : ln ≤ 6) : RD M r ln (nxM row i) (whM row i) row (fun l => row (47 + (6 * l + i))) := by
  obtain ⟨h1, h2, h3, h4, w, h5, h7⟩ := h
  exact ⟨h1, h2, fun l hl => h3 l (by omega) hl, fun l hl => h4 l (by omega) hl, w, h5, h7.cg (fun j hj => ⟨fun q => q.2, fun q => ⟨hj, q⟩⟩)⟩
/-- behind next and whole: theories and laws of land k, and on -/
theorem e91 (hn : 44 ≤ nx) (ho : isT o) (hr : isR r) (hc : wfC ln is fc dn) {i k : Nat} (hi : i < is) (hk : k < 6) (ih : ∀ M', eqR r M M' → TD M' o ln is fc dn row nd → LK M' r ln row i (k + 1) → WP (aSem (d + 3)) g0 32 nx (qn nx Q) 22 [(0, .ref r), (1, .ref o), (2, .int (nI i)), (3, .int (nI (row (83 + i)))), (4, .int (nI (k + 1)))] [] M' N (P0 t e) nx)
    {M1 : aM} (he : eqR r M M1) (hT : TD M1 o ln is fc dn row nd) (h4 : M1 r 4 = nI ln) (h1 : ∀ l, l < k + 1 → M1 (r + 1) l = if l < ln then oI (nxM row i l) else ng1) (h2 : ∀ l, l < k → l < ln → M1 (r + 2) l = nI (row l)) (h3 : ∀ l, l < k → l < ln → M1 (r + 3) l = nI (row (47 + (6 * l + i)))) {w : Nat} (hw : M1 r 5 = nI w) (hb : BS w (fun l => l < k + 1 ∧ l < ln ∧ whM row i l = true)) :
    WP (aSem (d + 3)) g0 32 nx (qn nx Q) 91 [(0, .ref r), (1, .ref o), (2, .int (nI i)), (3, .int (nI (row (83 + i)))), (4, .int (nI k))] [] M1 N (P0 t e) nx := by
  have c6 := hc
  unfold wfC at c6
  have fin : ∀ a b, (k < ln → a = nI (row k)) → (k < ln → b = nI (row (47 + (6 * k + i)))) → WP (aSem (d + 3)) g0 32 nx (qn nx Q) 22 [(0, .ref r), (1, .ref o), (2, .int (nI i)), (3, .int (nI (row (83 + i)))), (4, .int (nI (k + 1)))] [] (uM (uM M1 (r + 2) k a) (r + 3) k b) N (P0 t e) nx := by
    intro a b ha hb2
    have he2 : eqR r M1 (uM (uM M1 (r + 2) k a) (r + 3) k b) := (eqR.u (eqR.u eqR.rf (by omega) (by omega)) (by omega) (by omega))
    refine ih _ (he.tr he2) (hT.R ho hr he2) ⟨by rw [uM_a (by omega), uM_a (by omega)]; exact h4, fun l hl => by rw [uM_a (by omega), uM_a (by omega)]; exact h1 l hl, fun l hl hl2 => ?_, fun l hl hl2 => ?_, w, by rw [uM_a (by omega), uM_a (by omega)]; exact hw, hb⟩
    · rw [uM_a (by omega)]
      by_cases q : l = k
      · subst q; rw [uM_k]; exact ha hl2
      · rw [uM_j q]; exact h2 l (by omega) hl2
    · by_cases q : l = k
      · subst q; rw [uM_k]; exact hb2 hl2
      · rw [uM_j q, uM_a (by omega)]; exact h3 l (by omega) hl2
  by_cases hkl : k < ln
  · have hT2 : TD (uM M1 (r + 2) k (nI (row k))) o ln is fc dn row nd := hT.R ho hr (eqR.u eqR.rf (by omega) (by omega))
    simp only [B32_91, false_imp_iff, true_imp_iff, not_false_eq_true, not_true_eq_false, true_and, and_true, implies_true, qn_self, rI_i, rJ_l, rV_n, okZ0, okZ1, oR hn hr, oT hn ho, exP (pR1 hr), exP (pR2 hr), s69 hn ho hT hc hkl, xR2 hn hr hk, xR3 hn hr hk, s74 hn ho hT2 hc hkl hi, nI_add]
    exact fin _ _ (fun _ => rfl) (fun _ => rfl)
  · have hT2 : TD (uM M1 (r + 2) k ng1) o ln is fc dn row nd := hT.R ho hr (eqR.u eqR.rf (by omega) (by omega))
    have v1 : ¬ vl (nI k) ln := by rw [vl_nI (by omega)]; omega
    simp only [B32_91, false_imp_iff, true_imp_iff, not_false_eq_true, not_true_eq_false, true_and, and_true, implies_true, qn_self, rI_i, rJ_l, rV_n, okZ0, okZ1, oR hn hr, oT hn ho, exP (pR1 hr), exP (pR2 hr), s69n hn ho hT hc v1, xR2 hn hr hk, xR3 hn hr hk, s74n hn ho hT2 hc (fun q => v1 q.1), nI_add]
    exact fin _ _ (fun q => absurd q hkl) (fun q => absurd q hkl)
theorem l32 (hn : 44 ≤ nx) (ho : isT o) (hr : isR r) (hc : wfC ln is fc dn) (hw : wfR ln is fc row) {i : Nat} (hi : i < is) (hQ : ∀ M', eqR r M M' → TD M' o ln is fc dn row nd → LK M' r ln row i 6 → Q none M' N (P0 t e) nx) : ∀ n k M', k + n = 6 → eqR r M M' → TD M' o ln is fc dn row nd → LK M' r ln row i k → WP (aSem (d + 3)) g0 32 nx (qn nx Q) 22 [(0, .ref r), (1, .ref o), (2, .int (nI i)), (3, .int (nI (row (83 + i)))), (4, .int (nI k))] [] M' N (P0 t e) nx := by
  have c6 := hc
  unfold wfC at c6
  intro n
  induction n with
  | zero =>
    intro k M' hk he hT hL
    simp only [B32_22, B32_124, false_imp_iff, true_imp_iff, not_false_eq_true, not_true_eq_false, true_and, and_true, implies_true, qn_self, rI_i, rJ_l, rV_n, okZ0, okZ1, nI_le (show 6 ≤ k by omega) (show k < 2 ^ 31 by omega)]
    rw [show k = 6 by omega] at hL
    exact hQ M' he hT hL
  | succ n ih =>
    intro k M' hk he hT hL
    have hh := hw.2.2.2.2 i hi
    obtain ⟨g4, g1, g2, g3, w, gw, gb⟩ := hL
    have next := fun (M1 : aM) => e91 (M := M) (Q := Q) (N := N) (t := t) (e := e) (d := d) (row := row) hn ho hr hc hi (show k < 6 by omega) (fun M' a b c => ih (k + 1) M' (by omega) a b c) (M1 := M1)
    have gN : ∀ v, (v = if k < ln then oI (nxM row i k) else ng1) → ∀ l, l < k + 1 → uM M' (r + 1) k v (r + 1) l = if l < ln then oI (nxM row i l) else ng1 := by
      intro v hv l hl
      by_cases q : l = k
      · subst q; rw [uM_k, hv]
      · rw [uM_j q]; exact g1 l (by omega)
    have hT1 : ∀ v, TD (uM M' (r + 1) k v) o ln is fc dn row nd := fun v => hT.R ho hr (eqR.u eqR.rf (by omega) (by omega))
    have he1 : ∀ v, eqR r M (uM M' (r + 1) k v) := fun v => he.u (by omega) (by omega)
    simp only [B32_22, false_imp_iff, true_imp_iff, not_false_eq_true, not_true_eq_false, true_and, and_true, implies_true, qn_self, rI_i, rJ_l, rV_n, okZ0, okZ1, nI_ge (show k < 6 by omega) (show 6 < 2 ^ 31 by decide)]
    by_cases hkl : k < ln
    · have hb := hw.2.2.1 (11 + (6 * k + row (83 + i))) (by omega) (by omega)
      have hru : ruM row i k = row (11 + (6 * k + row (83 + i))) := rfl
      have hfa := hw.2.1
      simp only [B32_29, false_imp_iff, true_imp_iff, not_false_eq_true, not_true_eq_false, true_and, and_true, implies_true, qn_self, rI_i, rJ_l, rV_n, okZ0, okZ1, oR hn hr, oT hn ho, s76 hn ho hT hc hkl hh, exP (pR0 hr), oI_ng (show row (11 + (6 * k + row (83 + i))) < 2 ^ 31 by omega)]
      refine ⟨fun h => ?_, fun h => ?_⟩
      · -- a rule
        have hf2 : (row (11 + (6 * k + row (83 + i))) - 1) / 2 < fc := by omega
        have hlt := hfa _ hf2
        have hoi := oI_s (n := row (11 + (6 * k + row (83 + i)))) (by omega)
        have hnx : nxM row i k = row (6 + (row (11 + (6 * k + row (83 + i))) - 1) / 2) + 1 := by unfold nxM; rw [if_neg (by rw [hru]; exact h), hru]
        have hv : nI (row (6 + (row (11 + (6 * k + row (83 + i))) - 1) / 2)) = if k < ln then oI (nxM row i k) else ng1 := by rw [if_pos hkl, hnx, oI_s (by omega)]; rfl
        rw [hoi]
        simp only [B32_54, false_imp_iff, true_imp_iff, not_false_eq_true, not_true_eq_false, true_and, and_true, implies_true, qn_self, rI_i, rJ_l, rV_n, okZ0, okZ1, oT hn ho, s78 (show row (11 + (6 * k + row (83 + i))) - 1 < 16 by omega), s71 hn ho hT hc hf2]
        simp only [B32_63, false_imp_iff, true_imp_iff, not_false_eq_true, not_true_eq_false, true_and, and_true, implies_true, qn_self, rI_i, rJ_l, rV_n, okZ0, okZ1, xR1 hn hr (show k < 6 by omega), nI_ng1 (show row (11 + (6 * k + row (83 + i))) - 1 < 2 ^ 31 by omega)]
        simp only [B32_70, false_imp_iff, true_imp_iff, not_false_eq_true, not_true_eq_false, true_and, and_true, implies_true, qn_self, rI_i, rJ_l, rV_n, okZ0, okZ1, s79 (show row (11 + (6 * k + row (83 + i))) - 1 < 16 by omega)]
        by_cases hwh : (row (11 + (6 * k + row (83 + i))) - 1) % 2 = 1
        · have hwM : whM row i k = true := by unfold whM; rw [hru]; simp [h, hwh]
          simp only [hwh, if_true, one0, false_imp_iff, true_imp_iff, not_false_eq_true, not_true_eq_false, true_and, and_true, implies_true, qn_self, rI_i, rJ_l, rV_n, okZ0, okZ1, B32_78, oR hn hr, uM_a (show r ≠ r + 1 by omega), gw, or64 k (by omega) w gb.1]
          refine next _ ((he1 _).u (by omega) (by omega)) ((hT1 _).R ho hr (eqR.u eqR.rf (by omega) (by omega))) (by rw [uM_j (by decide), uM_a (by omega)]; exact g4) (fun l hl => by rw [uM_a (by omega)]; exact gN _ hv l hl) (fun l hl hl2 => by rw [uM_a (by omega), uM_a (by omega)]; exact g2 l hl hl2) (fun l hl hl2 => by rw [uM_a (by omega), uM_a (by omega)]; exact g3 l hl hl2) uM_k ((gb.or (show k < 6 by omega)).cg (fun j hj => ?_))
          constructor
          · rintro (q | q)
            · exact ⟨by omega, q.2⟩
            · rw [q]; exact ⟨by omega, hkl, hwM⟩
          · intro q
            by_cases q2 : j = k
            · exact Or.inr q2
            · exact Or.inl ⟨by omega, q.2⟩
        · have hwM : ¬ whM row i k = true := by unfold whM; rw [hru]; simp [hwh]
          simp only [hwh, if_false, eq_true nI_0, false_imp_iff, true_imp_iff, not_false_eq_true, not_true_eq_false, true_and, and_true, implies_true, qn_self, rI_i, rJ_l, rV_n, okZ0, okZ1]
          refine next _ (he1 _) (hT1 _) (by rw [uM_a (by omega)]; exact g4) (gN _ hv) (fun l hl hl2 => by rw [uM_a (by omega)]; exact g2 l hl hl2) (fun l hl hl2 => by rw [uM_a (by omega)]; exact g3 l hl hl2) (by rw [uM_a (by omega)]; exact gw) (gb.cg (fun j hj => ?_))
          constructor
          · intro q
            exact ⟨by omega, q.2⟩
          · intro q
            by_cases q2 : j = k
            · rw [q2] at q; exact absurd q.2.2 hwM
            · exact ⟨by omega, q.2⟩
      · -- none
        have hnx : nxM row i k = 0 := by unfold nxM; rw [if_pos (by rw [hru]; exact h)]
        have hv : ng1 = if k < ln then oI (nxM row i k) else ng1 := by rw [if_pos hkl, hnx]; rfl
        have hwM : ¬ whM row i k = true := by unfold whM; rw [hru]; simp [h]
        simp only [h, oI_0, B32_50, B32_63, false_imp_iff, true_imp_iff, not_false_eq_true, not_true_eq_false, true_and, and_true, implies_true, qn_self, rI_i, rJ_l, rV_n, okZ0, okZ1, xR1 hn hr (show k < 6 by omega)]
        refine next _ (he1 _) (hT1 _) (by rw [uM_a (by omega)]; exact g4) (gN _ hv) (fun l hl hl2 => by rw [uM_a (by omega)]; exact g2 l hl hl2) (fun l hl hl2 => by rw [uM_a (by omega)]; exact g3 l hl hl2) (by rw [uM_a (by omega)]; exact gw) (gb.cg (fun j hj => ?_))
        constructor
        · intro q
          exact ⟨by omega, q.2⟩
        · intro q
          by_cases q2 : j = k
          · rw [q2] at q; exact absurd q.2.2 hwM
          · exact ⟨by omega, q.2⟩
    · have v1 : ¬ vl (nI k) ln := by rw [vl_nI (by omega)]; omega
      have hv : ng1 = if k < ln then oI (nxM row i k) else ng1 := by rw [if_neg hkl]
      simp only [B32_29, false_imp_iff, true_imp_iff, not_false_eq_true, not_true_eq_false, true_and, and_true, implies_true, qn_self, rI_i, rJ_l, rV_n, okZ0, okZ1, oR hn hr, oT hn ho, s76n hn ho hT hc (fun q => v1 q.1), exP (pR0 hr), B32_50, B32_63, xR1 hn hr (show k < 6 by omega)]
      refine next _ (he1 _) (hT1 _) (by rw [uM_a (by omega)]; exact g4) (gN _ hv) (fun l hl hl2 => by rw [uM_a (by omega)]; exact g2 l hl hl2) (fun l hl hl2 => by rw [uM_a (by omega)]; exact g3 l hl hl2) (by rw [uM_a (by omega)]; exact gw) (gb.cg (fun j hj => ?_))
      constructor
      · intro q
        exact ⟨by omega, q.2⟩
      · intro q
        exact ⟨by omega, q.2⟩
theorem s32 (hn : 44 ≤ nx) (ho : isT o) (hr : isR r) (hT : TD M o ln is fc dn row nd) (hc : wfC ln is fc dn) (hw : wfR ln is fc row) {i : Nat} (hi : i < is) (hQ : ∀ M', eqR r M M' → TD M' o ln is fc dn row nd → RD M' r ln (nxM row i) (whM row i) row (fun l => row (47 + (6 * l + i))) → Q none M' N (P0 t e) nx) : aSem (d + 4) 32 [.ref r, .ref o, .int (nI i)] M N (P0 t e) nx Q := by
  have c6 := hc
  unfold wfC at c6
  have he : eqR r M (uM (uM M r 4 (nI ln)) r 5 (nI 0)) := eqR.u (eqR.u eqR.rf (by omega) (by omega)) (by omega) (by omega)
  have hT2 := hT.R ho hr he
  simp only [A32, B32_0, false_imp_iff, true_imp_iff, not_false_eq_true, not_true_eq_false, true_and, and_true, implies_true, qn_self, rI_i, rJ_l, rV_n, okZ0, okZ1, oR hn hr, oT hn ho, hT.1, s83 hn ho hT2 hc hi]
  refine l32 hn ho hr hc hw hi (fun M' a b c => hQ M' a b (c.RD c6.1)) 6 0 _ (by omega) he hT2 ⟨by rw [uM_j (by decide), uM_k], fun l hl => by omega, fun l hl => by omega, fun l hl => by omega, 0, uM_k, BS.z.cg (fun j _ => by simp)⟩
end LOK
