/-! CLASS AND REFERENCE side by side -/
def ICl (M : aM) (t e ln is fc dn u tp : Nat) (row nd : Nat → Nat) (hs ks : Nat → Nat → Nat) (kp : Nat → Bool) (B : Nat → Nat) : Prop := CT M t ln is fc dn row nd ∧ isT e ∧ e ≠ 22 ∧ e ≠ t ∧ PA M is u hs kp ks ∧ KW M ∧ M 2 1 = nI tp ∧ BY M 3 tp B
def IMo (M : aM) (ln is fc dn u tp : Nat) (row nd : Nat → Nat) (hs ks : Nat → Nat → Nat) (kp : Nat → Bool) (B : Nat → Nat) : Prop := MT M ln is fc dn row nd ∧ MU M u hs kp ks ∧ M 31 2 = nI tp ∧ BY M 32 tp B
def IWf (ln is fc u tp : Nat) (row : Nat → Nat) (hs ks : Nat → Nat → Nat) (kp : Nat → Bool) : Prop := tp ≤ 700 ∧ wfH is row ∧ (∀ j, j < u → wfR ln is fc (hs j) ∧ wfH is (hs j)) ∧ ∀ k, k < 2 → kp k = true → wfR ln is fc (ks k) ∧ wfH is (ks k)
def IX (M : aM) (t e : Nat) : Prop := ∃ ln is fc dn u tp row nd hs ks kp B, ICl M t e ln is fc dn u tp row nd hs ks kp B ∧ IMo M ln is fc dn u tp row nd hs ks kp B ∧ IWf ln is fc u tp row hs ks kp
section JNT
variable {d D : Nat} {M : aM} {N : aN} {P : aP} {t e nx ln is fc dn u tp : Nat} {row nd : Nat → Nat} {hs ks : Nat → Nat → Nat} {kp : Nat → Bool} {B : Nat → Nat} {Q : aQ}
theorem ICl.lo {M' : aM} (h : ICl M t e ln is fc dn u tp row nd hs ks kp B) (he : ∀ a, a < 31 → M' a = M a) : ICl M' t e ln is fc dn u tp row nd hs ks kp B := by
  obtain ⟨⟨h1, h2, h3, h4, h5, h6⟩, h7, h8, h9, h10, h11, h12, h13⟩ := h
  have l := lT h1
  refine ⟨⟨h1, h2, h3.fr (he _ (by omega)) (he _ (by omega)) (he _ (by omega)), h4, h5, h6⟩, h7, h8, h9, h10.fr (he 25 (by decide)) (he 26 (by decide)) (he 27 (by decide)), fun j hj => by rw [he 4 (by decide)]; exact h11 j hj, by rw [he 2 (by decide)]; exact h12, fun k hk => by rw [he 3 (by decide)]; exact h13 k hk⟩
theorem ICl.q {M' : aM} (h : ICl M t e ln is fc dn u tp row nd hs ks kp B) (he : eqQ M M') : ICl M' t e ln is fc dn u tp row nd hs ks kp B := by
  obtain ⟨h1, h7, h8, h9, h10, h11, h12, h13⟩ := h
  refine ⟨h1.Q he, h7, h8, h9, h10.fr (he 25 (by omega)) (he 26 (by omega)) (he 27 (by omega)), fun j hj => by rw [he 4 (by omega)]; exact h11 j hj, by rw [he 2 (by omega)]; exact h12, fun k hk => by rw [he 3 (by omega)]; exact h13 k hk⟩
theorem IMo.hi {M' : aM} (h : IMo M ln is fc dn u tp row nd hs ks kp B) (he : ∀ a, 31 ≤ a → M' a = M a) : IMo M' ln is fc dn u tp row nd hs ks kp B := by
  obtain ⟨h1, h2, h3, h4⟩ := h
  refine ⟨?_, ?_, by rw [he 31 (by decide)]; exact h3, fun k hk => by rw [he 32 (by decide)]; exact h4 k hk⟩
  · unfold MT
    rw [he 33 (by decide), he 35 (by decide), he 36 (by decide)]
    exact h1
  · unfold MU
    rw [he 31 (by decide), he 39 (by decide), he 40 (by decide), he 41 (by decide)]
    exact h2
theorem IMo.m {M' : aM} (h : IMo M ln is fc dn u tp row nd hs ks kp B) (he : eqM M M') : IMo M' ln is fc dn u tp row nd hs ks kp B := by
  obtain ⟨h1, h2, h3, h4⟩ := h
  refine ⟨h1.m he, h2.m he, by rw [he.2 2 (by decide) (by decide) (by decide) (by decide)]; exact h3, fun k hk => by rw [he.1 32 (by decide) (by decide)]; exact h4 k hk⟩
/-- after an ask -/
theorem qq (hn : 44 ≤ nx) (hI : ICl M t e ln is fc dn u tp row nd hs ks kp B) (hJ : IMo M ln is fc dn u tp row nd hs ks kp B) (hF : IWf ln is fc u tp row hs ks kp) {v : Int32} {q q' : Nat} {as as' : List Value} {W X : aM → aN → aP → Nat → Prop}
    (hc : ∀ Q : aQ, (∀ M', eqQ M M' → Q (some (.int v)) M' N (P0 t e) nx) → aSem D q as M N (P0 t e) nx Q)
    (hm : ∀ (M1 : aM) (Q : aQ), IMo M1 ln is fc dn u tp row nd hs ks kp B → (∀ M', eqM M1 M' → Q (some (.int v)) M' N (P0 t e) nx) → aSem D q' as' M1 N (P0 t e) nx Q)
    (hW : ∀ M', IX M' t e → W M' N (P0 t e) nx) : aSem D q as M N (P0 t e) nx (rI fun r1 M2 N2 P2 nx2 => okO nx2 31 7 ∧ aSem D q' as' M2 N2 P2 nx2 (rI fun r M3 N3 P3 nx3 => (r1 = r → W M3 N3 P3 nx3) ∧ (¬ r1 = r → X M3 N3 P3 nx3))) := by
  refine hc _ (fun M1 he1 => ⟨o31 hn, ?_⟩)
  have hJ1 := hJ.hi (M' := M1) (fun a ha => he1 a (by omega))
  refine hm M1 _ hJ1 (fun M2 he2 => ⟨fun _ => ?_, fun z => absurd rfl z⟩)
  refine hW M2 ⟨ln, is, fc, dn, u, tp, row, nd, hs, ks, kp, B, (hI.q he1).lo (fun a ha => he2.1 a (by omega) (by omega)), hJ1.m he2, hF⟩
/-- the same for a long -/
theorem qqL (hn : 44 ≤ nx) (hI : ICl M t e ln is fc dn u tp row nd hs ks kp B) (hJ : IMo M ln is fc dn u tp row nd hs ks kp B) (hF : IWf ln is fc u tp row hs ks kp) {v : Int64} {q q' : Nat} {as as' : List Value} {W X : aM → aN → aP → Nat → Prop}
    (hc : ∀ Q : aQ, (∀ M', eqQ M M' → Q (some (.long v)) M' N (P0 t e) nx) → aSem D q as M N (P0 t e) nx Q)
    (hm : ∀ (M1 : aM) (Q : aQ), IMo M1 ln is fc dn u tp row nd hs ks kp B → (∀ M', eqM M1 M' → Q (some (.long v)) M' N (P0 t e) nx) → aSem D q' as' M1 N (P0 t e) nx Q)
    (hW : ∀ M', IX M' t e → W M' N (P0 t e) nx) : aSem D q as M N (P0 t e) nx (rJ fun r1 M2 N2 P2 nx2 => okO nx2 31 7 ∧ aSem D q' as' M2 N2 P2 nx2 (rJ fun r M3 N3 P3 nx3 => (r1 = r → W M3 N3 P3 nx3) ∧ (¬ r1 = r → X M3 N3 P3 nx3))) := by
  refine hc _ (fun M1 he1 => ⟨o31 hn, ?_⟩)
  have hJ1 := hJ.hi (M' := M1) (fun a ha => he1 a (by omega))
  refine hm M1 _ hJ1 (fun M2 he2 => ⟨fun _ => ?_, fun z => absurd rfl z⟩)
  refine hW M2 ⟨ln, is, fc, dn, u, tp, row, nd, hs, ks, kp, B, (hI.q he1).lo (fun a ha => he2.1 a (by omega) (by omega)), hJ1.m he2, hF⟩
/-- after an act -/
theorem qa (hn : 44 ≤ nx) (hI : ICl M t e ln is fc dn u tp row nd hs ks kp B) (hJ : IMo M ln is fc dn u tp row nd hs ks kp B) {u' : Nat} {row' : Nat → Nat} {hs' ks' : Nat → Nat → Nat} {kp' : Nat → Bool} (hr : wfR ln is fc row') (hF : IWf ln is fc u' tp row' hs' ks' kp') {v : Int32} {q q' : Nat} {as as' : List Value} {W X : aM → aN → aP → Nat → Prop}
    (hc : ∀ Q : aQ, (∀ M', eqA t M M' → TD M' t ln is fc dn row' nd → PA M' is u' hs' kp' ks' → Q (some (.int v)) M' N (P0 t e) nx) → aSem D q as M N (P0 t e) nx Q)
    (hm : ∀ (M1 : aM) (Q : aQ), IMo M1 ln is fc dn u tp row nd hs ks kp B → (∀ M', eqB M1 M' → MT M' ln is fc dn row' nd → MU M' u' hs' kp' ks' → Q (some (.int v)) M' N (P0 t e) nx) → aSem D q' as' M1 N (P0 t e) nx Q)
    (hW : ∀ M', IX M' t e → W M' N (P0 t e) nx) : aSem D q as M N (P0 t e) nx (rI fun r1 M2 N2 P2 nx2 => okO nx2 31 7 ∧ aSem D q' as' M2 N2 P2 nx2 (rI fun r M3 N3 P3 nx3 => (r1 = r → W M3 N3 P3 nx3) ∧ (¬ r1 = r → X M3 N3 P3 nx3))) := by
  obtain ⟨⟨h1, h2, h3, h4, h5, h6⟩, h7, h8, h9, h10, h11, h12, h13⟩ := hI
  have l := lT h1
  have g8 := h1.ge
  have t1 : ∀ a, a < 8 → a ≠ t + 1 ∧ a ≠ 25 ∧ a ≠ 26 ∧ a ≠ 27 := fun a ha => by omega
  refine hc _ (fun M1 he1 hT1 hP1 => ⟨o31 hn, ?_⟩)
  have hJ1 := hJ.hi (M' := M1) (fun a ha => he1 a (by omega) (by omega) (by omega) (by omega))
  have hI1 : ICl M1 t e ln is fc dn u' tp row' nd hs' ks' kp' B := ⟨⟨h1, h2, hT1, h4, hr, h6⟩, h7, h8, h9, hP1, fun j hj => by rw [he1 4 (by omega) (by omega) (by omega) (by omega)]; exact h11 j hj, by rw [he1 2 (by omega) (by omega) (by omega) (by omega)]; exact h12, fun k hk => by rw [he1 3 (by omega) (by omega) (by omega) (by omega)]; exact h13 k hk⟩
  refine hm M1 _ hJ1 (fun M2 he2 hT2 hU2 => ⟨fun _ => ?_, fun z => absurd rfl z⟩)
  refine hW M2 ⟨ln, is, fc, dn, u', tp, row', nd, hs', ks', kp', B, hI1.lo (fun a ha => he2.1 a (by omega) (by omega) (by omega) (by omega) (by omega) (by omega)), ⟨hT2, hU2, ?_, fun k hk => ?_⟩, hF⟩
  · rw [he2.2 2 (by decide) (by decide) (by decide) (by decide) (by decide)]; exact hJ1.2.2.1
  · rw [he2.1 32 (by decide) (by decide) (by decide) (by decide) (by decide) (by decide)]; exact hJ1.2.2.2 k hk
/-- what is remembered is in order -/
theorem IWf.ps {row' : Nat → Nat} (h : IWf ln is fc u tp row hs ks kp) (hr : wfR ln is fc row) (hH : wfH is row') : IWf ln is fc (psU u) tp row' (psH u hs row) ks kp := by
  refine ⟨h.1, hH, fun j hj => ?_, h.2.2.2⟩
  unfold psU at hj
  unfold psH
  by_cases z : u < 12
  · rw [if_pos z] at hj
    rw [if_pos z]
    by_cases y : j = u
    · rw [if_pos y]; exact ⟨hr, h.2.1⟩
    · rw [if_neg y]; exact h.2.2.1 j (by omega)
  · rw [if_neg z] at hj
    rw [if_neg z]
    by_cases y : j = 11
    · rw [if_pos y]; exact ⟨hr, h.2.1⟩
    · rw [if_neg y]; exact h.2.2.1 (j + 1) (by omega)
end JNT
