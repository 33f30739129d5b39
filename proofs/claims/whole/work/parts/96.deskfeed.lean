/-! FEED, DESK, RULE side by side -/
section DFR
variable {d : Nat} {M : aM} {N : aN} {P : aP} {t e nx : Nat} {W X : aM → aN → aP → Nat → Prop}
theorem o92 (hn : 44 ≤ nx) (hX : IX M t e) {x y z v w : Int32} (hW : ∀ M', IX M' t e → W M' N (P0 t e) nx) : aSem (d + 13) 92 [.ref 0, .int x, .int y, .int z, .int v, .int w] M N (P0 t e) nx (rI fun r1 M2 N2 P2 nx2 => okO nx2 31 7 ∧ aSem (d + 13) 133 [.ref 31, .int x, .int y, .int z, .int v, .int w] M2 N2 P2 nx2 (rI fun r M3 N3 P3 nx3 => (r1 = r → W M3 N3 P3 nx3) ∧ (¬ r1 = r → X M3 N3 P3 nx3))) := by
  obtain ⟨ln, is, fc, dn, u, tp, row, nd, hs, ks, kp, B, hI, hJ, hF⟩ := hX
  by_cases hv : tp + 20 ≤ 700
  · refine s92 hn hI.2.2.2.2.2.2.1 hv hI.2.2.2.2.2.2.2 (fun M1 f1 a1 b1 => ⟨o31 hn, ?_⟩)
    have hJ1 := hJ.hi (M' := M1) (fun a ha => f1.1 a (by omega) (by omega))
    refine s133 hn hJ1.2.2.1 hv hJ1.2.2.2 (fun M2 f2 a2 b2 => ⟨fun _ => ?_, fun q => absurd rfl q⟩)
    obtain ⟨⟨h1, h2, h3, h4, h5, h6⟩, h7, h8, h9, h10, h11, h12, h13⟩ := hI
    have l := lT h1
    have g8 := h1.ge
    have hI1 : ICl M1 t e ln is fc dn u (tp + 20) row nd hs ks kp (pt20 B tp x y z v w) := ⟨⟨h1, h2, h3.fr (f1.1 _ (by omega) (by omega)) (f1.1 _ (by omega) (by omega)) (f1.1 _ (by omega) (by omega)), h4, h5, h6⟩, h7, h8, h9, h10.fr (f1.1 25 (by decide) (by decide)) (f1.1 26 (by decide) (by decide)) (f1.1 27 (by decide) (by decide)), fun j hj => by rw [f1.1 4 (by decide) (by decide)]; exact h11 j hj, a1, b1⟩
    have fz : ∀ a, a ≠ 31 → a ≠ 32 → M2 a = M1 a := fun a p q => by rw [f2.1 a q p, uM_ne p]
    refine hW M2 ⟨ln, is, fc, dn, u, tp + 20, row, nd, hs, ks, kp, pt20 B tp x y z v w, hI1.lo (fun a ha => fz a (by omega) (by omega)), ⟨?_, ?_, a2, b2⟩, by omega, hF.2⟩
    · unfold MT
      rw [fz 33 (by decide) (by decide), fz 35 (by decide) (by decide), fz 36 (by decide) (by decide)]
      exact hJ1.1
    · unfold MU
      rw [fz 39 (by decide) (by decide), fz 40 (by decide) (by decide), fz 41 (by decide) (by decide), f2.2 20 (by decide), uM_j (by decide)]
      exact hJ1.2.1
  · exact qq hn hI hJ hF (fun Q h => (s92n hn hI.2.2.2.2.2.2.1 hF.1 hv).mpr (h M eqQ.rf)) (fun M1 Q hj h => s133n hn hj.2.2.1 hF.1 hv h) hW
theorem o93 (hn : 44 ≤ nx) (hX : IX M t e) {x : Int32} (hW : ∀ M' N' t' e', IX M' t' e' → W M' N' (P0 t' e') nx) : aSem (d + 13) 93 [.ref 0, .int x] M N (P0 t e) nx (rI fun r1 M2 N2 P2 nx2 => okO nx2 31 7 ∧ aSem (d + 13) 155 [.ref 31, .int x] M2 N2 P2 nx2 (rI fun r M3 N3 P3 nx3 => (r1 = r → W M3 N3 P3 nx3) ∧ (¬ r1 = r → X M3 N3 P3 nx3))) := by
  obtain ⟨ln, is, fc, dn, u, tp, row, nd, hs, ks, kp, B, hI, hJ, hF⟩ := hX
  by_cases hv : vl x (tp + 1)
  · obtain ⟨n, hn2, rfl⟩ := vl_of hv
    obtain ⟨⟨h1, h2, h3, h4, h5, h6⟩, h7, h8, h9, h10, h11, h12, h13⟩ := hI
    have l := lT h1
    have l2 := lT h7
    have g8 := h1.ge
    have ge8 := h7.ge
    have dj : (t = 8 ∧ e = 28) ∨ (t = 28 ∧ e = 8) := by
      rcases h1 with rfl | rfl | rfl
      · rcases h7 with rfl | rfl | rfl
        · exact absurd rfl h9
        · exact absurd rfl h8
        · exact Or.inl ⟨rfl, rfl⟩
      · exact absurd rfl h2
      · rcases h7 with rfl | rfl | rfl
        · exact Or.inr ⟨rfl, rfl⟩
        · exact absurd rfl h8
        · exact absurd rfl h9
    refine s93 hn h7 h11 h13 h12 hF.1 h10 (n := n) (by omega) (hs' := hs) (ks' := ks) (fun c M1 N1 hr f1 a1 e1 => ⟨o31 hn, ?_⟩) (fun S l M1 N1 hr hS f1 a1 e1 hT1 hP1 => ⟨o31 hn, ?_⟩)
    · have hJ1 := hJ.hi (M' := M1) (fun a ha => f1 a (by omega) (by omega) (by omega) (by omega) (by omega) (by omega) (by omega) (by omega))
      have hI1 : ICl M1 t e ln is fc dn u 0 row nd hs ks kp B := ⟨⟨h1, h2, h3.fr (f1 _ (by omega) (by omega) (by omega) (by omega) (by omega) (by omega) (by omega) (by omega)) (f1 _ (by omega) (by omega) (by omega) (by omega) (by omega) (by omega) (by omega) (by omega)) (f1 _ (by omega) (by omega) (by omega) (by omega) (by omega) (by omega) (by omega) (by omega)), h4, h5, h6⟩, h7, h8, h9, h10.fr (f1 25 (by omega) (by omega) (by omega) (by omega) (by omega) (by omega) (by omega) (by omega)) (f1 26 (by omega) (by omega) (by omega) (by omega) (by omega) (by omega) (by omega) (by omega)) (f1 27 (by omega) (by omega) (by omega) (by omega) (by omega) (by omega) (by omega) (by omega)), fun j hj => by rw [f1 4 (by omega) (by omega) (by omega) (by omega) (by omega) (by omega) (by omega) (by omega)]; exact h11 j hj, a1, fun k hk => absurd hk (Nat.not_lt_zero _)⟩
      refine s155 hn hJ1.1 hJ1.2.1 hJ1.2.2.1 hF.1 hJ1.2.2.2 (n := n) (by omega) (hs' := hs) (ks' := ks) (fun c' M2 N2 hr2 f2 g2 t2 u2 z2 => ⟨fun _ => ?_, fun q => absurd ?_ q⟩) (fun S l M2 N2 hr2 _ _ _ _ _ _ => ?_)
      · exact hW M2 N2 t e ⟨ln, is, fc, dn, u, 0, row, nd, hs, ks, kp, B, hI1.lo f2, ⟨t2, u2, z2, fun k hk => absurd hk (Nat.not_lt_zero _)⟩, Nat.zero_le _, hF.2⟩
      · rw [hr] at hr2
        rw [Except.error.inj hr2]
      · rw [hr] at hr2; cases hr2
    · have hJ1 := hJ.hi (M' := M1) (fun a ha => f1 a (by omega) (by omega) (by omega) (by omega) (by omega) (by omega) (by omega) (by omega) (by omega))
      have hI1 : ICl M1 e t (S.1 0) (S.1 1) (S.1 2) (S.1 3) 0 0 S.2.1 S.2.2.1 hs ks (fun _ => false) B := ⟨⟨h7, h8, hT1, hS.1, hS.2.1, hS.2.2.2.1⟩, h1, h2, fun q => h9 q.symm, hP1, fun j hj => by rw [f1 4 (by omega) (by omega) (by omega) (by omega) (by omega) (by omega) (by omega) (by omega) (by omega)]; exact h11 j hj, a1, fun k hk => absurd hk (Nat.not_lt_zero _)⟩
      refine s155 hn hJ1.1 hJ1.2.1 hJ1.2.2.1 hF.1 hJ1.2.2.2 (n := n) (by omega) (hs' := hs) (ks' := ks) (fun c' M2 N2 hr2 _ _ _ _ _ => ?_) (fun S2 l2 M2 N2 hr2 hS2 f2 g2 t2 u2 z2 => ?_)
      · rw [hr] at hr2; cases hr2
      · rw [hr] at hr2
        have hp := Except.ok.inj hr2
        obtain ⟨rfl, rfl⟩ := Prod.mk.inj hp
        have c6 := hS.1
        unfold wfC at c6
        refine ⟨fun _ => hW M2 N2 e t ⟨S.1 0, S.1 1, S.1 2, S.1 3, 0, 0, S.2.1, S.2.2.1, hs, ks, fun _ => false, B, hI1.lo f2, ⟨t2, u2, z2, fun k hk => absurd hk (Nat.not_lt_zero _)⟩, Nat.zero_le _, fun i hi => ?_, fun j hj => absurd hj (Nat.not_lt_zero _), fun k _ hq => absurd (show false = true from hq) (by decide)⟩, fun q => absurd rfl q⟩
        rw [hS.2.2.1 i (by omega), hS.2.2.1 i (by omega)]
  · exact qq hn hI hJ hF (fun Q h => (s93n hn hI.2.2.2.2.2.2.1 hF.1 hv).mpr (h M eqQ.rf)) (fun M1 Q hj h => s155n hn hj.2.2.1 hF.1 hv h) (fun M' hX => hW M' N t e hX)
/-- the law's own rule -/
theorem A216 {Q : aQ} {x y z : Int32} (hn : 44 ≤ nx) (h : aSem (d + 1) 96 [.ref 0, .int x, .int y, .int z] M N (P0 t e) nx (fun r M' N' P' nx' => match r with
      | some (.int v) => Q (some (.int 0)) M' (uN N' 43 0 v.toInt64) P' (nx + 1)
      | none => Q (some (.int 1)) M' N' P' (nx + 1)
      | _ => False)) : aSem (d + 1) 216 [.ref 0, .int x, .int y, .int z, .ref 43] M N (P0 t e) nx Q := by
  have h2 := (A96 _ _ _ _).mp h
  exact ⟨hn, WP_m (aSem_mono d) (fun r M N P nx a => a.2) h2⟩
theorem x43 {K : Nat} {R : Nat → Prop} (hn : 44 ≤ nx) (h : K < 1) : (∃ k, okA nx 43 4 (nI K) k ∧ R k) ↔ R K := exA (show kindOf 43 = (4, 1) from rfl) (by omega) (by decide) h
end DFR
