/-! THE START -/
section STA
variable {d : Nat} {M : aM} {N : aN} {P : aP} {t e nx lim : Nat} {Q : aQ}
def kwM (M : aM) : aM := uM (uM (uM (uM (uM (uM (uM (uM M 4 0 (wordI 0)) 4 1 (wordI 1)) 4 2 (wordI 2)) 4 3 (wordI 3)) 4 4 (wordI 4)) 4 5 (wordI 5)) 4 6 (wordI 6)) 4 7 (wordI 7)
theorem kwM_ne {a : Nat} (h : a ≠ 4) : kwM M a = M a := by
  unfold kwM
  rw [uM_ne h, uM_ne h, uM_ne h, uM_ne h, uM_ne h, uM_ne h, uM_ne h, uM_ne h]
theorem kwM_k {j : Nat} (h : j < 8) : kwM M 4 j = wordI j := by
  unfold kwM
  rcases (show j = 0 ∨ j = 1 ∨ j = 2 ∨ j = 3 ∨ j = 4 ∨ j = 5 ∨ j = 6 ∨ j = 7 by omega) with rfl | rfl | rfl | rfl | rfl | rfl | rfl | rfl
  all_goals
    repeat first | rw [uM_k] | rw [uM_j (by decide)]
theorem c13 (hM : zrM 2 M) (hN : zrN 2 N) (h : ∀ P', (∀ a k, P' a k = (uP (uP (zP (uP (zP (zP (uP (zP (uP (zP (uP (zP (uP (zP (uP (uP (zP (zP P 2) 3) 2 0 (some 3)) 1 0 (some 2)) 4) 1 1 (some 4)) 5) 1 2 (some 5)) 6) 1 3 (some 6)) 7) 1 4 (some 7)) 8) 9) 8 0 (some 9)) 10) 8 1 (some 10)) 1 8 (some 8)) a k) → Q none (kwM M) N P' 11) : aSem (d + 3) 13 [.ref 1] M N P 2 Q := by
  rw [A13, B13_0, zM_i hM (Nat.le_refl _), zN_i hN (Nat.le_refl _)]
  refine And.intro rfl (And.intro (by decide) (And.intro ⟨rfl, by decide⟩ (And.intro (by decide) (c45 (hM.mo (by omega)) (hN.mo (by omega)) ?_))))
  rw [rV_n, zM_i hM (by omega), zN_i hN (by omega), zM_i hM (by omega), zN_i hN (by omega), zM_i hM (by omega), zN_i hN (by omega), zM_i hM (by omega), zN_i hN (by omega), zM_i hM (by omega), zN_i hN (by omega)]
  refine And.intro ⟨rfl, by decide⟩ (And.intro rfl (And.intro rfl (And.intro (by decide) (And.intro ⟨rfl, by decide⟩ (And.intro rfl (And.intro rfl (And.intro (by decide) (And.intro ⟨rfl, by decide⟩ (And.intro rfl (And.intro rfl (And.intro (by decide) (And.intro ⟨rfl, by decide⟩ (And.intro rfl (And.intro rfl (And.intro (by decide) (And.intro ⟨rfl, by decide⟩ (And.intro rfl (And.intro (by decide) (And.intro ⟨rfl, by decide⟩ (And.intro (by decide) (c54 (o := 8) (Or.inl rfl) (hM.mo (by omega)) (hN.mo (by omega)) ?_)))))))))))))))))))))
  rw [rV_n]
  refine And.intro ⟨rfl, by decide⟩ (And.intro ⟨rfl, by decide⟩ (Exists.intro 4 (And.intro rfl (A14s.mpr (And.intro (by decide) (Exists.intro 0 (And.intro ⟨rfl, by decide, rfl, by decide⟩ ?_)))))))
  refine And.intro ⟨rfl, by decide⟩ (Exists.intro 4 (And.intro rfl (A14s.mpr (And.intro (by decide) (Exists.intro 1 (And.intro ⟨rfl, by decide, rfl, by decide⟩ ?_))))))
  refine And.intro ⟨rfl, by decide⟩ (Exists.intro 4 (And.intro rfl (A14s.mpr (And.intro (by decide) (Exists.intro 2 (And.intro ⟨rfl, by decide, rfl, by decide⟩ ?_))))))
  refine And.intro ⟨rfl, by decide⟩ (Exists.intro 4 (And.intro rfl (A14s.mpr (And.intro (by decide) (Exists.intro 3 (And.intro ⟨rfl, by decide, rfl, by decide⟩ ?_))))))
  refine And.intro ⟨rfl, by decide⟩ (Exists.intro 4 (And.intro rfl (A14s.mpr (And.intro (by decide) (Exists.intro 4 (And.intro ⟨rfl, by decide, rfl, by decide⟩ ?_))))))
  refine And.intro ⟨rfl, by decide⟩ (Exists.intro 4 (And.intro rfl (A14s.mpr (And.intro (by decide) (Exists.intro 5 (And.intro ⟨rfl, by decide, rfl, by decide⟩ ?_))))))
  refine And.intro ⟨rfl, by decide⟩ (Exists.intro 4 (And.intro rfl (A14s.mpr (And.intro (by decide) (Exists.intro 6 (And.intro ⟨rfl, by decide, rfl, by decide⟩ ?_))))))
  refine And.intro ⟨rfl, by decide⟩ (Exists.intro 4 (And.intro rfl (A14s.mpr (And.intro (by decide) (Exists.intro 7 (And.intro ⟨rfl, by decide, rfl, by decide⟩ ?_))))))
  exact And.intro rfl (h _ (fun _ _ => rfl))
/-- references beyond these places are none -/
def supB (b : Nat) (P : aP) : Prop := ∀ a k, (b ≤ a ∨ 32 ≤ k) → P a k = none
theorem supB.u1 {b a k v : Nat} (h : supB b P) (ha : a < b) (hk : k < 32) : supB b (uP P a k (some v)) := by
  intro c j hb
  by_cases q : c = a
  · subst q
    rw [uP_eq, up_ne (by omega)]; exact h _ j hb
  · rw [uP_ne q]; exact h c j hb
theorem supB.z1 {b a : Nat} (h : supB b P) : supB b (zP P a) := by
  intro c j hb
  unfold zP
  by_cases q : c = a
  · subst q; rw [up_eq]
  · rw [up_ne q]; exact h c j hb
theorem supB0 : supB 44 (P0 28 8) := by
  intro a k h
  unfold P0
  split <;> first | rfl | omega
theorem supB.eq1 {P' : aP} (h : supB 44 P) (h' : supB 44 P') (he : ∀ a, a < 44 → ∀ k, k < 32 → P a k = P' a k) : P = P' := by
  funext a k
  by_cases q : a < 44 ∧ k < 32
  · exact he a q.1 k q.2
  · rw [h a k (by omega), h' a k (by omega)]
theorem supB.mo1 {b c : Nat} (h : supB b P) (hbc : b ≤ c) : supB c P := fun a k q => h a k (by omega)
theorem c91 (hM : zrM 1 M) (hN : zrN 1 N) (hP : P = zP (fun _ _ => none) 0) (h : ∀ P', supB 31 P' → (∀ a, a < 31 → ∀ k, k < 32 → P' a k = P0 28 8 a k) → Q none (kwM M) N P' 31) : aSem (d + 4) 91 [.ref 0] M N P 1 Q := by
  subst hP
  rw [A91, B91_0, zM_i hM (Nat.le_refl _), zN_i hN (Nat.le_refl _)]
  refine And.intro rfl (And.intro (by decide) (And.intro ⟨rfl, by decide⟩ (And.intro (by decide) (c13 (hM.mo (by omega)) (hN.mo (by omega)) (fun P' hP' => ?_)))))
  obtain rfl : P' = _ := funext (fun a => funext (hP' a))
  have hK : zrM 5 (kwM M) := fun a ha => by rw [kwM_ne (by omega)]; exact hM a (by omega)
  rw [rV_n]
  refine And.intro ⟨rfl, by decide⟩ (And.intro ⟨rfl, by decide⟩ (Exists.intro 1 (And.intro rfl (And.intro ⟨rfl, by decide⟩ (Exists.intro 2 (And.intro rfl (And.intro ⟨rfl, by decide⟩ (And.intro rfl (And.intro (by decide) (And.intro ⟨rfl, by decide⟩ (And.intro (by decide) ?_)))))))))))
  rw [zM_i hK (by omega), zN_i hN (by omega)]
  refine c31 (r := 11) (Or.inl rfl) (hK.mo (by omega)) (hN.mo (by omega)) ?_
  rw [rV_n, zM_i hK (by omega), zN_i hN (by omega)]
  refine And.intro ⟨rfl, by decide⟩ (And.intro rfl (And.intro (by decide) (And.intro ⟨rfl, by decide⟩ (And.intro (by decide) (c0 (hK.mo (by omega)) (hN.mo (by omega)) (fun P' hP' => ?_))))))
  subst hP'
  rw [rV_n, zM_i hK (by omega), zN_i hN (by omega)]
  refine And.intro ⟨rfl, by decide⟩ (And.intro rfl (And.intro (by decide) (And.intro ⟨rfl, by decide⟩ (And.intro (by decide) (c7 (hK.mo (by omega)) (hN.mo (by omega)) ?_)))))
  rw [rV_n, zM_i hK (by omega), zN_i hN (by omega)]
  refine And.intro ⟨rfl, by decide⟩ (And.intro rfl (And.intro (by decide) (And.intro ⟨rfl, by decide⟩ (And.intro (by decide) (c54 (o := 28) (Or.inr (Or.inr rfl)) (hK.mo (by omega)) (hN.mo (by omega)) ?_)))))
  rw [rV_n]
  refine And.intro ⟨rfl, by decide⟩ (And.intro rfl (h _ ?_ ?_))
  · repeat' first | refine supB.u1 ?_ (by decide) (by decide) | refine supB.z1 ?_
    exact fun _ _ _ => rfl
  · decide +kernel
theorem c129 (hM : zrM 31 M) (hN : zrN 31 N) (hP : supB 31 P) (hP2 : ∀ a, a < 31 → ∀ k, k < 32 → P a k = P0 28 8 a k) (h : ∀ P', supB 43 P' → (∀ a, a < 43 → ∀ k, k < 32 → P' a k = P0 28 8 a k) → Q none M N P' 43) : aSem (d + 4) 129 [.ref 31] M N (zP P 31) 32 Q := by
  obtain rfl : P = fun a k => if a < 31 ∧ k < 32 then P0 28 8 a k else none := by
    funext a k
    by_cases q : a < 31 ∧ k < 32
    · rw [if_pos q]; exact hP2 a q.1 k q.2
    · rw [if_neg q]; exact hP a k (by omega)
  rw [A129, B129_0]
  rw [zM_i hM (by omega), zN_i hN (by omega), zM_i hM (by omega), zN_i hN (by omega), zM_i hM (by omega), zN_i hN (by omega), zM_i hM (by omega), zN_i hN (by omega), zM_i hM (by omega), zN_i hN (by omega), zM_i hM (by omega), zN_i hN (by omega), zM_i hM (by omega), zN_i hN (by omega), zM_i hM (by omega), zN_i hN (by omega), zM_i hM (by omega), zN_i hN (by omega), zM_i hM (by omega), zN_i hN (by omega), zM_i hM (by omega), zN_i hN (by omega)]
  repeat' first | exact rfl | refine And.intro rfl ?_ | refine And.intro (⟨rfl, by decide⟩ : okO _ _ _) ?_ | refine And.intro (by decide) ?_
  refine h _ ?_ ?_
  · repeat' first | refine supB.u1 ?_ (by decide) (by decide) | refine supB.z1 ?_
    exact hP.mo1 (by decide)
  · decide +kernel
theorem w217 {G : aG} (hL : G.1 < 2 ^ 30) {m : Nat} (hm : G.1 < 6 * m) (hlim : 44 + m ≤ lim) (hQ : ∀ M N P nx, nx ≤ lim → Q (some (.int (nI 1))) M N P nx) : WP (aSem (d + 13)) G 217 lim Q 0 [(0, .retAddr 0)] [] (fun _ _ => 0) (fun _ _ => 0) (fun _ _ => none) 0 := by
  have hM : zrM 0 (fun _ _ => 0) := fun _ _ => rfl
  have hN : zrN 0 (fun _ _ => 0) := fun _ _ => rfl
  rw [B217_0, zM_i hM (Nat.le_refl _), zN_i hN (Nat.le_refl _)]
  refine And.intro rfl (And.intro (by omega) (And.intro ⟨rfl, by decide⟩ (And.intro (by omega) (c91 (d := d + 9) (hM.mo (by omega)) (hN.mo (by omega)) rfl (fun P1 hs1 hp1 => ?_)))))
  have hK : zrM 5 (kwM (fun _ _ => 0)) := fun a ha => by rw [kwM_ne (by omega)]
  rw [rV_n, zM_i hK (by omega), zN_i hN (by omega)]
  refine And.intro rfl (And.intro (by omega) (And.intro ⟨rfl, by decide⟩ (And.intro (by omega) (c129 (d := d + 9) (hK.mo (by omega)) (hN.mo (by omega)) hs1 hp1 (fun P2 hs2 hp2 => ?_)))))
  rw [rV_n, zM_i hK (by omega), zN_i hN (by omega)]
  have hP : zP P2 43 = P0 28 8 := by
    refine supB.eq1 (hs2.mo1 (by decide)).z1 supB0 (fun a ha k hk => ?_)
    unfold zP
    by_cases q : a = 43
    · subst q
      rw [up_eq]
      revert k
      decide
    · rw [up_ne q]; exact hp2 a (by omega) k hk
  rw [hP]
  refine And.intro rfl (And.intro rfl (And.intro (by omega) (l217 hL hQ m 0 28 8 _ _ 44 (by omega) (by decide) (Nat.le_refl _) hlim ?_)))
  have z0 : ∀ a, a ≠ 4 → kwM (fun _ _ => 0) a = fun _ => 0 := fun a ha => kwM_ne ha
  have e0 : (0 : Int32) = nI 0 := nI_0.symm
  have w0 : wfR 0 0 0 (fun _ => 0) := ⟨fun _ _ => Nat.zero_le _, fun f hf => absurd hf (Nat.not_lt_zero _), fun _ _ _ => Nat.zero_le _, fun _ _ _ => Nat.zero_le _, fun i hi => absurd hi (Nat.not_lt_zero _)⟩
  refine ⟨0, 0, 0, 0, 0, 0, fun _ => 0, fun _ => 0, fun _ _ => 0, fun _ _ => 0, fun _ => false, fun _ => 0, ⟨⟨Or.inr (Or.inr rfl), by decide, ?_, PW_0.1, w0, fun k hk => absurd hk (Nat.not_lt_zero _)⟩, Or.inl rfl, by decide, by decide, ?_, fun j hj => ?_, ?_, fun k hk => absurd hk (Nat.not_lt_zero _)⟩, ⟨?_, ?_, ?_, fun k hk => absurd hk (Nat.not_lt_zero _)⟩, Nat.zero_le _, fun i hi => absurd hi (Nat.not_lt_zero _), fun j hj => absurd hj (Nat.not_lt_zero _), fun k _ hq => absurd (show false = true from hq) (by decide)⟩
  · unfold TD
    rw [z0 28 (by decide), z0 (28 + 1) (by decide)]
    exact ⟨e0, e0, e0, e0, fun k _ _ => e0, fun k hk => absurd hk (Nat.not_lt_zero _)⟩
  · refine ⟨0, 0, by decide, by decide, ?_, ?_, fun j hj => absurd hj (Nat.not_lt_zero _), ?_, by decide, fun k hk => ?_, fun k _ hq => absurd (show false = true from hq) (by decide)⟩
    · rw [z0 25 (by decide)]; exact e0
    · rw [z0 25 (by decide)]; exact e0
    · rw [z0 25 (by decide)]; exact e0
    · rw [Nat.zero_div]
      exact ⟨fun z => absurd z (by decide), fun z => absurd (show false = true from z) (by decide)⟩
  · rw [kwM_k hj, wordI_k j hj]
  · rw [z0 2 (by decide)]; exact e0
  · unfold MT
    rw [z0 33 (by decide), z0 36 (by decide)]
    exact ⟨e0, e0, e0, e0, fun k _ => e0, fun k hk => absurd hk (Nat.not_lt_zero _), PW_0.1, w0, fun k hk => absurd hk (Nat.not_lt_zero _)⟩
  · unfold MU
    rw [z0 31 (by decide), z0 41 (by decide)]
    exact ⟨by decide, e0, fun j hj => absurd hj (Nat.not_lt_zero _), fun j _ => e0, fun j _ hq => absurd (show false = true from hq) (by decide)⟩
  · rw [z0 31 (by decide)]; exact e0
end STA
