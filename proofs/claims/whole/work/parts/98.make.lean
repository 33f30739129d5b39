/-! MAKING: the constructors -/
def zrM (n : Nat) (M : aM) : Prop := ∀ a, n ≤ a → M a = fun _ => 0
def zrN (n : Nat) (N : aN) : Prop := ∀ a, n ≤ a → N a = fun _ => 0
theorem zM_i {M : aM} {n k : Nat} (h : zrM n M) (hk : n ≤ k) : zM M k = M := by
  unfold zM
  rw [← h k hk]
  exact up_id
theorem zN_i {N : aN} {n k : Nat} (h : zrN n N) (hk : n ≤ k) : zN N k = N := by
  unfold zN
  rw [← h k hk]
  exact up_id
section MAK
variable {d : Nat} {M : aM} {N : aN} {P : aP} {t e nx lim : Nat} {Q : aQ}
theorem c45 (hM : zrM 3 M) (hN : zrN 3 N) (h : Q none M N (uP (zP P 3) 2 0 (some 3)) 4) : aSem (d + 1) 45 [.ref 2] M N P 3 Q := by
  rw [A45, B45_0, zM_i hM (Nat.le_refl _), zN_i hN (Nat.le_refl _)]
  exact And.intro rfl (And.intro rfl (And.intro (Nat.le_refl _) (And.intro ⟨rfl, by decide⟩ (And.intro rfl h))))
theorem c54 {o : Nat} (ho : isT o) (hM : zrM (o + 1) M) (hN : zrN (o + 1) N) (h : Q none M N (uP (zP (uP (zP P (o + 1)) o 0 (some (o + 1))) (o + 1 + 1)) o 1 (some (o + 1 + 1))) (o + 1 + 1 + 1)) : aSem (d + 1) 54 [.ref o] M N P (o + 1) Q := by
  rw [A54, B54_0, zM_i hM (Nat.le_refl _), zN_i hN (Nat.le_refl _), zM_i hM (Nat.le_succ _), zN_i hN (Nat.le_succ _)]
  rcases ho with rfl | rfl | rfl
  all_goals exact And.intro rfl (And.intro rfl (And.intro (by decide) (And.intro ⟨rfl, by decide⟩ (And.intro rfl (And.intro rfl (And.intro (by decide) (And.intro ⟨rfl, by decide⟩ (And.intro rfl h))))))))
theorem c31 {r : Nat} (ho : isR r) (hM : zrM (r + 1) M) (hN : zrN (r + 1) N) (h : Q none M N (uP (zP (uP (zP (uP (zP (uP (zP P (r + 1)) r 0 (some (r + 1))) (r + 1 + 1)) r 1 (some (r + 1 + 1))) (r + 1 + 1 + 1)) r 2 (some (r + 1 + 1 + 1))) (r + 1 + 1 + 1 + 1)) r 3 (some (r + 1 + 1 + 1 + 1))) (r + 1 + 1 + 1 + 1 + 1)) : aSem (d + 1) 31 [.ref r] M N P (r + 1) Q := by
  rw [A31, B31_0, zM_i hM (Nat.le_refl _), zN_i hN (Nat.le_refl _), zM_i hM (by omega), zN_i hN (by omega), zM_i hM (by omega), zN_i hN (by omega), zM_i hM (by omega), zN_i hN (by omega)]
  rcases ho with rfl | rfl
  all_goals exact And.intro rfl (And.intro rfl (And.intro (by decide) (And.intro ⟨rfl, by decide⟩ (And.intro rfl (And.intro rfl (And.intro (by decide) (And.intro ⟨rfl, by decide⟩ (And.intro rfl (And.intro rfl (And.intro (by decide) (And.intro ⟨rfl, by decide⟩ (And.intro rfl (And.intro rfl (And.intro (by decide) (And.intro ⟨rfl, by decide⟩ (And.intro rfl h))))))))))))))))
theorem c7 (hM : zrM 26 M) (hN : zrN 26 N) (h : Q none M N (uP (zP (uP (zP P 26) 25 0 (some 26)) 27) 25 1 (some 27)) 28) : aSem (d + 1) 7 [.ref 25] M N P 26 Q := by
  rw [A7, B7_0, zM_i hM (Nat.le_refl _), zN_i hN (Nat.le_refl _), zM_i hM (by omega), zN_i hN (by omega)]
  exact And.intro rfl (And.intro rfl (And.intro (by decide) (And.intro ⟨rfl, by decide⟩ (And.intro rfl (And.intro rfl (And.intro (by decide) (And.intro ⟨rfl, by decide⟩ (And.intro rfl h))))))))
theorem A14s {k : Nat} : aSem (d + 1) 14 [.retAddr (k + 1)] M N P nx Q ↔ k < 8 ∧ Q (some (.int (wordI k))) M N P nx := Iff.rfl
theorem wordI_k : ∀ k, k < 8 → wordI k = nI (kwV k) := by decide +kernel
theorem zrM.mo {n k : Nat} (h : zrM n M) (hk : n ≤ k) : zrM k M := fun a ha => h a (by omega)
theorem zrN.mo {n k : Nat} (h : zrN n N) (hk : n ≤ k) : zrN k N := fun a ha => h a (by omega)
theorem c0 (hM : zrM 17 M) (hN : zrN 17 N) (h : ∀ P', P' = (uP (uP (zP (uP (zP (zP (uP (uP (zP (uP (zP (uP (zP (uP (zP (zP P 17) 18) 17 0 (some 18)) 19) 17 1 (some 19)) 20) 17 2 (some 20)) 21) 17 3 (some 21)) 16 0 (some 17)) 22) 23) 22 0 (some 23)) 24) 22 1 (some 24)) 16 1 (some 22)) → Q none M N P' 25) : aSem (d + 2) 0 [.ref 16] M N P 17 Q := by
  rw [A0, B0_0, zM_i hM (Nat.le_refl _), zN_i hN (Nat.le_refl _)]
  refine And.intro rfl (And.intro (by decide) (And.intro ⟨rfl, by decide⟩ (And.intro (by decide) (c31 (Or.inr rfl) (hM.mo (by omega)) (hN.mo (by omega)) ?_))))
  rw [rV_n, zM_i hM (by omega), zN_i hN (by omega)]
  refine And.intro ⟨rfl, by decide⟩ (And.intro rfl (And.intro (by decide) (And.intro ⟨rfl, by decide⟩ (And.intro (by decide) (c54 (o := 22) (Or.inr (Or.inl rfl)) (hM.mo (by omega)) (hN.mo (by omega)) ?_)))))
  rw [rV_n]
  exact And.intro ⟨rfl, by decide⟩ (And.intro rfl (h _ rfl))
end MAK
