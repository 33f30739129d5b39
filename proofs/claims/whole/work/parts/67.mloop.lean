/-! THE REFERENCE: the lands of a loop -/
/-- the lands of a loop in which a road ends; 0 without -/
def lpO (nxt : Nat → Nat) (wh : Nat → Bool) (l : Nat) : Nat := if (road nxt wh l).2.1 = 3 then lpF (road nxt wh l).2.2 (road nxt wh l).1 0 else 0
section MLO
variable {d : Nat} {M : aM} {N : aN} {P : aP} {t e nx ln is fc dn : Nat} {row nd : Nat → Nat} {Q : aQ}
theorem or11 : nI 0 ||| nI 0 = nI 0 ∧ nI 0 ||| nI 1 = nI 1 ∧ nI 1 ||| nI 0 = nI 1 ∧ nI 1 ||| nI 1 = nI 1 := by decide +kernel
theorem l177 (hn : 44 ≤ nx) {z : List Nat × Nat × Nat} (hk : wkN M z) (hlen : z.1.length ≤ 7) (hz : ∀ x ∈ z.1, x < 6) (he : z.2.2 < 6) : ∀ q p b s, z.1 = p ++ q → b < 64 → s = (if b = 0 then 0 else 1) → (WP (aSem d) g0 177 nx (qn nx Q) 24 [(0, .ref 31), (3, .int (nI b)), (4, .int (nI s)), (5, .int (nI p.length))] [] M N (P0 t e) nx ↔ Q (some (.int (nI (lpF z.2.2 q b)))) M N (P0 t e) nx) := by
  intro q
  induction q with
  | nil =>
    intro p b s hp hb hs
    have hl : z.1.length = p.length := by rw [hp, List.append_nil]
    simp only [B177_24, B177_84, false_imp_iff, true_imp_iff, not_false_eq_true, not_true_eq_false, true_and, and_true, implies_true, qn_self, rI_i, rJ_l, rV_n, okZ0, okZ1, o31 hn, hk.1, nI_le (show z.1.length ≤ p.length by omega) (show p.length < 2 ^ 31 by omega), lpF]
  | cons x q ih =>
    intro p b s hp hb hs
    have hl : z.1.length = p.length + (q.length + 1) := by rw [hp, List.length_append, List.length_cons]
    have hx : x < 6 := hz x (by rw [hp]; simp)
    have hv : M 42 p.length = nI x := by
      rw [hk.2.2.2 p.length (by omega), hp, List.getD_eq_getElem?_getD, List.getElem?_append_right (Nat.le_refl _), Nat.sub_self]
      rfl
    have ih2 := fun b s hb hs => ih (p ++ [x]) b s (by rw [hp]; simp) hb hs
    rw [List.length_append, List.length_singleton] at ih2
    have hne : ¬ b ||| 2 ^ x = 0 := fun q => by
      have h2 : 0 < 2 ^ x := Nat.pow_pos (by decide)
      have := (Nat.or_eq_zero_iff.mp q).2
      omega
    simp only [B177_24, false_imp_iff, true_imp_iff, not_false_eq_true, not_true_eq_false, true_and, and_true, implies_true, qn_self, rI_i, rJ_l, rV_n, okZ0, okZ1, o31 hn, hk.1, nI_ge (show p.length < z.1.length by omega) (show z.1.length < 2 ^ 31 by omega)]
    simp only [B177_33, B177_49, B177_53, false_imp_iff, true_imp_iff, not_false_eq_true, not_true_eq_false, true_and, and_true, implies_true, qn_self, rI_i, rJ_l, rV_n, okZ0, okZ1, o31 hn, exP (show P0 t e 31 25 = some 42 from rfl), x42 hn (show p.length < 8 by omega), hv, hk.2.2.1, nI_eq (show x < 2 ^ 31 by omega) (show z.2.2 < 2 ^ 31 by omega)]
    have yes : ∀ w : Int32, w = nI 1 → (WP (aSem d) g0 177 nx (qn nx Q) 63 [(4, .int w), (0, .ref 31), (3, .int (nI b)), (5, .int (nI p.length))] [.int (nI b)] M N (P0 t e) nx ↔ Q (some (.int (nI (lpF z.2.2 q (b ||| 2 ^ x))))) M N (P0 t e) nx) := by
      intro w hw
      simp only [B177_63, B177_76, false_imp_iff, true_imp_iff, not_false_eq_true, not_true_eq_false, true_and, and_true, implies_true, qn_self, rI_i, rJ_l, rV_n, okZ0, okZ1, o31 hn, exP (show P0 t e 31 25 = some 42 from rfl), x42 hn (show p.length < 8 by omega), hv, or64 x hx b hb, nI_add, hw]
      exact ih2 _ 1 (or64_lt x hx b hb) (by rw [if_neg hne])
    have hstep : lpF z.2.2 (x :: q) b = lpF z.2.2 q (if ¬ b = 0 ∨ x = z.2.2 then b ||| 2 ^ x else b) := rfl
    rw [hstep]
    by_cases h1 : b = 0
    · rw [if_pos h1] at hs
      by_cases h2 : x = z.2.2
      · rw [if_pos (Or.inr h2), ← yes _ rfl]
        simp only [h2, hs, false_imp_iff, true_imp_iff, not_false_eq_true, not_true_eq_false, true_and, and_true, implies_true, qn_self, rI_i, rJ_l, rV_n, okZ0, okZ1, B177_54, or11.2.1, one0]
      · rw [if_neg (fun z => z.elim (fun q => q h1) h2)]
        simp only [h2, hs, false_imp_iff, true_imp_iff, not_false_eq_true, not_true_eq_false, true_and, and_true, implies_true, qn_self, rI_i, rJ_l, rV_n, okZ0, okZ1, B177_54, or11.1, eq_true nI_0, B177_75, B177_76, or6z b hb, nI_add]
        exact ih2 b 0 hb (by rw [if_pos h1])
    · rw [if_neg h1] at hs
      rw [if_pos (Or.inl h1), ← yes _ rfl]
      by_cases h2 : x = z.2.2
      · simp only [h2, hs, false_imp_iff, true_imp_iff, not_false_eq_true, not_true_eq_false, true_and, and_true, implies_true, qn_self, rI_i, rJ_l, rV_n, okZ0, okZ1, B177_54, or11.2.2.2, one0]
      · simp only [h2, hs, false_imp_iff, true_imp_iff, not_false_eq_true, not_true_eq_false, true_and, and_true, implies_true, qn_self, rI_i, rJ_l, rV_n, okZ0, okZ1, B177_54, or11.2.2.1, one0]
theorem s177 (hn : 44 ≤ nx) (h : MT M ln is fc dn row nd) {l i : Nat} (hl : l < ln) (hi : i < is) (hQ : ∀ M', eqM M M' → Q (some (.int (nI (lpO (nxM row i) (whM row i) l)))) M' N (P0 t e) nx) : aSem (d + 4) 177 [.ref 31, .int (nI l), .int (nI i)] M N (P0 t e) nx Q := by
  have c6 := h.2.2.2.2.2.2.1
  unfold wfC at c6
  have hp := nxM_ok h.2.2.2.2.2.2.2.1 c6.1 c6.2.1 hi
  have hok := road_ok (wh := whM row i) hp hl
  simp only [A177, B177_0, false_imp_iff, true_imp_iff, not_false_eq_true, not_true_eq_false, true_and, and_true, implies_true, qn_self, rI_i, rJ_l, rV_n, okZ0, okZ1, o31 hn]
  refine s173 hn h hl hi (fun M1 he1 hk => ?_)
  have hq := hQ M1 he1
  unfold lpO at hq
  have h9 := road_how (nxt := nxM row i) (wh := whM row i) (l := l)
  simp only [false_imp_iff, true_imp_iff, not_false_eq_true, not_true_eq_false, true_and, and_true, implies_true, qn_self, rI_i, rJ_l, rV_n, okZ0, okZ1, o31 hn, hk.2.1, nI_eq (show (road (nxM row i) (whM row i) l).2.1 < 2 ^ 31 by omega) (show 3 < 2 ^ 31 by decide), B177_14, B177_16]
  refine ⟨fun q => ?_, fun q => ?_⟩
  · rw [if_pos q] at hq
    have := (l177 (d := d + 3) (N := N) (t := t) (e := e) (Q := Q) hn hk road_len (fun x hx => by have := hok.2 x hx; omega) (by have := hok.1; omega) (road (nxM row i) (whM row i) l).1 [] 0 0 rfl (by decide) rfl).mpr hq
    exact this
  · rw [if_neg q] at hq; exact hq
end MLO
