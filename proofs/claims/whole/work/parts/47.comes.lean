/-! ROADS: theories, followers -/
section RCO
variable {d : Nat} {M : aM} {N : aN} {t e nx r ln : Nat} {nxt : Nat → Nat} {wh : Nat → Bool} {th la : Nat → Nat} {Q : aQ}
-- comesNear, with the second one or not
theorem s40 (hn : 44 ≤ nx) (hr : isR r) (hR : RD M r ln nxt wh th la) (h6 : ln ≤ 6) (hp : ptOK ln nxt) {l y : Nat} (hl : l < ln) (hy : y < 2) {b : Int32} (hb : b = if y = 1 ∧ wh l = true then nI 1 else nI 0) : aSem (d + 2) 40 [.ref r, .int (nI l), .int b] M N (P0 t e) nx Q ↔ Q (some (.int (nI (plW nxt wh l y)))) M N (P0 t e) nx := by
  have hpl := hp l hl
  have hy24 : ¬ (y = 2 ∨ y = 4) := by omega
  unfold plW
  rw [if_neg hy24]
  simp only [A40, B40_0, false_imp_iff, true_imp_iff, not_false_eq_true, not_true_eq_false, true_and, and_true, implies_true, qn_self, rI_i, rJ_l, rV_n, okZ0, okZ1, oR hn hr, exP (pR0 hr), s33x hn hr hR h6 hl, oI_ng (show nxt l < 2 ^ 31 by omega)]
  by_cases h0 : nxt l = 0
  · simp only [h0, false_imp_iff, true_imp_iff, not_false_eq_true, not_true_eq_false, true_and, and_true, implies_true, qn_self, rI_i, rJ_l, rV_n, okZ0, okZ1, B40_14, if_true]
  · rw [if_neg h0]
    have hb1 : nxt l - 1 < ln := by omega
    have hp2 := hp (nxt l - 1) hb1
    simp only [h0, false_imp_iff, true_imp_iff, not_false_eq_true, not_true_eq_false, true_and, and_true, implies_true, qn_self, rI_i, rJ_l, rV_n, okZ0, okZ1, oI_s (show 0 < nxt l by omega), B40_16, oR hn hr, exP (pR0 hr), s33x hn hr hR h6 hb1]
    by_cases h1 : y = 1 ∧ wh l = true
    · rw [hb, if_pos h1]
      simp only [one0, false_imp_iff, true_imp_iff, not_false_eq_true, not_true_eq_false, true_and, and_true, implies_true, qn_self, rI_i, rJ_l, rV_n, okZ0, okZ1, B40_30, oI_ng (show nxt (nxt l - 1) < 2 ^ 31 by omega)]
      by_cases h2 : nxt (nxt l - 1) = 0
      · simp only [h2, false_imp_iff, true_imp_iff, not_false_eq_true, not_true_eq_false, true_and, and_true, implies_true, qn_self, rI_i, rJ_l, rV_n, okZ0, okZ1, B40_41, B40_42]
        by_cases h3 : nxt l - 1 = l
        · rw [if_pos h3, h3]
        · rw [if_neg h3, if_neg (fun q => q.2.2 rfl)]
      · simp only [h2, false_imp_iff, true_imp_iff, not_false_eq_true, not_true_eq_false, true_and, and_true, implies_true, qn_self, rI_i, rJ_l, rV_n, okZ0, okZ1, B40_36, B40_42, oI_s (show 0 < nxt (nxt l - 1) by omega)]
        by_cases h3 : nxt l - 1 = l
        · rw [if_pos h3, h3, h3]
        · rw [if_neg h3, if_pos ⟨h1.1, h1.2, fun q => h2 q⟩]
    · rw [hb, if_neg h1]
      simp only [eq_true nI_0, false_imp_iff, true_imp_iff, not_false_eq_true, not_true_eq_false, true_and, and_true, implies_true, qn_self, rI_i, rJ_l, rV_n, okZ0, okZ1, B40_41, B40_42]
      by_cases h3 : nxt l - 1 = l
      · rw [if_pos h3, h3]
      · rw [if_neg h3, if_neg (fun q => h1 ⟨q.1, q.2.1⟩)]
-- comesTo behind its loop
theorem e101 (hn : 44 ≤ nx) (hr : isR r) (hR : RD M r ln nxt wh th la) (h6 : ln ≤ 6) (hp : ptOK ln nxt) {a y : Nat} (ha : a < ln) (hy : y ≤ 4) (hy3 : y ≠ 3) (hQ : ∀ M', eqW r M M' → Q (some (.int (nI (plW nxt wh a y)))) M' N (P0 t e) nx) : WP (aSem (d + 2)) g0 39 nx (qn nx Q) 101 [(0, .ref r), (4, .int (nI a)), (5, .int (nI y))] [] M N (P0 t e) nx := by
  have e0 : (nI y = 0) ↔ y = 0 := by rw [← nI_0]; exact nI_eq (by omega) (by decide)
  have e1 : (nI y = nI 1) ↔ y = 1 := nI_eq (by omega) (by decide)
  have e2 : (nI y = nI 2) ↔ y = 2 := nI_eq (by omega) (by decide)
  rcases (show y = 0 ∨ y = 1 ∨ y = 2 ∨ y = 4 by omega) with rfl | rfl | rfl | rfl
  · simp only [B39_101, B39_112, B39_134, B39_135, false_imp_iff, true_imp_iff, not_false_eq_true, not_true_eq_false, true_and, and_true, implies_true, qn_self, rI_i, rJ_l, rV_n, okZ0, okZ1, e0, e1, oR hn hr, show ¬ (0 : Nat) = 1 by decide, s40 hn hr hR h6 hp ha (show 0 < 2 by decide) (b := nI 0) rfl]
    exact hQ M eqW.rf
  · simp only [B39_101, B39_106, B39_112, false_imp_iff, true_imp_iff, not_false_eq_true, not_true_eq_false, true_and, and_true, implies_true, qn_self, rI_i, rJ_l, rV_n, okZ0, okZ1, e0, e1, show ¬ (1 : Nat) = 0 by decide]
    simp only [B39_121, false_imp_iff, true_imp_iff, not_false_eq_true, not_true_eq_false, true_and, and_true, implies_true, qn_self, rI_i, rJ_l, rV_n, okZ0, okZ1, oR hn hr, s34 hn hr hR h6 ha]
    by_cases hw : wh a = true
    · simp only [hw, if_true, one0, false_imp_iff, true_imp_iff, not_false_eq_true, not_true_eq_false, true_and, and_true, implies_true, qn_self, rI_i, rJ_l, rV_n, okZ0, okZ1, B39_130, B39_135, oR hn hr, s40 hn hr hR h6 hp ha (show 1 < 2 by decide) (b := nI 1) (by rw [if_pos ⟨rfl, hw⟩])]
      exact hQ M eqW.rf
    · simp only [hw, if_false, eq_true nI_0, Bool.false_eq_true, false_imp_iff, true_imp_iff, not_false_eq_true, not_true_eq_false, true_and, and_true, implies_true, qn_self, rI_i, rJ_l, rV_n, okZ0, okZ1, B39_134, B39_135, oR hn hr, s40 hn hr hR h6 hp ha (show 1 < 2 by decide) (b := nI 0) (by rw [if_neg (fun q => hw q.2)])]
      exact hQ M eqW.rf
  · simp only [B39_101, B39_106, B39_139, false_imp_iff, true_imp_iff, not_false_eq_true, not_true_eq_false, true_and, and_true, implies_true, qn_self, rI_i, rJ_l, rV_n, okZ0, okZ1, e0, e1, oR hn hr, show ¬ (2 : Nat) = 0 by decide, show ¬ (2 : Nat) = 1 by decide]
    refine s35 hn hr hR h6 hp ha (fun M' he hR' hk => ?_)
    have hq := hQ M' he
    unfold plW at hq
    rw [if_pos (Or.inl rfl), if_neg (fun q => absurd q.1 (by decide))] at hq
    simp only [false_imp_iff, true_imp_iff, not_false_eq_true, not_true_eq_false, true_and, and_true, implies_true, qn_self, rI_i, rJ_l, rV_n, okZ0, okZ1, oR hn hr, B39_153, B39_164, B39_168, hk.2.2.1]
    exact ⟨fun _ => hq, fun _ => hq⟩
  · simp only [B39_101, B39_106, B39_139, false_imp_iff, true_imp_iff, not_false_eq_true, not_true_eq_false, true_and, and_true, implies_true, qn_self, rI_i, rJ_l, rV_n, okZ0, okZ1, e0, e1, oR hn hr, show ¬ (4 : Nat) = 0 by decide, show ¬ (4 : Nat) = 1 by decide]
    refine s35 hn hr hR h6 hp ha (fun M' he hR' hk => ?_)
    have hq := hQ M' he
    unfold plW at hq
    rw [if_pos (Or.inr rfl)] at hq
    have h9 : (road nxt wh a).2.1 < 2 ^ 31 := by
      have : ∀ n p a, (rdW nxt wh n p a).2.1 ≤ 9 := by
        intro n
        induction n with
        | zero => intro p a; exact Nat.le_refl _
        | succ n ih =>
          intro p a
          unfold rdW
          split
          · exact Nat.zero_le _
          · split
            · show 1 ≤ 9; decide
            · split
              · show 2 ≤ 9; decide
              · split
                · show 3 ≤ 9; decide
                · exact ih _ _
      have h := this 6 [a] a
      unfold road
      omega
    simp only [false_imp_iff, true_imp_iff, not_false_eq_true, not_true_eq_false, true_and, and_true, implies_true, qn_self, rI_i, rJ_l, rV_n, okZ0, okZ1, oR hn hr, B39_153, B39_159, B39_164, B39_168, hk.2.1, hk.2.2.1, e2, show ¬ (4 : Nat) = 2 by decide, nI_eq h9 (show 3 < 2 ^ 31 by decide)]
    refine ⟨fun h => ?_, fun h => ?_⟩
    · rw [if_neg (fun q => h q.2)] at hq; exact hq
    · rw [if_pos ⟨rfl, h⟩] at hq; exact hq
theorem l39 (hn : 44 ≤ nx) (hr : isR r) (hR : RD M r ln nxt wh th la) (h6 : ln ≤ 6) (hp : ptOK ln nxt) (ht : ∀ l, l < ln → th l ≤ 4) {z : Nat} (hQ : ∀ M', eqW r M M' → Q (some (.int (nI z))) M' N (P0 t e) nx) : ∀ n S a y w, S.length + n = 6 → 0 < n → (a :: S).Nodup → (∀ x ∈ a :: S, x < ln) → y ≤ 4 → BS w (fun x => x ∈ S) → cbW nxt wh th n (a :: S) a y = z → WP (aSem (d + 2)) g0 39 nx (qn nx Q) 11 [(0, .ref r), (3, .int (nI w)), (4, .int (nI a)), (5, .int (nI y)), (6, .int (nI (6 - n)))] [] M N (P0 t e) nx := by
  intro n
  induction n with
  | zero => intro S a y w _ h; exact absurd h (by omega)
  | succ n ih =>
    intro S a y w hl h0 hd ha hy hw hz
    have hal : a < ln := ha a List.mem_cons_self
    have hpa := hp a hal
    unfold cbW at hz
    simp only [B39_11, B39_18, false_imp_iff, true_imp_iff, not_false_eq_true, not_true_eq_false, true_and, and_true, implies_true, qn_self, rI_i, rJ_l, rV_n, okZ0, okZ1, nI_ge (show 6 - (n + 1) < 6 by omega) (show 6 < 2 ^ 31 by decide), nI_eq (show y < 2 ^ 31 by omega) (show 3 < 2 ^ 31 by decide)]
    refine ⟨fun h3 => ?_, fun h3 => ?_⟩
    · rw [if_neg h3] at hz
      exact e101 hn hr hR h6 hp hal hy h3 (fun M' he => by rw [hz]; exact hQ M' he)
    · rw [if_pos h3] at hz
      have hw1 : BS (w ||| 2 ^ a) (fun x => x ∈ a :: S) := (hw.or (by omega)).cg (fun j _ => by simp [or_comm])
      simp only [B39_24, false_imp_iff, true_imp_iff, not_false_eq_true, not_true_eq_false, true_and, and_true, implies_true, qn_self, rI_i, rJ_l, rV_n, okZ0, okZ1, oR hn hr, exP (pR0 hr), s33x hn hr hR h6 hal, oI_ng (show nxt a < 2 ^ 31 by omega), or64 a (by omega) w hw.1]
      refine ⟨fun hc => ?_, fun hc => ?_⟩
      · rw [if_pos hc] at hz
        simp only [B39_55, false_imp_iff, true_imp_iff, not_false_eq_true, not_true_eq_false, true_and, and_true, implies_true, qn_self, rI_i, rJ_l, rV_n, okZ0, okZ1]
        rw [hz]; exact hQ M eqW.rf
      · rw [if_neg hc] at hz
        simp only [oI_s (show 0 < nxt a by omega), B39_48, nI_eq (show nxt a - 1 < 2 ^ 31 by omega) (show a < 2 ^ 31 by omega)]
        refine ⟨fun h1 => ?_, fun h1 => ?_⟩
        · rw [if_neg h1] at hz
          have hbt := hw1.2 (nxt a - 1) (by omega)
          simp only [B39_58, false_imp_iff, true_imp_iff, not_false_eq_true, not_true_eq_false, true_and, and_true, implies_true, qn_self, rI_i, rJ_l, rV_n, okZ0, okZ1, oR hn hr, s34 hn hr hR h6 hal]
          by_cases h2 : wh a = true
          · simp only [h2, if_true, one0, false_imp_iff, true_imp_iff, not_false_eq_true, not_true_eq_false, true_and, and_true, implies_true, qn_self, rI_i, rJ_l, rV_n, okZ0, okZ1, B39_67, bt64 (nxt a - 1) (by omega) (w ||| 2 ^ a) hw1.1, hbt]
            refine ⟨fun h4 => ?_, fun h4 => ?_⟩
            · rw [if_neg (fun q => q.elim (fun q => by rw [h2] at q; cases q) h4)] at hz
              have hd2 : ((nxt a - 1) :: a :: S).Nodup := List.nodup_cons.mpr ⟨h4, hd⟩
              have ha2 : ∀ x ∈ (nxt a - 1) :: a :: S, x < ln := by
                intro x hx
                rcases List.mem_cons.mp hx with q | q
                · rw [q]; omega
                · exact ha x q
              have hlen := nodup_len 6 _ hd2 (fun x hx => by have := ha2 x hx; omega)
              simp only [List.length_cons] at hlen
              simp only [B39_80, false_imp_iff, true_imp_iff, not_false_eq_true, not_true_eq_false, true_and, and_true, implies_true, qn_self, rI_i, rJ_l, rV_n, okZ0, okZ1, oR hn hr, exP (pR1 hr), s33t hn hr hR h6 (show nxt a - 1 < ln by omega), nI_add]
              have := ih (a :: S) (nxt a - 1) (th (nxt a - 1)) (w ||| 2 ^ a) (by rw [List.length_cons]; omega) (by omega) hd2 ha2 (ht _ (by omega)) hw1 hz
              rw [show 6 - (n + 1) + 1 = 6 - n by omega]
              exact this
            · rw [if_pos (Or.inr h4)] at hz
              simp only [B39_77, false_imp_iff, true_imp_iff, not_false_eq_true, not_true_eq_false, true_and, and_true, implies_true, qn_self, rI_i, rJ_l, rV_n, okZ0, okZ1]
              rw [hz]; exact hQ M eqW.rf
          · have h2f : wh a = false := by simpa using h2
            rw [if_pos (Or.inl h2f)] at hz
            simp only [h2f, Bool.false_eq_true, if_false, eq_true nI_0, false_imp_iff, true_imp_iff, not_false_eq_true, not_true_eq_false, true_and, and_true, implies_true, qn_self, rI_i, rJ_l, rV_n, okZ0, okZ1, B39_77]
            rw [hz]; exact hQ M eqW.rf
        · rw [if_pos h1] at hz
          simp only [B39_55, false_imp_iff, true_imp_iff, not_false_eq_true, not_true_eq_false, true_and, and_true, implies_true, qn_self, rI_i, rJ_l, rV_n, okZ0, okZ1]
          rw [hz]; exact hQ M eqW.rf
theorem s39 (hn : 44 ≤ nx) (hr : isR r) (hR : RD M r ln nxt wh th la) (h6 : ln ≤ 6) (hp : ptOK ln nxt) (ht : ∀ l, l < ln → th l ≤ 4) {l y : Nat} (hl : l < ln) (hy : y ≤ 4) (hQ : ∀ M', eqW r M M' → RD M' r ln nxt wh th la → Q (some (.int (nI (comesM nxt wh th l y)))) M' N (P0 t e) nx) : aSem (d + 3) 39 [.ref r, .int (nI l), .int (nI y)] M N (P0 t e) nx Q := by
  simp only [A39, B39_0]
  exact l39 hn hr hR h6 hp ht (z := comesM nxt wh th l y) (fun M' he => hQ M' he (hR.w he)) 6 [] l y 0 rfl (by decide) (by simp) (fun x hx => by simp at hx; omega) hy (BS.z.cg (fun j _ => by simp)) rfl
theorem s41 (hn : 44 ≤ nx) (hr : isR r) (hR : RD M r ln nxt wh th la) (h6 : ln ≤ 6) (hp : ptOK ln nxt) (ht : ∀ l, l < ln → th l ≤ 4) {l : Nat} (hl : l < ln) (hQ : ∀ M', eqW r M M' → RD M' r ln nxt wh th la → Q (some (.int (nI (ownM nxt wh th l)))) M' N (P0 t e) nx) : aSem (d + 4) 41 [.ref r, .int (nI l)] M N (P0 t e) nx Q := by
  simp only [A41, B41_0, false_imp_iff, true_imp_iff, not_false_eq_true, not_true_eq_false, true_and, and_true, implies_true, qn_self, rI_i, rJ_l, rV_n, okZ0, okZ1, oR hn hr, exP (pR1 hr), s33t hn hr hR h6 hl]
  refine s39 hn hr hR h6 hp ht hl (ht l hl) (fun M' he hR' => ?_)
  simp only [false_imp_iff, true_imp_iff, not_false_eq_true, not_true_eq_false, true_and, and_true, implies_true, qn_self, rI_i, rJ_l, rV_n, okZ0, okZ1]
  exact hQ M' he hR'
theorem s42 (hn : 44 ≤ nx) (hr : isR r) (hR : RD M r ln nxt wh th la) (h6 : ln ≤ 6) (hp : ptOK ln nxt) (ht : ∀ l, l < ln → th l ≤ 4) {l : Nat} (hl : l < ln) (hQ : ∀ M', eqW r M M' → RD M' r ln nxt wh th la → Q (some (.int (nI (la (ownM nxt wh th l))))) M' N (P0 t e) nx) : aSem (d + 5) 42 [.ref r, .int (nI l)] M N (P0 t e) nx Q := by
  simp only [A42, B42_0, false_imp_iff, true_imp_iff, not_false_eq_true, not_true_eq_false, true_and, and_true, implies_true, qn_self, rI_i, rJ_l, rV_n, okZ0, okZ1, oR hn hr, exP (pR2 hr)]
  refine s41 hn hr hR h6 hp ht hl (fun M' he hR' => ?_)
  simp only [false_imp_iff, true_imp_iff, not_false_eq_true, not_true_eq_false, true_and, and_true, implies_true, qn_self, rI_i, rJ_l, rV_n, okZ0, okZ1, s33l hn hr hR' h6 (show ownM nxt wh th l < ln from comesM_lt hp hl)]
  exact hQ M' he hR'
theorem l43 (hn : 44 ≤ nx) (hr : isR r) (h6 : ln ≤ 6) (hp : ptOK ln nxt) (ht : ∀ l, l < ln → th l ≤ 4) {l z : Nat} (hl : l < ln) (hQ : ∀ M', eqW r M M' → RD M' r ln nxt wh th la → Q (some (.int (nI z))) M' N (P0 t e) nx) : ∀ n i c M', i + n = ln → eqW r M M' → RD M' r ln nxt wh th la → c + cntF (fun x => ownM nxt wh th x == l) i n = z → WP (aSem (d + 4)) g0 43 nx (qn nx Q) 4 [(0, .ref r), (1, .int (nI l)), (2, .int (nI c)), (3, .int (nI i))] [] M' N (P0 t e) nx := by
  intro n
  induction n with
  | zero =>
    intro i c M' hi he hR hz
    simp only [B43_4, B43_30, false_imp_iff, true_imp_iff, not_false_eq_true, not_true_eq_false, true_and, and_true, implies_true, qn_self, rI_i, rJ_l, rV_n, okZ0, okZ1, oR hn hr, hR.1, nI_le (show ln ≤ i by omega) (show i < 2 ^ 31 by omega)]
    have := hQ M' he hR
    rw [← hz] at this
    exact this
  | succ n ih =>
    intro i c M' hi he hR hz
    simp only [B43_4, false_imp_iff, true_imp_iff, not_false_eq_true, not_true_eq_false, true_and, and_true, implies_true, qn_self, rI_i, rJ_l, rV_n, okZ0, okZ1, oR hn hr, hR.1, nI_ge (show i < ln by omega) (show ln < 2 ^ 31 by omega)]
    simp only [B43_12, false_imp_iff, true_imp_iff, not_false_eq_true, not_true_eq_false, true_and, and_true, implies_true, qn_self, rI_i, rJ_l, rV_n, okZ0, okZ1, oR hn hr]
    refine s41 hn hr hR h6 hp ht (show i < ln by omega) (fun M2 he2 hR2 => ?_)
    have hlt : ownM nxt wh th i < ln := comesM_lt hp (by omega)
    simp only [false_imp_iff, true_imp_iff, not_false_eq_true, not_true_eq_false, true_and, and_true, implies_true, qn_self, rI_i, rJ_l, rV_n, okZ0, okZ1, nI_eq (show ownM nxt wh th i < 2 ^ 31 by omega) (show l < 2 ^ 31 by omega), B43_21, B43_24, nI_add]
    unfold cntF at hz
    refine ⟨fun h => ?_, fun h => ?_⟩
    · rw [if_neg (by simpa using h), Nat.zero_add] at hz
      exact ih (i + 1) c M2 (by omega) (he.tr he2) hR2 hz
    · rw [if_pos (by simpa using h), ← Nat.add_assoc] at hz
      exact ih (i + 1) (c + 1) M2 (by omega) (he.tr he2) hR2 hz
theorem s43 (hn : 44 ≤ nx) (hr : isR r) (hR : RD M r ln nxt wh th la) (h6 : ln ≤ 6) (hp : ptOK ln nxt) (ht : ∀ l, l < ln → th l ≤ 4) {l : Nat} (hl : l < ln) (hQ : ∀ M', eqW r M M' → RD M' r ln nxt wh th la → Q (some (.int (nI (cntF (fun x => ownM nxt wh th x == l) 0 ln)))) M' N (P0 t e) nx) : aSem (d + 5) 43 [.ref r, .int (nI l)] M N (P0 t e) nx Q := by
  simp only [A43, B43_0]
  exact l43 hn hr h6 hp ht hl hQ ln 0 0 M (by omega) eqW.rf hR (by omega)
theorem l44 (hn : 44 ≤ nx) (hr : isR r) (h6 : ln ≤ 6) (hp : ptOK ln nxt) (ht : ∀ l, l < ln → th l ≤ 4) (hla : ∀ l, l < ln → la l ≤ 99) {z : Nat} (hQ : ∀ M', eqW r M M' → RD M' r ln nxt wh th la → Q (some (.int (nI z))) M' N (P0 t e) nx) : ∀ n i c M', i + n = ln → c < 2 ^ i → eqW r M M' → RD M' r ln nxt wh th la → c + bitF (fun x => !(la (ownM nxt wh th x) == 0)) i n = z → WP (aSem (d + 4)) g0 44 nx (qn nx Q) 4 [(0, .ref r), (1, .int (nI c)), (2, .int (nI i))] [] M' N (P0 t e) nx := by
  intro n
  induction n with
  | zero =>
    intro i c M' hi hc he hR hz
    simp only [B44_4, B44_49, false_imp_iff, true_imp_iff, not_false_eq_true, not_true_eq_false, true_and, and_true, implies_true, qn_self, rI_i, rJ_l, rV_n, okZ0, okZ1, oR hn hr, hR.1, nI_le (show ln ≤ i by omega) (show i < 2 ^ 31 by omega)]
    have := hQ M' he hR
    rw [← hz] at this
    exact this
  | succ n ih =>
    intro i c M' hi hc he hR hz
    simp only [B44_4, false_imp_iff, true_imp_iff, not_false_eq_true, not_true_eq_false, true_and, and_true, implies_true, qn_self, rI_i, rJ_l, rV_n, okZ0, okZ1, oR hn hr, hR.1, nI_ge (show i < ln by omega) (show ln < 2 ^ 31 by omega)]
    simp only [B44_12, false_imp_iff, true_imp_iff, not_false_eq_true, not_true_eq_false, true_and, and_true, implies_true, qn_self, rI_i, rJ_l, rV_n, okZ0, okZ1, oR hn hr, exP (pR1 hr), s33t hn hr hR h6 (show i < ln by omega)]
    refine s39 hn hr hR h6 hp ht (show i < ln by omega) (ht i (by omega)) (fun M2 he2 hR2 => ?_)
    have hlt : comesM nxt wh th i (th i) < ln := comesM_lt hp (by omega)
    have hl9 := hla _ hlt
    have hpw : 2 ^ (i + 1) = 2 * 2 ^ i := by rw [Nat.pow_succ]; omega
    have e0 : (nI (la (comesM nxt wh th i (th i))) ≤ 0) ↔ la (comesM nxt wh th i (th i)) = 0 := by
      rw [← nI_0, nI_leI (by omega) (by decide)]; omega
    simp only [false_imp_iff, true_imp_iff, not_false_eq_true, not_true_eq_false, true_and, and_true, implies_true, qn_self, rI_i, rJ_l, rV_n, okZ0, okZ1, oR hn hr, exP (pR2 hr), s33l hn hr hR2 h6 hlt, e0, B44_37, B44_43, nI_add, or6 i (by omega) c hc]
    unfold bitF at hz
    refine ⟨fun h => ?_, fun h => ?_⟩
    · rw [if_neg (by show ¬ (!(la (comesM nxt wh th i (th i)) == 0)) = true; simp [h]), Nat.zero_add] at hz
      exact ih (i + 1) c M2 (by omega) (by omega) (he.tr he2) hR2 hz
    · rw [if_pos (by show (!(la (comesM nxt wh th i (th i)) == 0)) = true; simp [h]), ← Nat.add_assoc] at hz
      exact ih (i + 1) (c + 2 ^ i) M2 (by omega) (by omega) (he.tr he2) hR2 hz
theorem s44 (hn : 44 ≤ nx) (hr : isR r) (hR : RD M r ln nxt wh th la) (h6 : ln ≤ 6) (hp : ptOK ln nxt) (ht : ∀ l, l < ln → th l ≤ 4) (hla : ∀ l, l < ln → la l ≤ 99) (hQ : ∀ M', eqW r M M' → RD M' r ln nxt wh th la → Q (some (.int (nI (bitF (fun x => !(la (ownM nxt wh th x) == 0)) 0 ln)))) M' N (P0 t e) nx) : aSem (d + 5) 44 [.ref r] M N (P0 t e) nx Q := by
  simp only [A44, B44_0]
  exact l44 hn hr h6 hp ht hla hQ ln 0 0 M (by omega) (by decide) eqW.rf hR (by omega)
end RCO
