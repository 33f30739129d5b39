/-! ROADS -/
def RD (M : aM) (r ln : Nat) (nxt : Nat → Nat) (wh : Nat → Bool) (th la : Nat → Nat) : Prop :=
  M r 4 = nI ln ∧ (∀ l, l < 6 → M (r + 1) l = if l < ln then oI (nxt l) else ng1) ∧ (∀ l, l < ln → M (r + 2) l = nI (th l)) ∧ (∀ l, l < ln → M (r + 3) l = nI (la l)) ∧ ∃ w, M r 5 = nI w ∧ BS w (fun l => l < ln ∧ wh l = true)
/-- a walk changes length, how, end and the steps alone -/
def eqW (r : Nat) (M M' : aM) : Prop := (∀ a, a ≠ r → a ≠ r + 4 → M' a = M a) ∧ ∀ k, k ≠ 6 → k ≠ 7 → k ≠ 8 → M' r k = M r k
theorem eqW.rf {r : Nat} {M : aM} : eqW r M M := ⟨fun _ _ _ => rfl, fun _ _ _ _ => rfl⟩
theorem eqW.tr {r : Nat} {M M' M'' : aM} (h : eqW r M M') (h' : eqW r M' M'') : eqW r M M'' := ⟨fun a x y => (h'.1 a x y).trans (h.1 a x y), fun k x y z => (h'.2 k x y z).trans (h.2 k x y z)⟩
theorem uM_k {M : aM} {a k : Nat} {v : Int32} : uM M a k v a k = v := by rw [uM_eq, up_eq]
theorem uM_j {M : aM} {a k j : Nat} {v : Int32} (h : j ≠ k) : uM M a k v a j = M a j := by rw [uM_eq, up_ne h]
theorem uM_a {M : aM} {a k b j : Nat} {v : Int32} (h : b ≠ a) : uM M a k v b j = M b j := by rw [uM_ne h]
theorem eqW.u6 {r : Nat} {M M' : aM} {v : Int32} (h : eqW r M M') : eqW r M (uM M' r 6 v) := ⟨fun a x y => by rw [uM_ne x]; exact h.1 a x y, fun k x y z => by rw [uM_j x]; exact h.2 k x y z⟩
theorem eqW.u7 {r : Nat} {M M' : aM} {v : Int32} (h : eqW r M M') : eqW r M (uM M' r 7 v) := ⟨fun a x y => by rw [uM_ne x]; exact h.1 a x y, fun k x y z => by rw [uM_j y]; exact h.2 k x y z⟩
theorem eqW.u8 {r : Nat} {M M' : aM} {v : Int32} (h : eqW r M M') : eqW r M (uM M' r 8 v) := ⟨fun a x y => by rw [uM_ne x]; exact h.1 a x y, fun k x y z => by rw [uM_j z]; exact h.2 k x y z⟩
theorem eqW.us {r k : Nat} {M M' : aM} {v : Int32} (h : eqW r M M') : eqW r M (uM M' (r + 4) k v) := ⟨fun a x y => by rw [uM_ne y]; exact h.1 a x y, fun j x y z => by rw [uM_a (by omega)]; exact h.2 j x y z⟩
theorem RD.w {r ln : Nat} {nxt : Nat → Nat} {wh : Nat → Bool} {th la : Nat → Nat} {M M' : aM} (h : RD M r ln nxt wh th la) (he : eqW r M M') : RD M' r ln nxt wh th la := by
  unfold RD
  rw [he.2 4 (by decide) (by decide) (by decide), he.2 5 (by decide) (by decide) (by decide), he.1 (r + 1) (by omega) (by omega), he.1 (r + 2) (by omega) (by omega), he.1 (r + 3) (by omega) (by omega)]
  exact h
section RDS
variable {d : Nat} {M : aM} {N : aN} {t e nx r ln : Nat} {nxt : Nat → Nat} {wh : Nat → Bool} {th la : Nat → Nat} {Q : aQ}
theorem xR4 (hn : 44 ≤ nx) (hr : isR r) {K : Nat} {R : Nat → Prop} (h : K < 7) : (∃ k, okA nx (r + 4) 1 (nI K) k ∧ R k) ↔ R K := exA (kR4 hr) (by have := lR hr; omega) (by decide) h
theorem s33 {P : aP} {a m k : Nat} (hk : kindOf a = (1, m)) (ha : a < nx) (hm : m ≤ 1068) (h : k < m) : aSem (d + 1) 33 [.ref a, .int (nI k)] M N P nx Q ↔ Q (some (.int (M a k))) M N P nx := by
  simp only [A33, B33_0, B33_4, B33_10, B33_16, B33_17, false_imp_iff, true_imp_iff, not_false_eq_true, not_true_eq_false, true_and, and_true, implies_true, qn_self, rI_i, rJ_l, rV_n, okZ0, okZ1, hk, ha, nI_pos (show k < 2 ^ 31 by omega), nI_ge h (show m < 2 ^ 31 by omega), exA hk ha hm h]
theorem s33n {P : aP} {a m : Nat} {x : Int32} (hk : kindOf a = (1, m)) (ha : a < nx) (hm : m ≤ 1068) (h : ¬ vl x m) : aSem (d + 1) 33 [.ref a, .int x] M N P nx Q ↔ Q (some (.int ng1)) M N P nx := by
  by_cases h0 : x < 0
  · simp only [A33, B33_0, B33_4, B33_10, B33_16, B33_17, false_imp_iff, true_imp_iff, not_false_eq_true, not_true_eq_false, true_and, and_true, implies_true, qn_self, rI_i, rJ_l, rV_n, okZ0, okZ1, h0]
  · simp only [A33, B33_0, B33_4, B33_10, B33_16, B33_17, false_imp_iff, true_imp_iff, not_false_eq_true, not_true_eq_false, true_and, and_true, implies_true, qn_self, rI_i, rJ_l, rV_n, okZ0, okZ1, hk, ha, h0, vl_lt0 h (show m < 2 ^ 31 by omega) h0]
theorem s34 (hn : 44 ≤ nx) (hr : isR r) (hR : RD M r ln nxt wh th la) (h6 : ln ≤ 6) {l : Nat} (hl : l < ln) : aSem (d + 1) 34 [.ref r, .int (nI l)] M N (P0 t e) nx Q ↔ Q (some (.int (if wh l = true then nI 1 else nI 0))) M N (P0 t e) nx := by
  obtain ⟨w, hw, hb⟩ := hR.2.2.2.2
  have hb2 := hb.2 l (by omega)
  by_cases h : wh l = true
  · simp only [A34, B34_0, B34_12, B34_16, B34_17, false_imp_iff, true_imp_iff, not_false_eq_true, not_true_eq_false, true_and, and_true, implies_true, qn_self, rI_i, rJ_l, rV_n, okZ0, okZ1, oR hn hr, hw, bt64 l (by omega) w hb.1, hb2, hl, h, if_true]
  · simp only [A34, B34_0, B34_12, B34_16, B34_17, false_imp_iff, true_imp_iff, not_false_eq_true, not_true_eq_false, true_and, and_true, implies_true, qn_self, rI_i, rJ_l, rV_n, okZ0, okZ1, oR hn hr, hw, bt64 l (by omega) w hb.1, hb2, hl, h, Bool.false_eq_true, if_false]
theorem RD.nxv (hR : RD M r ln nxt wh th la) (h6 : ln ≤ 6) {l : Nat} (hl : l < ln) : M (r + 1) l = oI (nxt l) := by rw [hR.2.1 l (by omega), if_pos hl]
theorem s33x (hn : 44 ≤ nx) (hr : isR r) (hR : RD M r ln nxt wh th la) (h6 : ln ≤ 6) {l : Nat} (hl : l < ln) : aSem (d + 1) 33 [.ref (r + 1), .int (nI l)] M N (P0 t e) nx Q ↔ Q (some (.int (oI (nxt l)))) M N (P0 t e) nx := by
  rw [s33 (kR1 hr) (by have := lR hr; omega) (by decide) (show l < 6 by omega), hR.nxv h6 hl]
theorem s33t (hn : 44 ≤ nx) (hr : isR r) (hR : RD M r ln nxt wh th la) (h6 : ln ≤ 6) {l : Nat} (hl : l < ln) : aSem (d + 1) 33 [.ref (r + 2), .int (nI l)] M N (P0 t e) nx Q ↔ Q (some (.int (nI (th l)))) M N (P0 t e) nx := by
  rw [s33 (kR2 hr) (by have := lR hr; omega) (by decide) (show l < 6 by omega), hR.2.2.1 l hl]
theorem s33l (hn : 44 ≤ nx) (hr : isR r) (hR : RD M r ln nxt wh th la) (h6 : ln ≤ 6) {l : Nat} (hl : l < ln) : aSem (d + 1) 33 [.ref (r + 3), .int (nI l)] M N (P0 t e) nx Q ↔ Q (some (.int (nI (la l)))) M N (P0 t e) nx := by
  rw [s33 (kR3 hr) (by have := lR hr; omega) (by decide) (show l < 6 by omega), hR.2.2.2.1 l hl]
-- walk
/-- what a walk leaves -/
def wkM (M : aM) (r : Nat) (z : List Nat × Nat × Nat) : Prop := M r 6 = nI z.1.length ∧ M r 7 = nI z.2.1 ∧ M r 8 = nI z.2.2 ∧ ∀ k, k < z.1.length → M (r + 4) k = nI (z.1.getD k 0)
theorem getD_app {p : List Nat} {a k : Nat} (h : k < (p ++ [a]).length) : (p ++ [a]).getD k 0 = if k < p.length then p.getD k 0 else a := by
  rw [List.length_append, List.length_singleton] at h
  rw [List.getD_eq_getElem?_getD]
  by_cases hk : k < p.length
  · rw [if_pos hk, List.getElem?_append_left hk, List.getD_eq_getElem?_getD]
  · rw [if_neg hk, List.getElem?_append_right (by omega), show k - p.length = 0 by omega]
    rfl
theorem e17 (hn : 44 ≤ nx) (hr : isR r) {M2 : aM} {x : Int32} {h : Nat} (hh : M2 r 7 = nI h) (h9 : h < 10) : WP (aSem (d + 1)) g0 35 nx (qn nx Q) 17 [(0, .ref r), (2, .int x)] [] M2 N (P0 t e) nx ↔ Q none M2 N (P0 t e) nx := by
  simp only [B35_17, B35_180, false_imp_iff, true_imp_iff, not_false_eq_true, not_true_eq_false, true_and, and_true, implies_true, qn_self, rI_i, rJ_l, rV_n, okZ0, okZ1, oR hn hr, hh, nI_ng1 (show h < 2 ^ 31 by omega)]
theorem l35 (hn : 44 ≤ nx) (hr : isR r) (h6 : ln ≤ 6) (hp : ptOK ln nxt) {z : List Nat × Nat × Nat} (hQ : ∀ M', eqW r M M' → wkM M' r z → Q none M' N (P0 t e) nx) :
    ∀ n p a w M', p.length + n = 6 → 0 < n → (p ++ [a]).Nodup → (∀ x ∈ p ++ [a], x < ln) → RD M' r ln nxt wh th la → eqW r M M' → M' r 6 = nI p.length → M' r 7 = ng1 → M' r 8 = nI a → (∀ k, k < p.length → M' (r + 4) k = nI (p.getD k 0)) → BS w (fun x => x ∈ p) → rdW nxt wh n (p ++ [a]) a = z →
    WP (aSem (d + 1)) g0 35 nx (qn nx Q) 17 [(0, .ref r), (2, .int (nI w))] [] M' N (P0 t e) nx := by
  intro n
  induction n with
  | zero => intro p a w M' _ h; exact absurd h (by omega)
  | succ n ih =>
    intro p a w M' hl h0 hd ha hR he e6 e7 e8 e4 hw hz
    have hal : a < ln := ha a (by simp)
    have hpa := hp a hal
    have hl22 := lR hr
    -- the iteration's memory
    obtain ⟨M1, hM1⟩ : ∃ M1, M1 = uM (uM M' (r + 4) p.length (nI a)) r 6 (nI (p.length + 1)) := ⟨_, rfl⟩
    have he1 : eqW r M M1 := by rw [hM1]; exact he.us.u6
    have hR1 : RD M1 r ln nxt wh th la := by
      rw [hM1]
      exact hR.w ((eqW.us eqW.rf).u6)
    have f6 : M1 r 6 = nI (p.length + 1) := by rw [hM1, uM_k]
    have f7 : M1 r 7 = ng1 := by rw [hM1, uM_j (by decide), uM_a (by omega)]; exact e7
    have f8 : M1 r 8 = nI a := by rw [hM1, uM_j (by decide), uM_a (by omega)]; exact e8
    have f4 : ∀ k, k < (p ++ [a]).length → M1 (r + 4) k = nI ((p ++ [a]).getD k 0) := by
      intro k hk
      rw [getD_app hk, hM1, uM_a (by omega)]
      by_cases hk2 : k < p.length
      · rw [if_pos hk2, uM_j (by omega)]; exact e4 k hk2
      · rw [if_neg hk2]
        rw [List.length_append, List.length_singleton] at hk
        rw [show k = p.length by omega, uM_k]
    have hw1 : BS (w ||| 2 ^ a) (fun x => x ∈ p ++ [a]) := (hw.or (by omega)).cg (fun j _ => by simp)
    have len1 : (p ++ [a]).length = p.length + 1 := by simp
    -- the end of the iteration, at 160
    have e160 : ∀ (M2 : aM) (v : Int32), WP (aSem (d + 1)) g0 35 nx (qn nx Q) 17 [(0, .ref r), (2, .int (nI (w ||| 2 ^ a)))] [] (uM M2 r 8 (if v = ng1 then M2 r 8 else v)) N (P0 t e) nx → WP (aSem (d + 1)) g0 35 nx (qn nx Q) 160 [(0, .ref r), (2, .int (nI (w ||| 2 ^ a))), (3, .int v)] [] M2 N (P0 t e) nx := by
      intro M2 v h
      by_cases hv : v = ng1
      · rw [if_pos hv] at h
        simp only [B35_160, B35_166, B35_174, false_imp_iff, true_imp_iff, not_false_eq_true, not_true_eq_false, true_and, and_true, implies_true, qn_self, rI_i, rJ_l, rV_n, okZ0, okZ1, oR hn hr, hv]
        exact h
      · rw [if_neg hv] at h
        simp only [B35_160, B35_173, B35_174, false_imp_iff, true_imp_iff, not_false_eq_true, not_true_eq_false, true_and, and_true, implies_true, qn_self, rI_i, rJ_l, rV_n, okZ0, okZ1, oR hn hr, hv]
        exact h
    simp only [B35_17, false_imp_iff, true_imp_iff, not_false_eq_true, not_true_eq_false, true_and, and_true, implies_true, qn_self, rI_i, rJ_l, rV_n, okZ0, okZ1, oR hn hr, e7]
    simp only [B35_25, B35_34, false_imp_iff, true_imp_iff, not_false_eq_true, not_true_eq_false, true_and, and_true, implies_true, qn_self, rI_i, rJ_l, rV_n, okZ0, okZ1, oR hn hr, e6, e8, nI_ge (show p.length < 6 by omega) (show 6 < 2 ^ 31 by decide), exP (pR3 hr), xR4 hn hr (show p.length < 7 by omega), uM_a (show r ≠ r + 4 by omega), nI_add, ← hM1, f8, exP (pR0 hr), s33x hn hr hR1 h6 hal, or64 a (by omega) w hw.1]
    unfold rdW at hz
    refine ⟨fun hc => ?_, fun hc => ?_⟩
    · -- there is a rule
      have hne : ¬ nxt a = 0 := fun q => hc (by rw [q]; rfl)
      rw [if_neg hne] at hz
      have hoi : oI (nxt a) = nI (nxt a - 1) := oI_s (by omega)
      rw [hoi]
      rw [hoi] at hc
      simp only [B35_91, false_imp_iff, true_imp_iff, not_false_eq_true, not_true_eq_false, true_and, and_true, implies_true, qn_self, rI_i, rJ_l, rV_n, okZ0, okZ1, oR hn hr, f8, nI_eq (show nxt a - 1 < 2 ^ 31 by omega) (show a < 2 ^ 31 by omega)]
      refine ⟨fun h1 => ?_, fun h1 => ?_⟩
      · rw [if_neg h1] at hz
        simp only [B35_107, false_imp_iff, true_imp_iff, not_false_eq_true, not_true_eq_false, true_and, and_true, implies_true, qn_self, rI_i, rJ_l, rV_n, okZ0, okZ1, oR hn hr, f8, s34 hn hr hR1 h6 hal]
        by_cases h2 : wh a = true
        · -- whole
          have h2f : ¬ wh a = false := by simp [h2]
          rw [if_neg h2f] at hz
          have hbt := hw1.2 (nxt a - 1) (by omega)
          simp only [h2, if_true, one0, false_imp_iff, true_imp_iff, not_false_eq_true, not_true_eq_false, true_and, and_true, implies_true, qn_self, rI_i, rJ_l, rV_n, okZ0, okZ1, B35_146, bt64 (nxt a - 1) (by omega) (w ||| 2 ^ a) hw1.1, hbt]
          refine ⟨fun h3 => ?_, fun h3 => ?_⟩
          · rw [if_neg h3] at hz
            refine e160 M1 _ ?_
            rw [if_neg hc]
            have hd2 : ((p ++ [a]) ++ [nxt a - 1]).Nodup := by
              rw [List.nodup_append]
              refine ⟨hd, by simp, fun x hx y hy => ?_⟩
              rw [List.mem_singleton.mp hy]
              exact fun q => h3 (q ▸ hx)
            have ha2 : ∀ x ∈ (p ++ [a]) ++ [nxt a - 1], x < ln := by
              intro x hx
              rcases List.mem_append.mp hx with q | q
              · exact ha x q
              · rw [List.mem_singleton.mp q]; omega
            have hlen := nodup_len 6 _ hd2 (fun x hx => by have := ha2 x hx; omega)
            simp only [List.length_append, List.length_singleton] at hlen
            refine ih (p ++ [a]) (nxt a - 1) (w ||| 2 ^ a) _ (by rw [len1]; omega) (by omega) hd2 ha2 (hR1.w (eqW.u8 eqW.rf)) he1.u8 (by rw [uM_j (by decide), len1]; exact f6) (by rw [uM_j (by decide)]; exact f7) uM_k (fun k hk => by rw [uM_a (by omega)]; exact f4 k hk) hw1 hz
          · rw [if_pos h3] at hz
            simp only [B35_155, false_imp_iff, true_imp_iff, not_false_eq_true, not_true_eq_false, true_and, and_true, implies_true, qn_self, rI_i, rJ_l, rV_n, okZ0, okZ1, oR hn hr]
            refine e160 _ _ ?_
            rw [if_neg hc, e17 hn hr (h := 3) (by rw [uM_j (by decide), uM_k]) (by decide)]
            refine hQ _ he1.u7.u8 ?_
            rw [← hz]
            exact ⟨by rw [uM_j (by decide), uM_j (by decide), len1]; exact f6, by rw [uM_j (by decide), uM_k], uM_k, fun k hk => by rw [uM_a (by omega), uM_a (by omega)]; exact f4 k hk⟩
        · -- inner
          have h2f : wh a = false := by simpa using h2
          rw [if_pos h2f] at hz
          simp only [h2f, Bool.false_eq_true, if_false, eq_true nI_0, false_imp_iff, true_imp_iff, not_false_eq_true, not_true_eq_false, true_and, and_true, implies_true, qn_self, rI_i, rJ_l, rV_n, okZ0, okZ1, B35_118, oR hn hr, exP (pR3 hr), uM_j (show (6 : Nat) ≠ 7 by decide), f6, xR4 hn hr (show p.length + 1 < 7 by omega), uM_a (show r ≠ r + 4 by omega), nI_add]
          refine e160 _ _ ?_
          rw [if_neg hc, e17 hn hr (h := 2) (by rw [uM_j (by decide), uM_j (by decide), uM_a (by omega), uM_k]) (by decide)]
          refine hQ _ he1.u7.us.u6.u8 ?_
          rw [← hz]
          refine ⟨by rw [uM_j (by decide), uM_k]; simp, by rw [uM_j (by decide), uM_j (by decide), uM_a (by omega), uM_k], uM_k, fun k hk => ?_⟩
          rw [uM_a (by omega), uM_a (by omega), getD_app hk]
          by_cases hk2 : k < (p ++ [a]).length
          · rw [if_pos hk2, uM_j (by omega), uM_a (by omega)]; exact f4 k hk2
          · rw [if_neg hk2]
            simp only [List.length_append, List.length_singleton] at hk hk2
            rw [show k = p.length + 1 by omega, uM_k]
      · rw [if_pos h1] at hz
        simp only [B35_99, false_imp_iff, true_imp_iff, not_false_eq_true, not_true_eq_false, true_and, and_true, implies_true, qn_self, rI_i, rJ_l, rV_n, okZ0, okZ1, oR hn hr]
        refine e160 _ _ ?_
        rw [if_neg hc, e17 hn hr (h := 1) (by rw [uM_j (by decide), uM_k]) (by decide)]
        refine hQ _ he1.u7.u8 ?_
        rw [← hz]
        exact ⟨by rw [uM_j (by decide), uM_j (by decide), len1]; exact f6, by rw [uM_j (by decide), uM_k], by rw [uM_k, h1], fun k hk => by rw [uM_a (by omega), uM_a (by omega)]; exact f4 k hk⟩
    · -- none
      have hne : nxt a = 0 := (oI_ng (by omega)).mp hc
      rw [if_pos hne] at hz
      simp only [B35_83, false_imp_iff, true_imp_iff, not_false_eq_true, not_true_eq_false, true_and, and_true, implies_true, qn_self, rI_i, rJ_l, rV_n, okZ0, okZ1, oR hn hr, hc]
      refine e160 _ _ ?_
      rw [if_pos rfl, e17 hn hr (h := 0) (by rw [uM_j (by decide), uM_k]) (by decide)]
      refine hQ _ he1.u7.u8 ?_
      rw [← hz]
      exact ⟨by rw [uM_j (by decide), uM_j (by decide), len1]; exact f6, by rw [uM_j (by decide), uM_k], by rw [uM_k, uM_j (by decide)]; exact f8, fun k hk => by rw [uM_a (by omega), uM_a (by omega)]; exact f4 k hk⟩
theorem s35 (hn : 44 ≤ nx) (hr : isR r) (hR : RD M r ln nxt wh th la) (h6 : ln ≤ 6) (hp : ptOK ln nxt) {l : Nat} (hl : l < ln) (hQ : ∀ M', eqW r M M' → RD M' r ln nxt wh th la → wkM M' r (road nxt wh l) → Q none M' N (P0 t e) nx) : aSem (d + 2) 35 [.ref r, .int (nI l)] M N (P0 t e) nx Q := by
  simp only [A35, B35_0, false_imp_iff, true_imp_iff, not_false_eq_true, not_true_eq_false, true_and, and_true, implies_true, qn_self, rI_i, rJ_l, rV_n, okZ0, okZ1, oR hn hr]
  have he : eqW r M (uM (uM (uM M r 6 (nI 0)) r 7 ng1) r 8 (nI l)) := eqW.rf.u6.u7.u8
  exact l35 hn hr h6 hp (z := road nxt wh l) (fun M' he' hk => hQ M' he' (hR.w he') hk) 6 [] l 0 _ rfl (by decide) (by simp) (fun x hx => by simp at hx; omega) (hR.w he) he (by rw [uM_j (by decide), uM_j (by decide), uM_k]; rfl) (by rw [uM_j (by decide), uM_k]) uM_k (fun k hk => by simp at hk) (BS.z.cg (fun j _ => by simp)) rfl
end RDS
