/-! THE REFERENCE: roads -/
def wkN (M : aM) (z : List Nat × Nat × Nat) : Prop := M 31 26 = nI z.1.length ∧ M 31 27 = nI z.2.1 ∧ M 31 28 = nI z.2.2 ∧ ∀ k, k < z.1.length → M 42 k = nI (z.1.getD k 0)
theorem oI_ge {n : Nat} (h : n < 2 ^ 31) : (0 ≤ oI n) ↔ ¬ n = 0 := by
  rw [Int32.le_iff_toInt_le, Int32.toInt_zero, oI_i h]
  omega
theorem nI_ge0 {n : Nat} (h : n < 2 ^ 31) : 0 ≤ nI n := by
  rw [Int32.le_iff_toInt_le, Int32.toInt_zero, nI_toInt h]
  omega
section MRO
variable {d : Nat} {M : aM} {N : aN} {P : aP} {t e nx ln is fc dn : Nat} {row nd : Nat → Nat} {Q : aQ}
theorem s172 (hn : 44 ≤ nx) {m : Nat} {v : Int32} (hm : M 31 26 = nI m) (h8 : m < 8) : aSem (d + 1) 172 [.ref 31, .int v] M N (P0 t e) nx Q ↔ Q none (uM (uM (uM M 42 m v) 31 26 (nI (m + 1))) 31 28 v) N (P0 t e) nx := by
  simp only [A172, B172_0, false_imp_iff, true_imp_iff, not_false_eq_true, not_true_eq_false, true_and, and_true, implies_true, qn_self, rI_i, rJ_l, rV_n, okZ0, okZ1, o31 hn, exP (show P0 t e 31 25 = some 42 from rfl), hm, x42 hn h8, uM_a (show (31 : Nat) ≠ 42 by decide), nI_add]
theorem l171 (hn : 44 ≤ nx) {x : Nat} (hx : x < 6) {p : List Nat} (hp : ∀ y ∈ p, y < 6) (hl : p.length ≤ 7) (hm : M 31 26 = nI p.length) (h4 : ∀ k, k < p.length → M 42 k = nI (p.getD k 0)) : ∀ b a, p = a ++ b → ¬ x ∈ a → (WP (aSem d) g0 171 nx (qn nx Q) 2 [(0, .ref 31), (1, .int (nI x)), (2, .int (nI a.length))] [] M N (P0 t e) nx ↔ Q (some (.int (if x ∈ p then nI 1 else nI 0))) M N (P0 t e) nx) := by
  intro b
  induction b with
  | nil =>
    intro a hpa hxa
    have hl2 : p.length = a.length := by rw [hpa, List.append_nil]
    have hno : ¬ x ∈ p := by rw [hpa, List.append_nil]; exact hxa
    simp only [B171_2, B171_28, false_imp_iff, true_imp_iff, not_false_eq_true, not_true_eq_false, true_and, and_true, implies_true, qn_self, rI_i, rJ_l, rV_n, okZ0, okZ1, o31 hn, hm, nI_le (show p.length ≤ a.length by omega) (show a.length < 2 ^ 31 by omega), hno, if_false]
  | cons y b ih =>
    intro a hpa hxa
    have hl2 : p.length = a.length + (b.length + 1) := by rw [hpa, List.length_append, List.length_cons]
    have hy : y < 6 := hp y (by rw [hpa]; simp)
    have hv : M 42 a.length = nI y := by
      rw [h4 a.length (by omega), hpa, List.getD_eq_getElem?_getD, List.getElem?_append_right (Nat.le_refl _), Nat.sub_self]
      rfl
    simp only [B171_2, false_imp_iff, true_imp_iff, not_false_eq_true, not_true_eq_false, true_and, and_true, implies_true, qn_self, rI_i, rJ_l, rV_n, okZ0, okZ1, o31 hn, hm, nI_ge (show a.length < p.length by omega) (show p.length < 2 ^ 31 by omega)]
    simp only [B171_10, B171_20, B171_22, false_imp_iff, true_imp_iff, not_false_eq_true, not_true_eq_false, true_and, and_true, implies_true, qn_self, rI_i, rJ_l, rV_n, okZ0, okZ1, o31 hn, exP (show P0 t e 31 25 = some 42 from rfl), x42 hn (show a.length < 8 by omega), hv, nI_eq (show y < 2 ^ 31 by omega) (show x < 2 ^ 31 by omega), nI_add]
    by_cases h : y = x
    · have hin : x ∈ p := by rw [hpa, h]; simp
      simp only [h, false_imp_iff, true_imp_iff, not_false_eq_true, not_true_eq_false, true_and, and_true, implies_true, qn_self, rI_i, rJ_l, rV_n, okZ0, okZ1, hin, if_true]
    · have ih2 := ih (a ++ [y]) (by rw [hpa]; simp) (by
        intro q
        rcases List.mem_append.mp q with q | q
        · exact hxa q
        · exact h (List.mem_singleton.mp q).symm)
      rw [List.length_append, List.length_singleton] at ih2
      simp only [h, false_imp_iff, true_imp_iff, not_false_eq_true, not_true_eq_false, true_and, and_true, implies_true, qn_self, rI_i, rJ_l, rV_n, okZ0, okZ1]
      exact ih2
theorem s171 (hn : 44 ≤ nx) {x : Nat} (hx : x < 6) {p : List Nat} (hp : ∀ y ∈ p, y < 6) (hl : p.length ≤ 7) (hm : M 31 26 = nI p.length) (h4 : ∀ k, k < p.length → M 42 k = nI (p.getD k 0)) : aSem (d + 1) 171 [.ref 31, .int (nI x)] M N (P0 t e) nx Q ↔ Q (some (.int (if x ∈ p then nI 1 else nI 0))) M N (P0 t e) nx := by
  simp only [A171, B171_0]
  exact l171 hn hx hp hl hm h4 p [] rfl (by simp)
/-- one more land on the road -/
theorem go172 {p : List Nat} {x : Nat} (hm : M 31 26 = nI p.length) (h4 : ∀ k, k < p.length → M 42 k = nI (p.getD k 0)) : (uM (uM (uM M 42 p.length (nI x)) 31 26 (nI (p.length + 1))) 31 28 (nI x)) 31 26 = nI (p ++ [x]).length ∧ (uM (uM (uM M 42 p.length (nI x)) 31 26 (nI (p.length + 1))) 31 28 (nI x)) 31 28 = nI x ∧ (uM (uM (uM M 42 p.length (nI x)) 31 26 (nI (p.length + 1))) 31 28 (nI x)) 31 27 = M 31 27 ∧ ∀ k, k < (p ++ [x]).length → (uM (uM (uM M 42 p.length (nI x)) 31 26 (nI (p.length + 1))) 31 28 (nI x)) 42 k = nI ((p ++ [x]).getD k 0) := by
  refine ⟨by rw [uM_j (by decide), uM_k, List.length_append, List.length_singleton], uM_k, by rw [uM_j (by decide), uM_j (by decide), uM_a (by decide)], fun k hk => ?_⟩
  rw [uM_a (by decide), uM_a (by decide), getD_app hk]
  by_cases q : k < p.length
  · rw [if_pos q, uM_j (by omega)]; exact h4 k q
  · rw [if_neg q]
    rw [List.length_append, List.length_singleton] at hk
    rw [show k = p.length by omega, uM_k]
theorem l173 (hn : 44 ≤ nx) (h : MT M ln is fc dn row nd) {i : Nat} (hi : i < is) {z : List Nat × Nat × Nat} (hQ : ∀ M', eqM M M' → wkN M' z → Q none M' N (P0 t e) nx) : ∀ n p a M', p.length + n = 7 → 0 < n → p.Nodup → (∀ x ∈ p, x < ln) → a ∈ p → eqM M M' → M' 31 26 = nI p.length → M' 31 27 = ng1 → M' 31 28 = nI a → (∀ k, k < p.length → M' 42 k = nI (p.getD k 0)) → rdW (nxM row i) (whM row i) n p a = z → WP (aSem (d + 2)) g0 173 nx (qn nx Q) 15 [(0, .ref 31), (2, .int (nI i))] [] M' N (P0 t e) nx := by
  have c6 := h.2.2.2.2.2.2.1
  unfold wfC at c6
  have hp := nxM_ok h.2.2.2.2.2.2.2.1 c6.1 c6.2.1 hi
  intro n
  induction n with
  | zero => intro p a M' _ h0; exact absurd h0 (by omega)
  | succ n ih =>
    intro p a M' hl h0 hd ha hap he e6 e7 e8 e4 hz
    have hal := ha a hap
    have hpa := hp a hal
    have h1 := h.m he
    have h6p : ∀ x ∈ p, x < 6 := fun x hx => by have := ha x hx; omega
    unfold rdW at hz
    have fin : ∀ M2 k, eqM M M2 → k < 10 → M2 31 27 = nI k → wkN M2 z → WP (aSem (d + 2)) g0 173 nx (qn nx Q) 15 [(0, .ref 31), (2, .int (nI i))] [] M2 N (P0 t e) nx := by
      intro M2 k he2 hk h27 hwk
      simp only [B173_15, B173_117, false_imp_iff, true_imp_iff, not_false_eq_true, not_true_eq_false, true_and, and_true, implies_true, qn_self, rI_i, rJ_l, rV_n, okZ0, okZ1, o31 hn, h27, nI_ge0 (show k < 2 ^ 31 by omega)]
      exact hQ M2 he2 hwk
    simp only [B173_15, false_imp_iff, true_imp_iff, not_false_eq_true, not_true_eq_false, true_and, and_true, implies_true, qn_self, rI_i, rJ_l, rV_n, okZ0, okZ1, o31 hn, e7, ng1_ge0]
    simp only [B173_22, false_imp_iff, true_imp_iff, not_false_eq_true, not_true_eq_false, true_and, and_true, implies_true, qn_self, rI_i, rJ_l, rV_n, okZ0, okZ1, o31 hn, e8, s165 hn h1 hal hi, oI_ge (show nxM row i a < 2 ^ 31 by omega)]
    refine ⟨fun hne => ?_, fun hne => ?_⟩
    · rw [if_neg hne] at hz
      rw [oI_s (by omega)]
      have hxl : nxM row i a - 1 < ln := by omega
      simp only [B173_48, nI_eq (show nxM row i a - 1 < 2 ^ 31 by omega) (show a < 2 ^ 31 by omega)]
      refine ⟨fun hs => ?_, fun hs => ?_⟩
      · rw [if_neg hs] at hz
        simp only [B173_62, false_imp_iff, true_imp_iff, not_false_eq_true, not_true_eq_false, true_and, and_true, implies_true, qn_self, rI_i, rJ_l, rV_n, okZ0, okZ1, o31 hn, s166 hn h1 hal hi]
        have gg := go172 (M := M') (p := p) (x := nxM row i a - 1) e6 e4
        by_cases hw : whM row i a = true
        · rw [if_neg (by simp [hw])] at hz
          simp only [hw, if_true, one0, false_imp_iff, true_imp_iff, not_false_eq_true, not_true_eq_false, true_and, and_true, implies_true, qn_self, rI_i, rJ_l, rV_n, okZ0, okZ1, B173_85, o31 hn, s171 hn (show nxM row i a - 1 < 6 by omega) h6p (by omega) e6 e4]
          by_cases hin : nxM row i a - 1 ∈ p
          · rw [if_pos hin] at hz
            simp only [hin, if_true, one0, false_imp_iff, true_imp_iff, not_false_eq_true, not_true_eq_false, true_and, and_true, implies_true, qn_self, rI_i, rJ_l, rV_n, okZ0, okZ1, B173_94, B173_114, o31 hn]
            refine fin _ 3 ((he.u (Or.inr (Or.inr (Or.inr rfl)))).u (Or.inr (Or.inr (Or.inl rfl)))) (by decide) uM_k ?_
            rw [← hz]
            exact ⟨by rw [uM_j (by decide), uM_j (by decide)]; exact e6, uM_k, by rw [uM_j (by decide), uM_k], fun k hk => by rw [uM_a (by decide), uM_a (by decide)]; exact e4 k hk⟩
          · rw [if_neg hin] at hz
            have hd2 : (p ++ [nxM row i a - 1]).Nodup := by
              rw [List.nodup_append]
              refine ⟨hd, by simp, fun x hx y hy => ?_⟩
              rw [List.mem_singleton.mp hy]
              exact fun q => hin (q ▸ hx)
            have ha2 : ∀ x ∈ p ++ [nxM row i a - 1], x < ln := by
              intro x hx
              rcases List.mem_append.mp hx with q | q
              · exact ha x q
              · rw [List.mem_singleton.mp q]; exact hxl
            have hlen := nodup_len 6 _ hd2 (fun x hx => by have := ha2 x hx; omega)
            have hlen2 : (p ++ [nxM row i a - 1]).length = p.length + 1 := by rw [List.length_append, List.length_singleton]
            simp only [hin, if_false, eq_true nI_0, false_imp_iff, true_imp_iff, not_false_eq_true, not_true_eq_false, true_and, and_true, implies_true, qn_self, rI_i, rJ_l, rV_n, okZ0, okZ1, B173_108, B173_114, o31 hn, s172 hn e6 (show p.length < 8 by omega)]
            exact ih (p ++ [nxM row i a - 1]) (nxM row i a - 1) _ (by omega) (by omega) hd2 ha2 (by simp) (((he.r).u (Or.inr (Or.inl rfl))).u (Or.inr (Or.inr (Or.inr rfl)))) gg.1 (by rw [gg.2.2.1]; exact e7) gg.2.1 gg.2.2.2 hz
        · have hwf : whM row i a = false := by simpa using hw
          rw [if_pos hwf] at hz
          simp only [hwf, Bool.false_eq_true, if_false, eq_true nI_0, false_imp_iff, true_imp_iff, not_false_eq_true, not_true_eq_false, true_and, and_true, implies_true, qn_self, rI_i, rJ_l, rV_n, okZ0, okZ1, B173_71, B173_114, o31 hn, s172 hn e6 (show p.length < 8 by omega)]
          refine fin _ 2 ((((he.r).u (Or.inr (Or.inl rfl))).u (Or.inr (Or.inr (Or.inr rfl)))).u (Or.inr (Or.inr (Or.inl rfl)))) (by decide) uM_k ?_
          rw [← hz]
          exact ⟨by rw [uM_j (by decide)]; exact gg.1, uM_k, by rw [uM_j (by decide)]; exact gg.2.1, fun k hk => by rw [uM_a (by decide)]; exact gg.2.2.2 k hk⟩
      · rw [if_pos hs] at hz
        simp only [B173_54, B173_114, false_imp_iff, true_imp_iff, not_false_eq_true, not_true_eq_false, true_and, and_true, implies_true, qn_self, rI_i, rJ_l, rV_n, okZ0, okZ1, o31 hn]
        refine fin _ 1 (he.u (Or.inr (Or.inr (Or.inl rfl)))) (by decide) uM_k ?_
        rw [← hz]
        exact ⟨by rw [uM_j (by decide)]; exact e6, uM_k, by rw [uM_j (by decide)]; exact e8, fun k hk => by rw [uM_a (by decide)]; exact e4 k hk⟩
    · have hne2 : nxM row i a = 0 := Classical.byContradiction hne
      rw [if_pos hne2] at hz
      simp only [B173_40, B173_114, false_imp_iff, true_imp_iff, not_false_eq_true, not_true_eq_false, true_and, and_true, implies_true, qn_self, rI_i, rJ_l, rV_n, okZ0, okZ1, o31 hn]
      refine fin _ 0 (he.u (Or.inr (Or.inr (Or.inl rfl)))) (by decide) uM_k ?_
      rw [← hz]
      exact ⟨by rw [uM_j (by decide)]; exact e6, uM_k, by rw [uM_j (by decide)]; exact e8, fun k hk => by rw [uM_a (by decide)]; exact e4 k hk⟩
theorem s173 (hn : 44 ≤ nx) (h : MT M ln is fc dn row nd) {l i : Nat} (hl : l < ln) (hi : i < is) (hQ : ∀ M', eqM M M' → wkN M' (road (nxM row i) (whM row i) l) → Q none M' N (P0 t e) nx) : aSem (d + 3) 173 [.ref 31, .int (nI l), .int (nI i)] M N (P0 t e) nx Q := by
  have he0 : (uM M 31 26 (nI 0)) 31 26 = nI ([] : List Nat).length := uM_k
  have gg := go172 (M := uM M 31 26 (nI 0)) (p := []) (x := l) he0 (fun k hk => absurd hk (Nat.not_lt_zero _))
  simp only [A173, B173_0, false_imp_iff, true_imp_iff, not_false_eq_true, not_true_eq_false, true_and, and_true, implies_true, qn_self, rI_i, rJ_l, rV_n, okZ0, okZ1, o31 hn, s172 hn (show (uM M 31 26 (nI 0)) 31 26 = nI 0 from uM_k) (show 0 < 8 by decide)]
  refine l173 hn h hi hQ 6 [l] l _ rfl (by decide) (by simp) (fun x hx => by rw [List.mem_singleton.mp hx]; exact hl) (by simp) (((((eqM.rf.u (Or.inr (Or.inl rfl))).r).u (Or.inr (Or.inl rfl))).u (Or.inr (Or.inr (Or.inr rfl)))).u (Or.inr (Or.inr (Or.inl rfl)))) (by rw [uM_j (by decide)]; exact gg.1) uM_k (by rw [uM_j (by decide)]; exact gg.2.1) (fun k hk => by rw [uM_a (by decide)]; exact gg.2.2.2 k hk) rfl
end MRO
