/-! THE REFERENCE: theories -/
theorem oI_lt {n : Nat} (h : n < 2 ^ 31) : (oI n < 0) ↔ n = 0 := by
  rw [Int32.lt_iff_toInt_lt, Int32.toInt_zero, oI_i h]
  omega
section MCO
variable {d : Nat} {M : aM} {N : aN} {P : aP} {t e nx ln is fc dn : Nat} {row nd : Nat → Nat} {Q : aQ}
theorem s179 (hn : 44 ≤ nx) (h : MT M ln is fc dn row nd) {l i y : Nat} (hl : l < ln) (hi : i < is) (hy : y ≤ 4) (hQ : ∀ M', eqM M M' → Q (some (.int (nI (plW (nxM row i) (whM row i) l y)))) M' N (P0 t e) nx) : aSem (d + 4) 179 [.ref 31, .int (nI l), .int (nI i), .int (nI y)] M N (P0 t e) nx Q := by
  have c6 := h.2.2.2.2.2.2.1
  unfold wfC at c6
  have hp := nxM_ok h.2.2.2.2.2.2.2.1 c6.1 c6.2.1 hi
  have hpl := hp l hl
  have e1 : (nI y = nI 1) ↔ y = 1 := nI_eq (by omega) (by decide)
  have e2 : (nI y = nI 2) ↔ y = 2 := nI_eq (by omega) (by decide)
  have e4 : (nI y = nI 4) ↔ y = 4 := nI_eq (by omega) (by decide)
  have rd : (y = 2 ∨ y = 4) → WP (aSem (d + 3)) g0 179 nx (qn nx Q) 18 [(0, .ref 31), (1, .int (nI l)), (2, .int (nI i)), (3, .int (nI y))] [] M N (P0 t e) nx := by
    intro h24
    simp only [B179_18, false_imp_iff, true_imp_iff, not_false_eq_true, not_true_eq_false, true_and, and_true, implies_true, qn_self, rI_i, rJ_l, rV_n, okZ0, okZ1, o31 hn]
    refine s173 hn h hl hi (fun M' he hk => ?_)
    have hq := hQ M' he
    unfold plW at hq
    rw [if_pos h24] at hq
    have h9 := road_how (nxt := nxM row i) (wh := whM row i) (l := l)
    simp only [false_imp_iff, true_imp_iff, not_false_eq_true, not_true_eq_false, true_and, and_true, implies_true, qn_self, rI_i, rJ_l, rV_n, okZ0, okZ1, e4, B179_29, B179_37, B179_41, B179_45, o31 hn, hk.2.1, hk.2.2.1, nI_eq (show (road (nxM row i) (whM row i) l).2.1 < 2 ^ 31 by omega) (show 3 < 2 ^ 31 by decide)]
    refine ⟨fun q => ?_, fun q => ⟨fun q2 => ?_, fun q2 => ?_⟩⟩
    · rw [if_neg (fun z => q z.1)] at hq; exact hq
    · rw [if_neg (fun z => q2 z.2)] at hq; exact hq
    · rw [if_pos ⟨q, q2⟩] at hq; exact hq
  simp only [A179, B179_0, B179_13, false_imp_iff, true_imp_iff, not_false_eq_true, not_true_eq_false, true_and, and_true, implies_true, qn_self, rI_i, rJ_l, rV_n, okZ0, okZ1, o31 hn, s165 hn h hl hi, e2, e4]
  refine ⟨fun q => rd (Or.inl q), fun q => ⟨fun q4 => ?_, fun q4 => rd (Or.inr q4)⟩⟩
  have hq := hQ M eqM.rf
  unfold plW at hq
  rw [if_neg (fun z => z.elim q q4)] at hq
  simp only [B179_46, B179_57, false_imp_iff, true_imp_iff, not_false_eq_true, not_true_eq_false, true_and, and_true, implies_true, qn_self, rI_i, rJ_l, rV_n, okZ0, okZ1, oI_lt (show nxM row i l < 2 ^ 31 by omega)]
  refine ⟨fun h0 => ?_, fun h0 => ?_⟩
  · rw [if_pos h0] at hq; exact hq
  · rw [if_neg h0] at hq
    have hb : nxM row i l - 1 < ln := by omega
    have hp2 := hp _ hb
    rw [oI_s (by omega)]
    simp only [B179_51, B179_57, false_imp_iff, true_imp_iff, not_false_eq_true, not_true_eq_false, true_and, and_true, implies_true, qn_self, rI_i, rJ_l, rV_n, okZ0, okZ1, nI_eq (show nxM row i l - 1 < 2 ^ 31 by omega) (show l < 2 ^ 31 by omega)]
    refine ⟨fun h1 => ?_, fun h1 => ?_⟩
    · rw [if_neg h1] at hq
      simp only [B179_59, B179_99, B179_101, false_imp_iff, true_imp_iff, not_false_eq_true, not_true_eq_false, true_and, and_true, implies_true, qn_self, rI_i, rJ_l, rV_n, okZ0, okZ1, o31 hn, s165 hn h hb hi, e1]
      refine ⟨fun h2 => ?_, fun h2 => ?_⟩
      · rw [if_neg (fun z => h2 z.1)] at hq; exact hq
      · simp only [B179_73, B179_99, B179_101, false_imp_iff, true_imp_iff, not_false_eq_true, not_true_eq_false, true_and, and_true, implies_true, qn_self, rI_i, rJ_l, rV_n, okZ0, okZ1, o31 hn, s166 hn h hl hi]
        by_cases hw : whM row i l = true
        · simp only [hw, if_true, one0, false_imp_iff, true_imp_iff, not_false_eq_true, not_true_eq_false, true_and, and_true, implies_true, qn_self, rI_i, rJ_l, rV_n, okZ0, okZ1, B179_82, B179_99, B179_101, oI_lt (show nxM row i (nxM row i l - 1) < 2 ^ 31 by omega)]
          refine ⟨fun h3 => ?_, fun h3 => ?_⟩
          · rw [if_neg (fun z => z.2.2 h3)] at hq; exact hq
          · rw [if_pos ⟨h2, hw, h3⟩] at hq
            rw [oI_s (by omega)]
            simp only [B179_87, B179_94, B179_99, B179_101, false_imp_iff, true_imp_iff, not_false_eq_true, not_true_eq_false, true_and, and_true, implies_true, qn_self, rI_i, rJ_l, rV_n, okZ0, okZ1]
            refine ⟨fun h4 => ?_, fun h4 => hq⟩
            rw [← h4]; exact hq
        · rw [if_neg (fun z => hw z.2.1)] at hq
          simp only [hw, if_false, Bool.false_eq_true, eq_true nI_0, false_imp_iff, true_imp_iff, not_false_eq_true, not_true_eq_false, true_and, and_true, implies_true, qn_self, rI_i, rJ_l, rV_n, okZ0, okZ1]
          exact hq
    · rw [if_pos h1] at hq; exact hq
theorem l180 (hn : 44 ≤ nx) (h : MT M ln is fc dn row nd) {i z : Nat} (hi : i < is) (hQ : ∀ M', eqM M M' → Q (some (.int (nI z))) M' N (P0 t e) nx) : ∀ n S a y w, S.length + n = 6 → 0 < n → (a :: S).Nodup → (∀ x ∈ a :: S, x < ln) → y ≤ 4 → BS w (fun x => x ∈ a :: S) → cbW (nxM row i) (whM row i) row n (a :: S) a y = z → WP (aSem (d + 4)) g0 180 nx (qn nx Q) 11 [(0, .ref 31), (2, .int (nI i)), (4, .int (nI a)), (5, .int (nI y)), (6, .int (nI w))] [] M N (P0 t e) nx := by
  have c6 := h.2.2.2.2.2.2.1
  unfold wfC at c6
  have hwf := h.2.2.2.2.2.2.2.1
  have hp := nxM_ok hwf c6.1 c6.2.1 hi
  intro n
  induction n with
  | zero => intro S a y w _ h0; exact absurd h0 (by omega)
  | succ n ih =>
    intro S a y w hl h0 hd ha hy hw hz
    have hal : a < ln := ha a List.mem_cons_self
    have hpa := hp a hal
    unfold cbW at hz
    simp only [B180_11, false_imp_iff, true_imp_iff, not_false_eq_true, not_true_eq_false, true_and, and_true, implies_true, qn_self, rI_i, rJ_l, rV_n, okZ0, okZ1, nI_eq (show y < 2 ^ 31 by omega) (show 3 < 2 ^ 31 by decide)]
    refine ⟨fun h3 => ?_, fun h3 => ?_⟩
    · rw [if_neg h3] at hz
      simp only [B180_90, false_imp_iff, true_imp_iff, not_false_eq_true, not_true_eq_false, true_and, and_true, implies_true, qn_self, rI_i, rJ_l, rV_n, okZ0, okZ1, o31 hn]
      refine s179 hn h hal hi hy (fun M' he => ?_)
      simp only [false_imp_iff, true_imp_iff, not_false_eq_true, not_true_eq_false, true_and, and_true, implies_true, qn_self, rI_i, rJ_l, rV_n, okZ0, okZ1]
      rw [hz]; exact hQ M' he
    · rw [if_pos h3] at hz
      simp only [B180_17, B180_38, false_imp_iff, true_imp_iff, not_false_eq_true, not_true_eq_false, true_and, and_true, implies_true, qn_self, rI_i, rJ_l, rV_n, okZ0, okZ1, o31 hn, s165 hn h hal hi, oI_lt (show nxM row i a < 2 ^ 31 by omega)]
      refine ⟨fun hc => ?_, fun hc => ?_⟩
      · rw [if_pos hc] at hz
        rw [hz]; exact hQ M eqM.rf
      · rw [if_neg hc] at hz
        rw [oI_s (by omega)]
        simp only [B180_31, B180_38, false_imp_iff, true_imp_iff, not_false_eq_true, not_true_eq_false, true_and, and_true, implies_true, qn_self, rI_i, rJ_l, rV_n, okZ0, okZ1, nI_eq (show nxM row i a - 1 < 2 ^ 31 by omega) (show a < 2 ^ 31 by omega)]
        refine ⟨fun h1 => ?_, fun h1 => ?_⟩
        · rw [if_neg h1] at hz
          have hbt := hw.2 (nxM row i a - 1) (by omega)
          simp only [B180_41, B180_62, false_imp_iff, true_imp_iff, not_false_eq_true, not_true_eq_false, true_and, and_true, implies_true, qn_self, rI_i, rJ_l, rV_n, okZ0, okZ1, o31 hn, s166 hn h hal hi]
          by_cases h2 : whM row i a = true
          · simp only [h2, if_true, one0, false_imp_iff, true_imp_iff, not_false_eq_true, not_true_eq_false, true_and, and_true, implies_true, qn_self, rI_i, rJ_l, rV_n, okZ0, okZ1, B180_51, B180_62, bt64 (nxM row i a - 1) (by omega) w hw.1, hbt]
            refine ⟨fun h4 => ?_, fun h4 => ?_⟩
            · rw [if_neg (fun q => q.elim (fun q => by rw [h2] at q; cases q) h4)] at hz
              have hd2 : ((nxM row i a - 1) :: a :: S).Nodup := List.nodup_cons.mpr ⟨h4, hd⟩
              have ha2 : ∀ x ∈ (nxM row i a - 1) :: a :: S, x < ln := by
                intro x hx
                rcases List.mem_cons.mp hx with q | q
                · rw [q]; omega
                · exact ha x q
              have hlen := nodup_len 6 _ hd2 (fun x hx => by have := ha2 x hx; omega)
              simp only [List.length_cons] at hlen
              have hw1 : BS (w ||| 2 ^ (nxM row i a - 1)) (fun x => x ∈ (nxM row i a - 1) :: a :: S) := (hw.or (by omega)).cg (fun j _ => by simp [or_comm])
              simp only [B180_65, false_imp_iff, true_imp_iff, not_false_eq_true, not_true_eq_false, true_and, and_true, implies_true, qn_self, rI_i, rJ_l, rV_n, okZ0, okZ1, o31 hn, exP (show P0 t e 31 16 = some 36 from rfl), x36 hn (show nxM row i a - 1 < 89 by omega), h.2.2.2.2.1 (nxM row i a - 1) (by omega), or64 (nxM row i a - 1) (by omega) w hw.1]
              exact ih (a :: S) (nxM row i a - 1) (row (nxM row i a - 1)) _ (by rw [List.length_cons]; omega) (by omega) hd2 ha2 (hwf.1 _ (by omega)) hw1 hz
            · rw [if_pos (Or.inr h4)] at hz
              rw [hz]; exact hQ M eqM.rf
          · have h2f : whM row i a = false := by simpa using h2
            rw [if_pos (Or.inl h2f)] at hz
            simp only [h2f, Bool.false_eq_true, if_false, eq_true nI_0, false_imp_iff, true_imp_iff, not_false_eq_true, not_true_eq_false, true_and, and_true, implies_true, qn_self, rI_i, rJ_l, rV_n, okZ0, okZ1]
            rw [hz]; exact hQ M eqM.rf
        · rw [if_pos h1] at hz
          rw [hz]; exact hQ M eqM.rf
theorem one_sh : ∀ l, l < 6 → nI 1 <<< (nI l &&& 31) = nI (2 ^ l) := by decide +kernel
theorem BS_one : ∀ l, l < 6 → 2 ^ l < 64 ∧ ∀ j, j < 6 → (2 ^ l / 2 ^ j % 2 = 1 ↔ j = l) := by decide +kernel
theorem s180 (hn : 44 ≤ nx) (h : MT M ln is fc dn row nd) {l i y : Nat} (hl : l < ln) (hi : i < is) (hy : y ≤ 4) (hQ : ∀ M', eqM M M' → Q (some (.int (nI (comesM (nxM row i) (whM row i) row l y)))) M' N (P0 t e) nx) : aSem (d + 5) 180 [.ref 31, .int (nI l), .int (nI i), .int (nI y)] M N (P0 t e) nx Q := by
  have c6 := h.2.2.2.2.2.2.1
  unfold wfC at c6
  simp only [A180, B180_0, one_sh l (by omega)]
  exact l180 hn h hi hQ 6 [] l y _ rfl (by decide) (by simp) (fun x hx => by simp at hx; omega) hy ⟨(BS_one l (by omega)).1, fun j hj => by rw [(BS_one l (by omega)).2 j hj]; simp⟩ rfl
theorem s181 (hn : 44 ≤ nx) (h : MT M ln is fc dn row nd) {l i : Nat} (hl : l < ln) (hi : i < is) (hQ : ∀ M', eqM M M' → Q (some (.int (nI (ownLand row i l)))) M' N (P0 t e) nx) : aSem (d + 6) 181 [.ref 31, .int (nI l), .int (nI i)] M N (P0 t e) nx Q := by
  have c6 := h.2.2.2.2.2.2.1
  unfold wfC at c6
  simp only [A181, B181_0, false_imp_iff, true_imp_iff, not_false_eq_true, not_true_eq_false, true_and, and_true, implies_true, qn_self, rI_i, rJ_l, rV_n, okZ0, okZ1, o31 hn, exP (show P0 t e 31 16 = some 36 from rfl), x36 hn (show l < 89 by omega), h.2.2.2.2.1 l (by omega)]
  refine s180 hn h hl hi (h.2.2.2.2.2.2.2.1.1 l (by omega)) (fun M' he => ?_)
  simp only [false_imp_iff, true_imp_iff, not_false_eq_true, not_true_eq_false, true_and, and_true, implies_true, qn_self, rI_i, rJ_l, rV_n, okZ0, okZ1]
  exact hQ M' he
theorem s182 (hn : 44 ≤ nx) (h : MT M ln is fc dn row nd) {l i : Nat} (hl : l < ln) (hi : i < is) (hQ : ∀ M', eqM M M' → Q (some (.int (nI (ownAns row i l)))) M' N (P0 t e) nx) : aSem (d + 7) 182 [.ref 31, .int (nI l), .int (nI i)] M N (P0 t e) nx Q := by
  have c6 := h.2.2.2.2.2.2.1
  unfold wfC at c6
  have hlt : ownLand row i l < ln := comesM_lt (nxM_ok h.2.2.2.2.2.2.2.1 c6.1 c6.2.1 hi) hl
  simp only [A182, B182_0, false_imp_iff, true_imp_iff, not_false_eq_true, not_true_eq_false, true_and, and_true, implies_true, qn_self, rI_i, rJ_l, rV_n, okZ0, okZ1, o31 hn, exP (show P0 t e 31 16 = some 36 from rfl)]
  refine s181 hn h hl hi (fun M' he => ?_)
  simp only [false_imp_iff, true_imp_iff, not_false_eq_true, not_true_eq_false, true_and, and_true, implies_true, qn_self, rI_i, rJ_l, rV_n, okZ0, okZ1, m3, x36 hn (show 47 + (6 * ownLand row i l + i) < 89 by omega), (h.m he).2.2.2.2.1 (47 + (6 * ownLand row i l + i)) (by omega)]
  exact hQ M' he
end MCO
