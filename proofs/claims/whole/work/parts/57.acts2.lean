/-! RENVOIDESK: acts on issues and lands, undo, keep, count, rule -/
section AC2
variable {d : Nat} {M : aM} {N : aN} {P : aP} {t e nx ln is fc dn u : Nat} {row nd : Nat → Nat} {hs ks : Nat → Nat → Nat} {kp : Nat → Bool} {Q : aQ}
theorem s123n (hn : 44 ≤ nx) (h : CT M t ln is fc dn row nd) {x y : Int32} (hv : ¬ (vl x is ∧ vl y is)) : aSem (d + 4) 123 [.ref 0, .int x, .int y] M N (P0 t e) nx Q ↔ Q (some (.int ng1)) M N (P0 t e) nx := by
  obtain ⟨ho, h22, hT, hc, hw, h64⟩ := h
  by_cases h1 : vl x is
  · have h2 : ¬ vl y is := fun q => hv ⟨h1, q⟩
    obtain ⟨k, hk, rfl⟩ := vl_of h1
    simp only [A123, B123_0, B123_11, B123_22, false_imp_iff, true_imp_iff, not_false_eq_true, not_true_eq_false, true_and, and_true, implies_true, qn_self, rI_i, rJ_l, rV_n, okZ0, okZ1, o0 hn, oT hn ho, exP (show P0 t e 0 5 = some t from rfl), s64 hn ho hT hc hk, s64n hn ho hT hc h2, one0, eq_true nI_0]
  · simp only [A123, B123_0, B123_22, false_imp_iff, true_imp_iff, not_false_eq_true, not_true_eq_false, true_and, and_true, implies_true, qn_self, rI_i, rJ_l, rV_n, okZ0, okZ1, o0 hn, oT hn ho, exP (show P0 t e 0 5 = some t from rfl), s64n hn ho hT hc h1, eq_true nI_0]
theorem s123z (hn : 44 ≤ nx) (h : CT M t ln is fc dn row nd) {i j : Nat} (hi : i < is) (hj : j < is) (heq : row (83 + i) = row (83 + j)) : aSem (d + 4) 123 [.ref 0, .int (nI i), .int (nI j)] M N (P0 t e) nx Q ↔ Q (some (.int ng1)) M N (P0 t e) nx := by
  obtain ⟨ho, h22, hT, hc, hw, h64⟩ := h
  simp only [A123, B123_0, B123_11, B123_24, B123_49, false_imp_iff, true_imp_iff, not_false_eq_true, not_true_eq_false, true_and, and_true, implies_true, qn_self, rI_i, rJ_l, rV_n, okZ0, okZ1, o0 hn, oT hn ho, exP (show P0 t e 0 5 = some t from rfl), s64 hn ho hT hc hi, s64 hn ho hT hc hj, s83 hn ho hT hc hi, s83 hn ho hT hc hj, one0, heq]
theorem mvR_wf {a b : Nat} (hw : wfR ln is fc row) (hb : b < is) (h5 : fc ≤ 5) : wfR ln is fc (mvR row a b is) := by
  have hn : ∀ k, k < 83 → mvR row a b is k = row k := fun k hk => by unfold mvR; rw [if_neg (by omega)]
  refine ⟨fun l h' => by rw [hn _ (by omega)]; exact hw.1 l h', fun f h' => by rw [hn _ (by omega)]; exact hw.2.1 f h', fun k h1 h2 => by rw [hn _ (by omega)]; exact hw.2.2.1 k h1 h2, fun k h1 h2 => by rw [hn _ (by omega)]; exact hw.2.2.2.1 k h1 h2, fun i h' => ?_⟩
  unfold mvR
  split
  · exact hb
  · exact hw.2.2.2.2 i h'
theorem s123 (hn : 44 ≤ nx) (h : CT M t ln is fc dn row nd) (hP : PA M is u hs kp ks) {i j : Nat} (hi : i < is) (hj : j < is) (hne : ¬ row (83 + i) = row (83 + j)) (hw2 : wfR ln is fc (mvR row (row (83 + i)) (row (83 + j)) is)) (hQ : ∀ M', eqA t M M' → TD M' t ln is fc dn (mvR row (row (83 + i)) (row (83 + j)) is) nd → PA M' is (psU u) (psH u hs row) kp ks → Q (some (.int (nI (cntF (fun k => mvR row (row (83 + i)) (row (83 + j)) is (83 + k) == row (83 + j)) 0 is)))) M' N (P0 t e) nx) : aSem (d + 4) 123 [.ref 0, .int (nI i), .int (nI j)] M N (P0 t e) nx Q := by
  have h' := h
  obtain ⟨ho, h22, hT, hc, hw, h64⟩ := h
  have c6 := hc
  unfold wfC at c6
  have b1 := hw.2.2.2.2 i hi
  have b2 := hw.2.2.2.2 j hj
  simp only [A123, B123_0, B123_11, B123_24, false_imp_iff, true_imp_iff, not_false_eq_true, not_true_eq_false, true_and, and_true, implies_true, qn_self, rI_i, rJ_l, rV_n, okZ0, okZ1, o0 hn, oT hn ho, o25 hn, exP (show P0 t e 0 5 = some t from rfl), exP (show P0 t e 0 4 = some 25 from rfl), s64 hn ho hT hc hi, s64 hn ho hT hc hj, s83 hn ho hT hc hi, s83 hn ho hT hc hj, one0, nI_eq (show row (83 + i) < 2 ^ 31 by omega) (show row (83 + j) < 2 ^ 31 by omega), hne]
  simp only [B123_51, false_imp_iff, true_imp_iff, not_false_eq_true, not_true_eq_false, true_and, and_true, implies_true, qn_self, rI_i, rJ_l, rV_n, okZ0, okZ1, o0 hn, oT hn ho, o25 hn, exP (show P0 t e 0 5 = some t from rfl), exP (show P0 t e 0 4 = some 25 from rfl)]
  refine rem9 hn h' hP (fun M1 he1 hT1 hP1 => ?_)
  simp only [false_imp_iff, true_imp_iff, not_false_eq_true, not_true_eq_false, true_and, and_true, implies_true, qn_self, rI_i, rJ_l, rV_n, okZ0, okZ1, o0 hn, oT hn ho, exP (show P0 t e 0 5 = some t from rfl)]
  refine s86 hn ho hT1 hc hw (show row (83 + i) < 6 by omega) (show row (83 + j) < 6 by omega) (fun M2 he2 hT2 => ?_)
  simp only [false_imp_iff, true_imp_iff, not_false_eq_true, not_true_eq_false, true_and, and_true, implies_true, qn_self, rI_i, rJ_l, rV_n, okZ0, okZ1, o0 hn, oT hn ho, exP (show P0 t e 0 5 = some t from rfl), s84 hn ho hT2 hc hw2 (show row (83 + j) < 100 by omega)]
  exact hQ M2 (he1.c he2) hT2 (hP1.tc ho he2)
theorem s124n (hn : 44 ≤ nx) (h : CT M t ln is fc dn row nd) {x : Int32} (hv : ¬ vl x is) : aSem (d + 5) 124 [.ref 0, .int x] M N (P0 t e) nx Q ↔ Q (some (.int ng1)) M N (P0 t e) nx := by
  obtain ⟨ho, h22, hT, hc, hw, h64⟩ := h
  simp only [A124, B124_0, B124_11, false_imp_iff, true_imp_iff, not_false_eq_true, not_true_eq_false, true_and, and_true, implies_true, qn_self, rI_i, rJ_l, rV_n, okZ0, okZ1, o0 hn, oT hn ho, exP (show P0 t e 0 5 = some t from rfl), s64n hn ho hT hc hv, eq_true nI_0]
theorem s124z (hn : 44 ≤ nx) (h : CT M t ln is fc dn row nd) {i : Nat} (hi : i < is) (h2 : cntF (fun k => row (83 + k) == row (83 + i)) 0 is < 2) : aSem (d + 5) 124 [.ref 0, .int (nI i)] M N (P0 t e) nx Q ↔ Q (some (.int ng1)) M N (P0 t e) nx := by
  obtain ⟨ho, h22, hT, hc, hw, h64⟩ := h
  have c6 := hc
  unfold wfC at c6
  have b1 := hw.2.2.2.2 i hi
  simp only [A124, B124_0, B124_13, B124_34, false_imp_iff, true_imp_iff, not_false_eq_true, not_true_eq_false, true_and, and_true, implies_true, qn_self, rI_i, rJ_l, rV_n, okZ0, okZ1, o0 hn, oT hn ho, exP (show P0 t e 0 5 = some t from rfl), s64 hn ho hT hc hi, one0, s83 hn ho hT hc hi, s84 hn ho hT hc hw (show row (83 + i) < 100 by omega), nI_ge h2 (show 2 < 2 ^ 31 by decide)]
theorem s124 (hn : 44 ≤ nx) (h : CT M t ln is fc dn row nd) (hP : PA M is u hs kp ks) {i : Nat} (hi : i < is) (h2 : 2 ≤ cntF (fun k => row (83 + k) == row (83 + i)) 0 is) (hQ : ∀ M', eqA t M M' → TD M' t ln is fc dn (cutR row i is) nd → PA M' is (psU u) (psH u hs row) kp ks → Q (some (.int (nI (cntF (fun k => row (83 + k) == row (83 + i)) 0 is)))) M' N (P0 t e) nx) : aSem (d + 5) 124 [.ref 0, .int (nI i)] M N (P0 t e) nx Q := by
  have h' := h
  obtain ⟨ho, h22, hT, hc, hw, h64⟩ := h
  have c6 := hc
  unfold wfC at c6
  have b1 := hw.2.2.2.2 i hi
  have b2 := cntF_le (fun k => row (83 + k) == row (83 + i)) is 0
  simp only [A124, B124_0, B124_13, B124_36, false_imp_iff, true_imp_iff, not_false_eq_true, not_true_eq_false, true_and, and_true, implies_true, qn_self, rI_i, rJ_l, rV_n, okZ0, okZ1, o0 hn, oT hn ho, o25 hn, exP (show P0 t e 0 5 = some t from rfl), exP (show P0 t e 0 4 = some 25 from rfl), s64 hn ho hT hc hi, one0, s83 hn ho hT hc hi, s84 hn ho hT hc hw (show row (83 + i) < 100 by omega), nI_le h2 (show cntF (fun k => row (83 + k) == row (83 + i)) 0 is < 2 ^ 31 by omega)]
  refine rem9 hn h' hP (fun M1 he1 hT1 hP1 => ?_)
  simp only [false_imp_iff, true_imp_iff, not_false_eq_true, not_true_eq_false, true_and, and_true, implies_true, qn_self, rI_i, rJ_l, rV_n, okZ0, okZ1, o0 hn, oT hn ho, exP (show P0 t e 0 5 = some t from rfl)]
  refine s87 hn ho hT1 hc hw hi (fun M2 he2 hT2 => ?_)
  simp only [false_imp_iff, true_imp_iff, not_false_eq_true, not_true_eq_false, true_and, and_true, implies_true, qn_self, rI_i, rJ_l, rV_n, okZ0, okZ1]
  exact hQ M2 (he1.c he2) hT2 (hP1.tc ho he2)
theorem s125n (hn : 44 ≤ nx) (h : CT M t ln is fc dn row nd) {x y : Int32} (hv : ¬ ((vl x ln ∧ vl y ln) ∧ ¬ x = y)) : aSem (d + 4) 125 [.ref 0, .int x, .int y] M N (P0 t e) nx Q ↔ Q (some (.int (nI 0))) M N (P0 t e) nx := by
  obtain ⟨ho, h22, hT, hc, hw, h64⟩ := h
  by_cases h1 : vl x ln
  · by_cases h2 : vl y ln
    · have h3 : x = y := Classical.byContradiction (fun q => hv ⟨⟨h1, h2⟩, q⟩)
      obtain ⟨l, hl, rfl⟩ := vl_of h1
      simp only [A125, B125_0, B125_11, B125_22, B125_27, false_imp_iff, true_imp_iff, not_false_eq_true, not_true_eq_false, true_and, and_true, implies_true, qn_self, rI_i, rJ_l, rV_n, okZ0, okZ1, o0 hn, oT hn ho, exP (show P0 t e 0 5 = some t from rfl), s63 hn ho hT hc hl, one0, ← h3]
    · obtain ⟨l, hl, rfl⟩ := vl_of h1
      simp only [A125, B125_0, B125_11, B125_27, false_imp_iff, true_imp_iff, not_false_eq_true, not_true_eq_false, true_and, and_true, implies_true, qn_self, rI_i, rJ_l, rV_n, okZ0, okZ1, o0 hn, oT hn ho, exP (show P0 t e 0 5 = some t from rfl), s63 hn ho hT hc hl, s63n hn ho hT hc h2, one0, eq_true nI_0]
  · simp only [A125, B125_0, B125_27, false_imp_iff, true_imp_iff, not_false_eq_true, not_true_eq_false, true_and, and_true, implies_true, qn_self, rI_i, rJ_l, rV_n, okZ0, okZ1, o0 hn, oT hn ho, exP (show P0 t e 0 5 = some t from rfl), s63n hn ho hT hc h1, eq_true nI_0]
theorem s125 (hn : 44 ≤ nx) (h : CT M t ln is fc dn row nd) (hP : PA M is u hs kp ks) {l p : Nat} (hl : l < ln) (hp : p < ln) (hlp : l ≠ p) (hQ : ∀ M', eqA t M M' → TD M' t ln is fc dn (mirG row l p 6 fc) nd → PA M' is (psU u) (psH u hs row) kp ks → Q (some (.int (nI 1))) M' N (P0 t e) nx) : aSem (d + 4) 125 [.ref 0, .int (nI l), .int (nI p)] M N (P0 t e) nx Q := by
  have h' := h
  obtain ⟨ho, h22, hT, hc, hw, h64⟩ := h
  have c6 := hc
  unfold wfC at c6
  simp only [A125, B125_0, B125_11, B125_22, B125_29, false_imp_iff, true_imp_iff, not_false_eq_true, not_true_eq_false, true_and, and_true, implies_true, qn_self, rI_i, rJ_l, rV_n, okZ0, okZ1, o0 hn, oT hn ho, o25 hn, exP (show P0 t e 0 5 = some t from rfl), exP (show P0 t e 0 4 = some 25 from rfl), s63 hn ho hT hc hl, s63 hn ho hT hc hp, one0, nI_eq (show l < 2 ^ 31 by omega) (show p < 2 ^ 31 by omega), hlp]
  refine rem9 hn h' hP (fun M1 he1 hT1 hP1 => ?_)
  simp only [false_imp_iff, true_imp_iff, not_false_eq_true, not_true_eq_false, true_and, and_true, implies_true, qn_self, rI_i, rJ_l, rV_n, okZ0, okZ1, o0 hn, oT hn ho, exP (show P0 t e 0 5 = some t from rfl)]
  refine s89 hn ho hT1 hc hw hl hp hlp (fun M2 he2 hT2 => ?_)
  simp only [false_imp_iff, true_imp_iff, not_false_eq_true, not_true_eq_false, true_and, and_true, implies_true, qn_self, rI_i, rJ_l, rV_n, okZ0, okZ1]
  exact hQ M2 (he1.c he2) hT2 (hP1.tc ho he2)
theorem s126z (hn : 44 ≤ nx) (hP : PA M is 0 hs kp ks) : aSem (d + 3) 126 [.ref 0] M N (P0 t e) nx Q ↔ Q (some (.int ng1)) M N (P0 t e) nx := by
  simp only [A126, B126_0, B126_24, B126_25, false_imp_iff, true_imp_iff, not_false_eq_true, not_true_eq_false, true_and, and_true, implies_true, qn_self, rI_i, rJ_l, rV_n, okZ0, okZ1, o0 hn, o25 hn, exP (show P0 t e 0 5 = some t from rfl), exP (show P0 t e 0 4 = some 25 from rfl), s10z hn hP, eq_true nI_0]
theorem s126 (hn : 44 ≤ nx) (h : CT M t ln is fc dn row nd) (hP : PA M is (u + 1) hs kp ks) (hQ : ∀ M', eqA t M M' → TD M' t ln is fc dn (hs u) nd → PA M' is u hs kp ks → Q (some (.int (nI u))) M' N (P0 t e) nx) : aSem (d + 3) 126 [.ref 0] M N (P0 t e) nx Q := by
  obtain ⟨ho, h22, hT, hc, hw, h64⟩ := h
  simp only [A126, B126_0, false_imp_iff, true_imp_iff, not_false_eq_true, not_true_eq_false, true_and, and_true, implies_true, qn_self, rI_i, rJ_l, rV_n, okZ0, okZ1, o0 hn, o25 hn, exP (show P0 t e 0 5 = some t from rfl), exP (show P0 t e 0 4 = some 25 from rfl)]
  refine s10 hn ho hT hP (fun M1 he1 hT1 hP1 => ?_)
  have h4 : M1 25 4 = nI u := by
    obtain ⟨p, w, g1, g2, g3, g4, -⟩ := hP1
    exact g4
  simp only [false_imp_iff, true_imp_iff, not_false_eq_true, not_true_eq_false, true_and, and_true, implies_true, qn_self, rI_i, rJ_l, rV_n, okZ0, okZ1, one0, B126_14, B126_25, o0 hn, o25 hn, exP (show P0 t e 0 4 = some 25 from rfl), h4]
  exact hQ M1 (fun a h1 h2 h3 h4 => he1 a h2 h1) hT1 hP1
theorem s127n (hn : 44 ≤ nx) {x z : Int32} (hv : ¬ vl x 2) : aSem (d + 3) 127 [.ref 0, .int x, .int z] M N (P0 t e) nx Q ↔ Q (some (.int (nI 0))) M N (P0 t e) nx := by
  by_cases hz : z = 0
  · simp only [A127, B127_0, B127_19, B127_31, false_imp_iff, true_imp_iff, not_false_eq_true, not_true_eq_false, true_and, and_true, implies_true, qn_self, rI_i, rJ_l, rV_n, okZ0, okZ1, hz, o0 hn, o25 hn, exP (show P0 t e 0 5 = some t from rfl), exP (show P0 t e 0 4 = some 25 from rfl), s11n hn hv]
  · simp only [A127, B127_0, B127_4, B127_31, false_imp_iff, true_imp_iff, not_false_eq_true, not_true_eq_false, true_and, and_true, implies_true, qn_self, rI_i, rJ_l, rV_n, okZ0, okZ1, hz, o0 hn, o25 hn, exP (show P0 t e 0 5 = some t from rfl), exP (show P0 t e 0 4 = some 25 from rfl), s12n hn hv]
theorem s127z (hn : 44 ≤ nx) (hP : PA M is u hs kp ks) {k : Nat} {z : Int32} (hk : k < 2) (hz : ¬ z = 0) (hkp : ¬ kp k = true) : aSem (d + 3) 127 [.ref 0, .int (nI k), .int z] M N (P0 t e) nx Q ↔ Q (some (.int (nI 0))) M N (P0 t e) nx := by
  simp only [A127, B127_0, B127_4, B127_31, false_imp_iff, true_imp_iff, not_false_eq_true, not_true_eq_false, true_and, and_true, implies_true, qn_self, rI_i, rJ_l, rV_n, okZ0, okZ1, hz, o0 hn, o25 hn, exP (show P0 t e 0 5 = some t from rfl), exP (show P0 t e 0 4 = some 25 from rfl), s12z hn hP hk hkp]
theorem s127b (hn : 44 ≤ nx) (h : CT M t ln is fc dn row nd) (hP : PA M is u hs kp ks) {k : Nat} {z : Int32} (hk : k < 2) (hz : ¬ z = 0) (hkp : kp k = true) (hQ : ∀ M', eqA t M M' → TD M' t ln is fc dn (ks k) nd → PA M' is 0 hs kp ks → Q (some (.int (nI 1))) M' N (P0 t e) nx) : aSem (d + 3) 127 [.ref 0, .int (nI k), .int z] M N (P0 t e) nx Q := by
  obtain ⟨ho, h22, hT, hc, hw, h64⟩ := h
  simp only [A127, B127_0, B127_4, false_imp_iff, true_imp_iff, not_false_eq_true, not_true_eq_false, true_and, and_true, implies_true, qn_self, rI_i, rJ_l, rV_n, okZ0, okZ1, hz, o0 hn, o25 hn, exP (show P0 t e 0 5 = some t from rfl), exP (show P0 t e 0 4 = some 25 from rfl)]
  refine s12 hn ho hT hP hk hkp (fun M1 he1 hT1 hP1 => ?_)
  simp only [false_imp_iff, true_imp_iff, not_false_eq_true, not_true_eq_false, true_and, and_true, implies_true, qn_self, rI_i, rJ_l, rV_n, okZ0, okZ1, B127_31]
  exact hQ M1 (fun a h1 h2 h3 h4 => he1 a h2 h1) hT1 hP1
theorem s127l (hn : 44 ≤ nx) (h : CT M t ln is fc dn row nd) (hP : PA M is u hs kp ks) {k : Nat} (hk : k < 2) (hQ : ∀ M', eqA t M M' → TD M' t ln is fc dn row nd → PA M' is u hs (va_up kp k true) (va_up ks k row) → Q (some (.int (nI 1))) M' N (P0 t e) nx) : aSem (d + 3) 127 [.ref 0, .int (nI k), .int 0] M N (P0 t e) nx Q := by
  obtain ⟨ho, h22, hT, hc, hw, h64⟩ := h
  have h25 := t25 ho
  simp only [A127, B127_0, B127_19, false_imp_iff, true_imp_iff, not_false_eq_true, not_true_eq_false, true_and, and_true, implies_true, qn_self, rI_i, rJ_l, rV_n, okZ0, okZ1, o0 hn, o25 hn, exP (show P0 t e 0 5 = some t from rfl), exP (show P0 t e 0 4 = some 25 from rfl)]
  refine s11 hn ho hT hP hk (fun M1 he1 hP1 => ?_)
  simp only [false_imp_iff, true_imp_iff, not_false_eq_true, not_true_eq_false, true_and, and_true, implies_true, qn_self, rI_i, rJ_l, rV_n, okZ0, okZ1, B127_31]
  exact hQ M1 (fun a h1 h2 h3 h4 => he1 a h2 h4) (hT.frame (he1 _ h25.1 h25.2.2.2.2.2.2.1) (he1 _ h25.2.1 h25.2.2.2.2.2.2.2.1) (he1 _ h25.2.2.1 h25.2.2.2.2.2.2.2.2)) hP1
end AC2
