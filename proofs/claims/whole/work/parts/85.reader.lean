/-! READER -/
def KW (M : aM) : Prop := ∀ j, j < 8 → M 4 j = nI (kwV j)
def NM (M : aM) (E : List (Nat × Nat × Nat)) : Prop := M 1 5 = nI E.length ∧ ∀ j x, E[j]? = some x → M 5 j = nI x.1 ∧ M 6 j = nI x.2.1 ∧ M 7 j = nI x.2.2
/-- memory but for what the reader writes -/
def eqD1 (e : Nat) (M M' : aM) : Prop := (∀ a, a ≠ 1 → a ≠ 2 → a ≠ 5 → a ≠ 6 → a ≠ 7 → a ≠ e → a ≠ e + 1 → a ≠ e + 2 → M' a = M a) ∧ M' 2 1 = M 2 1
def eqN1 (N N' : aN) : Prop := ∀ a, a ≠ 1 → N' a = N a
theorem isT.ge {e : Nat} (h : isT e) : 8 ≤ e := by rcases h with rfl | rfl | rfl <;> decide
theorem eqD1.p {e : Nat} {M M' M'' : aM} (h : eqD1 e M M') (h' : eqP M' M'') : eqD1 e M M'' := ⟨fun a x y z w p q r s => (h'.1 a y).trans (h.1 a x y z w p q r s), (h'.2 1 (by decide) (by decide) (by decide) (by decide)).trans h.2⟩
theorem TD.fr {M M' : aM} {o ln is fc dn : Nat} {row nd : Nat → Nat} (h : TD M o ln is fc dn row nd) (h1 : M' o = M o) (h2 : M' (o + 1) = M (o + 1)) (h3 : M' (o + 2) = M (o + 2)) : TD M' o ln is fc dn row nd := by
  unfold TD
  rw [h1, h2, h3]
  exact h
/-- what has been read lies there -/
def RC (M0 : aM) (N0 : aN) (e : Nat) (S : PSt) (M : aM) (N : aN) : Prop := eqD1 e M0 M ∧ eqN1 N0 N ∧ NM M S.2.2.2.1 ∧ TD M e (S.1 0) (S.1 1) (S.1 2) (S.1 3) S.2.1 S.2.2.1 ∧ BL (N 1 6) S.2.2.2.2
/-- a fault is told -/
def FL (M0 : aM) (N0 : aN) (e c : Nat) (M : aM) (N : aN) : Prop := eqD1 e M0 M ∧ eqN1 N0 N ∧ M 1 7 = nI c
def OUT (M0 : aM) (N0 : aN) (e n : Nat) (r : ER) (v : Int32) (M : aM) (N : aN) : Prop := match r with
  | .error c => v = nI 0 ∧ FL M0 N0 e c M N
  | .ok (S, q) => v = nI 1 ∧ RC M0 N0 e S M N ∧ TS M n q
theorem OUT.z {M0 : aM} {N0 : aN} {e n : Nat} {r : ER} {v : Int32} {M : aM} {N : aN} (h : OUT M0 N0 e n r v M N) : okZ v := by
  match r, h with
  | .error c, h => rw [h.1]; exact okZ0
  | .ok (S, q), h => rw [h.1]; exact okZ1
section RDR
variable {d : Nat} {M0 M : aM} {N0 N : aN} {P : aP} {t e nx n : Nat} {B : Nat → Nat} {S : PSt} {Q : aQ}
theorem RC.p {M' : aM} (h : RC M0 N0 e S M N) (he : isT e) (hp : eqP M M') : RC M0 N0 e S M' N := by
  have g := he.ge
  refine ⟨h.1.p hp, h.2.1, ?_, h.2.2.2.1.fr (hp.1 _ (by omega)) (hp.1 _ (by omega)) (hp.1 _ (by omega)), h.2.2.2.2⟩
  unfold NM
  rw [hp.1 1 (by decide), hp.1 5 (by decide), hp.1 6 (by decide), hp.1 7 (by decide)]
  exact h.2.2.1
theorem RC.by (h : RC M0 N0 e S M N) (he : isT e) (hb : BY M0 3 n B) : BY M 3 n B := fun k hk => by
  have g := he.ge
  rw [h.1.1 3 (by decide) (by decide) (by decide) (by decide) (by decide) (by omega) (by omega) (by omega)]; exact hb k hk
theorem RC.kw (h : RC M0 N0 e S M N) (he : isT e) (hb : KW M0) : KW M := fun k hk => by
  have g := he.ge
  rw [h.1.1 4 (by decide) (by decide) (by decide) (by decide) (by decide) (by omega) (by omega) (by omega)]; exact hb k hk
theorem RC.fl {c : Nat} (h : RC M0 N0 e S M N) : FL M0 N0 e c (uM M 1 7 (nI c)) N := ⟨⟨fun a x y z w p q r s => by rw [uM_ne x]; exact h.1.1 a x y z w p q r s, by rw [uM_a (by decide)]; exact h.1.2⟩, h.2.1, uM_k⟩
theorem s30 (hn : 44 ≤ nx) {c k : Nat} (h5 : M 2 5 = nI c) : aSem (d + 1) 30 [.ref 1, .int (nI k)] M N (P0 t e) nx Q ↔ Q (some (.int (nI 0))) (uM M 1 7 (nI (8 * c + k))) N (P0 t e) nx := by
  simp only [A30, B30_0, false_imp_iff, true_imp_iff, not_false_eq_true, not_true_eq_false, true_and, and_true, implies_true, qn_self, rI_i, rJ_l, rV_n, okZ0, okZ1, o1 hn, o2 hn, exP (show P0 t e 1 0 = some 2 from rfl), h5, okZ0, nI_mul, nI_add]
def kwC (k : Nat) : Int32 := if k = 8 then ng1 else nI k
theorem kwC_n {k : Nat} (h : k ≤ 8) : kwC k = ng1 ↔ k = 8 := by
  unfold kwC
  by_cases q : k = 8
  · rw [if_pos q]; exact ⟨fun _ => q, fun _ => rfl⟩
  · rw [if_neg q]; exact ⟨fun z => absurd z (nI_ng1 (by omega)), fun z => absurd z q⟩
theorem kwC_e {k j : Nat} (h : k ≤ 8) (hj : j < 8) : kwC k = nI j ↔ k = j := by
  unfold kwC
  by_cases q : k = 8
  · rw [if_pos q]; exact ⟨fun z => absurd z.symm (nI_ng1 (by omega)), fun z => by omega⟩
  · rw [if_neg q]; exact nI_eq (by omega) (by omega)
theorem x4 (hn : 44 ≤ nx) {K : Nat} {R : Nat → Prop} (h : K < 8) : (∃ k, okA nx 4 1 (nI K) k ∧ R k) ↔ R K := exA (show kindOf 4 = (1, 8) from rfl) (by omega) (by decide) h
theorem x5 (hn : 44 ≤ nx) {K : Nat} {R : Nat → Prop} (h : K < 22) : (∃ k, okA nx 5 1 (nI K) k ∧ R k) ↔ R K := exA (show kindOf 5 = (1, 22) from rfl) (by omega) (by decide) h
theorem x6 (hn : 44 ≤ nx) {K : Nat} {R : Nat → Prop} (h : K < 22) : (∃ k, okA nx 6 1 (nI K) k ∧ R k) ↔ R K := exA (show kindOf 6 = (1, 22) from rfl) (by omega) (by decide) h
theorem x7 (hn : 44 ≤ nx) {K : Nat} {R : Nat → Prop} (h : K < 22) : (∃ k, okA nx 7 1 (nI K) k ∧ R k) ↔ R K := exA (show kindOf 7 = (1, 22) from rfl) (by omega) (by decide) h
theorem l28 (hn : 44 ≤ nx) (hk : KW M) {v : Nat} (h6 : M 2 6 = nI v) (hv : v < 2 ^ 30) : ∀ m j, j + m = 8 → (∀ i, i < j → ¬ kwI v = i) → (WP (aSem d) g0 28 nx (qn nx Q) 13 [(0, .ref 1), (1, .int (nI j))] [] M N (P0 t e) nx ↔ Q (some (.int (kwC (kwI v)))) M N (P0 t e) nx) := by
  intro m
  induction m with
  | zero =>
    intro j hj hno
    have h8 : kwI v = 8 := by
      have := kwI_le v
      have := hno (kwI v)
      omega
    simp only [B28_13, B28_43, false_imp_iff, true_imp_iff, not_false_eq_true, not_true_eq_false, true_and, and_true, implies_true, qn_self, rI_i, rJ_l, rV_n, okZ0, okZ1, nI_le (show 8 ≤ j by omega) (show j < 2 ^ 31 by omega), h8]
    unfold kwC
    rw [if_pos rfl]
  | succ m ih =>
    intro j hj hno
    have a1 := kwV_lt j (by omega)
    simp only [B28_13, false_imp_iff, true_imp_iff, not_false_eq_true, not_true_eq_false, true_and, and_true, implies_true, qn_self, rI_i, rJ_l, rV_n, okZ0, okZ1, nI_ge (show j < 8 by omega) (show 8 < 2 ^ 31 by decide)]
    simp only [B28_19, B28_35, B28_37, false_imp_iff, true_imp_iff, not_false_eq_true, not_true_eq_false, true_and, and_true, implies_true, qn_self, rI_i, rJ_l, rV_n, okZ0, okZ1, o1 hn, o2 hn, exP (show P0 t e 1 1 = some 4 from rfl), exP (show P0 t e 1 0 = some 2 from rfl), x4 hn (show j < 8 by omega), hk j (by omega), h6, nI_eq (show kwV j < 2 ^ 31 by omega) (show v < 2 ^ 31 by omega), nI_add]
    by_cases q : kwV j = v
    · have q2 : kwI v = j := (kwI_V (by omega)).mpr q.symm
      simp only [q, false_imp_iff, true_imp_iff, not_false_eq_true, not_true_eq_false, true_and, and_true, implies_true, qn_self, rI_i, rJ_l, rV_n, okZ0, okZ1, q2]
      unfold kwC
      rw [if_neg (by omega)]
    · simp only [q, false_imp_iff, true_imp_iff, not_false_eq_true, not_true_eq_false, true_and, and_true, implies_true, qn_self, rI_i, rJ_l, rV_n, okZ0, okZ1]
      rw [ih (j + 1) (by omega) (fun i hi z => ?_)]
      by_cases w : i = j
      · subst w; exact q ((kwI_V (by omega)).mp z).symm
      · exact hno i (by omega) z
theorem s28 (hn : 44 ≤ nx) (hk : KW M) {p : Nat} (hT : TO M B n p) : aSem (d + 1) 28 [.ref 1] M N (P0 t e) nx Q ↔ Q (some (.int (kwC (kwT B n p)))) M N (P0 t e) nx := by
  unfold kwT
  have h5 := tK_le (B := B) (n := n) (p := p)
  simp only [A28, B28_0, false_imp_iff, true_imp_iff, not_false_eq_true, not_true_eq_false, true_and, and_true, implies_true, qn_self, rI_i, rJ_l, rV_n, okZ0, okZ1, o1 hn, o2 hn, exP (show P0 t e 1 0 = some 2 from rfl), hT.2.2.2.1, nI_eq (show tK B n p < 2 ^ 31 by omega) (show 1 < 2 ^ 31 by decide)]
  by_cases q : tK B n p = 1
  · simp only [q, false_imp_iff, true_imp_iff, not_false_eq_true, not_true_eq_false, true_and, and_true, implies_true, qn_self, rI_i, rJ_l, rV_n, okZ0, okZ1, if_true, B28_11]
    exact l28 hn hk (hT.2.2.2.2.2.1 (Or.inl q)) (tV_w q) 8 0 (by omega) (fun i hi => by omega)
  · simp only [q, false_imp_iff, true_imp_iff, not_false_eq_true, not_true_eq_false, true_and, and_true, implies_true, qn_self, rI_i, rJ_l, rV_n, okZ0, okZ1, if_false, B28_43]
    exact Iff.rfl
theorem kwT_le {p : Nat} : kwT B n p ≤ 8 := by
  unfold kwT
  split
  · exact kwI_le _
  · exact Nat.le_refl _
theorem isN_k {p : Nat} : isN B n p = true ↔ tK B n p = 1 ∧ kwT B n p = 8 := by
  unfold isN kwT
  rw [Bool.and_eq_true, beq_iff_eq, beq_iff_eq]
  constructor
  · intro h; rw [if_pos h.1]; exact h
  · intro h; rw [if_pos h.1] at h; exact h
theorem s27 (hn : 44 ≤ nx) (hk : KW M) {p : Nat} (hT : TO M B n p) : aSem (d + 2) 27 [.ref 1] M N (P0 t e) nx Q ↔ Q (some (.int (if isN B n p = true then nI 1 else nI 0))) M N (P0 t e) nx := by
  have h5 := tK_le (B := B) (n := n) (p := p)
  simp only [A27, B27_0, false_imp_iff, true_imp_iff, not_false_eq_true, not_true_eq_false, true_and, and_true, implies_true, qn_self, rI_i, rJ_l, rV_n, okZ0, okZ1, o1 hn, o2 hn, exP (show P0 t e 1 0 = some 2 from rfl), hT.2.2.2.1, nI_eq (show tK B n p < 2 ^ 31 by omega) (show 1 < 2 ^ 31 by decide)]
  by_cases q : tK B n p = 1
  · simp only [q, false_imp_iff, true_imp_iff, not_false_eq_true, not_true_eq_false, true_and, and_true, implies_true, qn_self, rI_i, rJ_l, rV_n, okZ0, okZ1, B27_11, o1 hn, s28 hn hk hT, kwC_n kwT_le]
    by_cases w : kwT B n p = 8
    · simp only [w, false_imp_iff, true_imp_iff, not_false_eq_true, not_true_eq_false, true_and, and_true, implies_true, qn_self, rI_i, rJ_l, rV_n, okZ0, okZ1, B27_19, B27_24, okZ1, if_pos (isN_k.mpr ⟨q, w⟩)]
    · simp only [w, false_imp_iff, true_imp_iff, not_false_eq_true, not_true_eq_false, true_and, and_true, implies_true, qn_self, rI_i, rJ_l, rV_n, okZ0, okZ1, B27_23, B27_24, okZ0, if_neg (fun z => w (isN_k.mp z).2)]
  · simp only [q, false_imp_iff, true_imp_iff, not_false_eq_true, not_true_eq_false, true_and, and_true, implies_true, qn_self, rI_i, rJ_l, rV_n, okZ0, okZ1, B27_23, B27_24, okZ0, if_neg (fun z => q (isN_k.mp z).1)]
theorem l29 (hn : 44 ≤ nx) {E : List (Nat × Nat × Nat)} (h : NM M E) (hE : ∀ x ∈ E, x.1 < 2 ^ 30) (h22 : E.length ≤ 22) {w : Nat} (hw : w < 2 ^ 30) (hN : (∀ x ∈ E, ¬ x.1 = w) → Q (some (.int ng1)) M N (P0 t e) nx) (hO : ∀ j x, E[j]? = some x → x.1 = w → Q (some (.int (nI j))) M N (P0 t e) nx) : ∀ m j, j + m = E.length → (∀ i x, i < j → E[i]? = some x → ¬ x.1 = w) → WP (aSem d) g0 29 nx (qn nx Q) 2 [(0, .ref 1), (1, .int (nI w)), (2, .int (nI j))] [] M N (P0 t e) nx := by
  intro m
  induction m with
  | zero =>
    intro j hj hno
    simp only [B29_2, B29_34, false_imp_iff, true_imp_iff, not_false_eq_true, not_true_eq_false, true_and, and_true, implies_true, qn_self, rI_i, rJ_l, rV_n, okZ0, okZ1, o1 hn, h.1, nI_le (show E.length ≤ j by omega) (show j < 2 ^ 31 by omega)]
    refine hN (fun x hx => ?_)
    obtain ⟨i, hi⟩ := List.getElem?_of_mem hx
    have : i < E.length := (List.getElem?_eq_some_iff.mp hi).1
    exact hno i x (by omega) hi
  | succ m ih =>
    intro j hj hno
    have hlt : j < E.length := by omega
    have hx : E[j]? = some E[j] := List.getElem?_eq_getElem hlt
    have b1 := hE _ (List.getElem_mem hlt)
    simp only [B29_2, false_imp_iff, true_imp_iff, not_false_eq_true, not_true_eq_false, true_and, and_true, implies_true, qn_self, rI_i, rJ_l, rV_n, okZ0, okZ1, o1 hn, h.1, nI_ge hlt (show E.length < 2 ^ 31 by omega)]
    simp only [B29_10, false_imp_iff, true_imp_iff, not_false_eq_true, not_true_eq_false, true_and, and_true, implies_true, qn_self, rI_i, rJ_l, rV_n, okZ0, okZ1, nI_ge (show j < 22 by omega) (show 22 < 2 ^ 31 by decide)]
    simp only [B29_16, B29_26, B29_28, false_imp_iff, true_imp_iff, not_false_eq_true, not_true_eq_false, true_and, and_true, implies_true, qn_self, rI_i, rJ_l, rV_n, okZ0, okZ1, o1 hn, exP (show P0 t e 1 2 = some 5 from rfl), x5 hn (show j < 22 by omega), (h.2 j _ hx).1, nI_eq (show E[j].1 < 2 ^ 31 by omega) (show w < 2 ^ 31 by omega), nI_add]
    refine ⟨fun q => ?_, fun q => hO j _ hx q⟩
    refine ih (j + 1) (by omega) (fun i x hi hix => ?_)
    by_cases y : i = j
    · subst y
      rw [hx] at hix
      rw [← Option.some.inj hix]; exact q
    · exact hno i x (by omega) hix
theorem s29 (hn : 44 ≤ nx) {E : List (Nat × Nat × Nat)} (h : NM M E) (hE : ∀ x ∈ E, x.1 < 2 ^ 30) (h22 : E.length ≤ 22) {w : Nat} (hw : w < 2 ^ 30) (hN : (∀ x ∈ E, ¬ x.1 = w) → Q (some (.int ng1)) M N (P0 t e) nx) (hO : ∀ j x, E[j]? = some x → x.1 = w → Q (some (.int (nI j))) M N (P0 t e) nx) : aSem (d + 1) 29 [.ref 1, .int (nI w)] M N (P0 t e) nx Q := by
  simp only [A29, B29_0]
  exact l29 hn h hE h22 hw hN hO E.length 0 (by omega) (fun i x hi => by omega)
theorem s26 (hn : 44 ≤ nx) (he : isT e) (hb : BY M0 3 n B) (h : RC M0 N0 e S M N) {q : Nat} (hs : TS M n q) (hQ : ∀ v M' N', OUT M0 N0 e n (finM B n S q) v M' N' → Q (some (.int v)) M' N' (P0 t e) nx) : aSem (d + 4) 26 [.ref 1] M N (P0 t e) nx Q := by
  simp only [A26, B26_0, false_imp_iff, true_imp_iff, not_false_eq_true, not_true_eq_false, true_and, and_true, implies_true, qn_self, rI_i, rJ_l, rV_n, okZ0, okZ1, o1 hn, o2 hn, exP (show P0 t e 1 0 = some 2 from rfl)]
  refine s49 hn (h.by he hb) hs (fun M1 he1 hT => ?_)
  have h1 := h.p he he1
  have h5 := tK_le (B := B) (n := n) (p := q)
  simp only [false_imp_iff, true_imp_iff, not_false_eq_true, not_true_eq_false, true_and, and_true, implies_true, qn_self, rI_i, rJ_l, rV_n, okZ0, okZ1, o1 hn, o2 hn, exP (show P0 t e 1 0 = some 2 from rfl), hT.2.2.2.1, nI_eq (show tK B n q < 2 ^ 31 by omega) (show 3 < 2 ^ 31 by decide)]
  unfold finM at hQ
  refine ⟨fun z => ?_, fun z => ?_⟩
  · rw [if_pos z] at hQ
    simp only [B26_26, B26_31, false_imp_iff, true_imp_iff, not_false_eq_true, not_true_eq_false, true_and, and_true, implies_true, qn_self, rI_i, rJ_l, rV_n, okZ0, okZ1, okZ1]
    exact hQ _ _ _ ⟨rfl, h1, hT.ts⟩
  · rw [if_neg z] at hQ
    simp only [B26_18, B26_30, B26_31, false_imp_iff, true_imp_iff, not_false_eq_true, not_true_eq_false, true_and, and_true, implies_true, qn_self, rI_i, rJ_l, rV_n, okZ0, okZ1, o1 hn, s30 hn hT.2.2.2.2.1, eq_true nI_0, okZ0]
    exact hQ _ _ _ ⟨rfl, h1.fl⟩
theorem s25 (hn : 44 ≤ nx) (he : isT e) (hb : BY M0 3 n B) (h : RC M0 N0 e S M N) {q hi : Nat} (hs : TS M n q) (hh : hi < 100) (hE : ∀ M' c, (∀ f, numM B n hi q f = .error c) → FL M0 N0 e c M' N → Q (some (.int ng1)) M' N (P0 t e) nx) (hO : ∀ M', (∀ f, numM B n hi q f = f (tV B n q) (tE B n q)) → tV B n q ≤ hi → RC M0 N0 e S M' N → TO M' B n q → Q (some (.int (nI (tV B n q)))) M' N (P0 t e) nx) : aSem (d + 4) 25 [.ref 1, .int (nI hi)] M N (P0 t e) nx Q := by
  simp only [A25, B25_0, false_imp_iff, true_imp_iff, not_false_eq_true, not_true_eq_false, true_and, and_true, implies_true, qn_self, rI_i, rJ_l, rV_n, okZ0, okZ1, o1 hn, o2 hn, exP (show P0 t e 1 0 = some 2 from rfl)]
  refine s49 hn (h.by he hb) hs (fun M1 he1 hT => ?_)
  have h1 := h.p he he1
  have h5 := tK_le (B := B) (n := n) (p := q)
  simp only [false_imp_iff, true_imp_iff, not_false_eq_true, not_true_eq_false, true_and, and_true, implies_true, qn_self, rI_i, rJ_l, rV_n, okZ0, okZ1, o1 hn, o2 hn, exP (show P0 t e 1 0 = some 2 from rfl), hT.2.2.2.1, nI_eq (show tK B n q < 2 ^ 31 by omega) (show 2 < 2 ^ 31 by decide)]
  refine ⟨fun z => ?_, fun z => ?_⟩
  · have hv := tV_d z
    have h6 := hT.2.2.2.2.2.1 (Or.inr z)
    simp only [B25_26, false_imp_iff, true_imp_iff, not_false_eq_true, not_true_eq_false, true_and, and_true, implies_true, qn_self, rI_i, rJ_l, rV_n, okZ0, okZ1, o1 hn, o2 hn, exP (show P0 t e 1 0 = some 2 from rfl), h6, nI_leI (show tV B n q < 2 ^ 31 by omega) (show hi < 2 ^ 31 by omega)]
    refine ⟨fun w => ?_, fun w => ?_⟩
    · simp only [B25_45, false_imp_iff, true_imp_iff, not_false_eq_true, not_true_eq_false, true_and, and_true, implies_true, qn_self, rI_i, rJ_l, rV_n, okZ0, okZ1, o1 hn, o2 hn, exP (show P0 t e 1 0 = some 2 from rfl), h6]
      exact hO M1 (fun f => by unfold numM; rw [if_pos z, if_pos w]) w h1 hT
    · simp only [B25_37, false_imp_iff, true_imp_iff, not_false_eq_true, not_true_eq_false, true_and, and_true, implies_true, qn_self, rI_i, rJ_l, rV_n, okZ0, okZ1, o1 hn, s30 hn hT.2.2.2.2.1]
      exact hE _ _ (fun f => by unfold numM; rw [if_pos z, if_neg w]) h1.fl
  · simp only [B25_18, false_imp_iff, true_imp_iff, not_false_eq_true, not_true_eq_false, true_and, and_true, implies_true, qn_self, rI_i, rJ_l, rV_n, okZ0, okZ1, o1 hn, s30 hn hT.2.2.2.2.1]
    exact hE _ _ (fun f => by unfold numM; rw [if_neg z]) h1.fl
theorem s24 (hn : 44 ≤ nx) (he : isT e) (hk : KW M0) (h : RC M0 N0 e S M N) (hE : ∀ x ∈ S.2.2.2.1, x.1 < 2 ^ 30 ∧ x.2.1 < 4) (hnd : (S.2.2.2.1.map (fun x => x.1)).Nodup) (h22 : S.2.2.2.1.length ≤ 22) {q k : Nat} (hT : TO M B n q) (hk4 : k < 4) (hF : ∀ M' c, (∀ f, refM B n S.2.2.2.1 k q f = .error c) → FL M0 N0 e c M' N → Q (some (.int ng1)) M' N (P0 t e) nx) (hO : ∀ i, (∀ f, refM B n S.2.2.2.1 k q f = f i (tE B n q)) → (tV B n q, k, i) ∈ S.2.2.2.1 → Q (some (.int (nI i))) M N (P0 t e) nx) : aSem (d + 3) 24 [.ref 1, .int (nI k)] M N (P0 t e) nx Q := by
  have hk1 := h.kw he hk
  simp only [A24, B24_0, false_imp_iff, true_imp_iff, not_false_eq_true, not_true_eq_false, true_and, and_true, implies_true, qn_self, rI_i, rJ_l, rV_n, okZ0, okZ1, o1 hn, s27 hn hk1 hT]
  by_cases z : isN B n q = true
  · have z1 := (isN_k.mp z).1
    have hv := tV_w z1
    simp only [z, if_true, one0, false_imp_iff, true_imp_iff, not_false_eq_true, not_true_eq_false, true_and, and_true, implies_true, qn_self, rI_i, rJ_l, rV_n, okZ0, okZ1, B24_15, o1 hn, o2 hn, exP (show P0 t e 1 0 = some 2 from rfl), hT.2.2.2.2.2.1 (Or.inl z1)]
    refine s29 hn h.2.2.1 (fun x hx => (hE x hx).1) h22 hv (fun hno => ?_) (fun j x hj hx => ?_)
    · simp only [false_imp_iff, true_imp_iff, not_false_eq_true, not_true_eq_false, true_and, and_true, implies_true, qn_self, rI_i, rJ_l, rV_n, okZ0, okZ1, ng1_lt0, B24_47, o1 hn, s30 hn hT.2.2.2.2.1]
      exact hF _ _ (fun f => by unfold refM; rw [if_pos z, lkF_no (E := S.2.2.2.1) (k := k) (w := tV B n q) (fun i hi => hno _ hi rfl)]) h.fl
    · have hl : j < S.2.2.2.1.length := (List.getElem?_eq_some_iff.mp hj).1
      have hm : x ∈ S.2.2.2.1 := List.mem_of_getElem? hj
      have g := h.2.2.1.2 j x hj
      have g4 := (hE x hm).2
      simp only [false_imp_iff, true_imp_iff, not_false_eq_true, not_true_eq_false, true_and, and_true, implies_true, qn_self, rI_i, rJ_l, rV_n, okZ0, okZ1, nI_pos (show j < 2 ^ 31 by omega), B24_31, nI_ge (show j < 22 by omega) (show 22 < 2 ^ 31 by decide), B24_37, o1 hn, exP (show P0 t e 1 3 = some 6 from rfl), x6 hn (show j < 22 by omega), g.2.1, nI_eq (show x.2.1 < 2 ^ 31 by omega) (show k < 2 ^ 31 by omega)]
      have ex : x = (tV B n q, x.2.1, x.2.2) := by rw [← hx]
      refine ⟨fun w => ?_, fun w => ?_⟩
      · simp only [B24_55, false_imp_iff, true_imp_iff, not_false_eq_true, not_true_eq_false, true_and, and_true, implies_true, qn_self, rI_i, rJ_l, rV_n, okZ0, okZ1, o1 hn, exP (show P0 t e 1 4 = some 7 from rfl), x7 hn (show j < 22 by omega), g.2.2]
        have hin : (tV B n q, k, x.2.2) ∈ S.2.2.2.1 := by rw [← w, ← ex]; exact hm
        exact hO _ (fun f => by unfold refM; rw [if_pos z, lkF_in hnd hin]) hin
      · simp only [B24_47, false_imp_iff, true_imp_iff, not_false_eq_true, not_true_eq_false, true_and, and_true, implies_true, qn_self, rI_i, rJ_l, rV_n, okZ0, okZ1, o1 hn, s30 hn hT.2.2.2.2.1]
        refine hF _ _ (fun f => ?_) h.fl
        unfold refM
        rw [if_pos z, lkF_no (E := S.2.2.2.1) (k := k) (w := tV B n q) (fun i hi => ?_)]
        have := nd_in hnd _ hi x hm hx.symm
        exact w (by rw [← this])
  · simp only [z, if_false, Bool.false_eq_true, eq_true nI_0, false_imp_iff, true_imp_iff, not_false_eq_true, not_true_eq_false, true_and, and_true, implies_true, qn_self, rI_i, rJ_l, rV_n, okZ0, okZ1, B24_7, o1 hn, s30 hn hT.2.2.2.2.1]
    exact hF _ _ (fun f => by unfold refM; rw [if_neg z]) h.fl
theorem s23 (hn : 44 ≤ nx) (he : isT e) (hk : KW M0) (hb : BY M0 3 n B) (h : RC M0 N0 e S M N) (hE : ∀ x ∈ S.2.2.2.1, x.1 < 2 ^ 30) (h22 : S.2.2.2.1.length < 22) {q k i : Nat} (hs : TS M n q) (hF : ∀ M' c, (∀ f, nameM B n S.2.2.2.1 q f = .error c) → FL M0 N0 e c M' N → Q (some (.int (nI 0))) M' N (P0 t e) nx) (hO : ∀ M', (∀ f, nameM B n S.2.2.2.1 q f = f (tV B n q) (tE B n q)) → tV B n q < 2 ^ 30 → ¬ lkA S.2.2.2.1 (tV B n q) = true → RC M0 N0 e (S.1, S.2.1, S.2.2.1, S.2.2.2.1 ++ [(tV B n q, k, i)], S.2.2.2.2) M' N → TO M' B n q → Q (some (.int (nI 1))) M' N (P0 t e) nx) : aSem (d + 4) 23 [.ref 1, .int (nI k), .int (nI i)] M N (P0 t e) nx Q := by
  simp only [A23, B23_0, false_imp_iff, true_imp_iff, not_false_eq_true, not_true_eq_false, true_and, and_true, implies_true, qn_self, rI_i, rJ_l, rV_n, okZ0, okZ1, o1 hn, o2 hn, exP (show P0 t e 1 0 = some 2 from rfl)]
  refine s49 hn (h.by he hb) hs (fun M1 he1 hT => ?_)
  have h1 := h.p he he1
  have hk1 := h1.kw he hk
  have g8 := he.ge
  simp only [false_imp_iff, true_imp_iff, not_false_eq_true, not_true_eq_false, true_and, and_true, implies_true, qn_self, rI_i, rJ_l, rV_n, okZ0, okZ1, o1 hn, s27 hn hk1 hT]
  by_cases z : isN B n q = true
  · have z1 := (isN_k.mp z).1
    have hv := tV_w z1
    have h6 := hT.2.2.2.2.2.1 (Or.inl z1)
    simp only [z, if_true, one0, false_imp_iff, true_imp_iff, not_false_eq_true, not_true_eq_false, true_and, and_true, implies_true, qn_self, rI_i, rJ_l, rV_n, okZ0, okZ1, B23_20, o1 hn, o2 hn, exP (show P0 t e 1 0 = some 2 from rfl), h6]
    refine s29 hn h1.2.2.1 hE (by omega) hv (fun hno => ?_) (fun j x hj hx => ?_)
    · have hA : ¬ lkA S.2.2.2.1 (tV B n q) = true := fun y => by
        obtain ⟨x, hx, hx2⟩ := lkA_t.mp y
        exact hno x hx hx2
      have m5 : M1 1 5 = nI S.2.2.2.1.length := h1.2.2.1.1
      have k1 : uM M1 5 S.2.2.2.1.length (nI (tV B n q)) 1 5 = nI S.2.2.2.1.length := by rw [uM_a (by decide)]; exact m5
      have k2 : uM (uM M1 5 S.2.2.2.1.length (nI (tV B n q))) 6 S.2.2.2.1.length (nI k) 1 5 = nI S.2.2.2.1.length := by rw [uM_a (by decide), uM_a (by decide)]; exact m5
      have k3 : uM (uM (uM M1 5 S.2.2.2.1.length (nI (tV B n q))) 6 S.2.2.2.1.length (nI k)) 7 S.2.2.2.1.length (nI i) 1 5 = nI S.2.2.2.1.length := by rw [uM_a (by decide), uM_a (by decide), uM_a (by decide)]; exact m5
      simp only [false_imp_iff, true_imp_iff, not_false_eq_true, not_true_eq_false, true_and, and_true, implies_true, qn_self, rI_i, rJ_l, rV_n, okZ0, okZ1, B23_41, o1 hn, m5, nI_ge h22 (show 22 < 2 ^ 31 by decide)]
      simp only [B23_50, B23_96, false_imp_iff, true_imp_iff, not_false_eq_true, not_true_eq_false, true_and, and_true, implies_true, qn_self, rI_i, rJ_l, rV_n, okZ0, okZ1, o1 hn, o2 hn, exP (show P0 t e 1 0 = some 2 from rfl), exP (show P0 t e 1 2 = some 5 from rfl), exP (show P0 t e 1 3 = some 6 from rfl), exP (show P0 t e 1 4 = some 7 from rfl), m5, h6, x5 hn h22, k1, x6 hn h22, k2, x7 hn h22, k3, okZ1, nI_add]
      have hT2 : TO (uM (uM (uM (uM M1 5 S.2.2.2.1.length (nI (tV B n q))) 6 S.2.2.2.1.length (nI k)) 7 S.2.2.2.1.length (nI i)) 1 5 (nI (S.2.2.2.1.length + 1))) B n q := by
        unfold TO
        rw [uM_ne (show 2 ≠ 1 by decide), uM_ne (show 2 ≠ 7 by decide), uM_ne (show 2 ≠ 6 by decide), uM_ne (show 2 ≠ 5 by decide)]
        exact hT
      refine hO _ (fun f => by unfold nameM; rw [if_pos z, if_neg hA]) hv hA ⟨⟨fun a x y z w p q r s => ?_, ?_⟩, h1.2.1, ⟨?_, fun j x hj => ?_⟩, ?_, h1.2.2.2.2⟩ hT2
      · rw [uM_ne x, uM_ne p, uM_ne w, uM_ne z]; exact h1.1.1 a x y z w p q r s
      · rw [uM_a (by decide), uM_a (by decide), uM_a (by decide), uM_a (by decide)]; exact h1.1.2
      · rw [uM_k]
        show nI _ = nI (S.2.2.2.1 ++ [(tV B n q, k, i)]).length
        rw [List.length_append, List.length_singleton]
      · have r5 : (uM (uM (uM (uM M1 5 S.2.2.2.1.length (nI (tV B n q))) 6 S.2.2.2.1.length (nI k)) 7 S.2.2.2.1.length (nI i)) 1 5 (nI (S.2.2.2.1.length + 1))) 5 = va_up (M1 5) S.2.2.2.1.length (nI (tV B n q)) := by rw [uM_ne (show 5 ≠ 1 by decide), uM_ne (show 5 ≠ 7 by decide), uM_ne (show 5 ≠ 6 by decide), uM_eq]
        have r6 : (uM (uM (uM (uM M1 5 S.2.2.2.1.length (nI (tV B n q))) 6 S.2.2.2.1.length (nI k)) 7 S.2.2.2.1.length (nI i)) 1 5 (nI (S.2.2.2.1.length + 1))) 6 = va_up (M1 6) S.2.2.2.1.length (nI k) := by rw [uM_ne (show 6 ≠ 1 by decide), uM_ne (show 6 ≠ 7 by decide), uM_eq, uM_ne (show 6 ≠ 5 by decide)]
        have r7 : (uM (uM (uM (uM M1 5 S.2.2.2.1.length (nI (tV B n q))) 6 S.2.2.2.1.length (nI k)) 7 S.2.2.2.1.length (nI i)) 1 5 (nI (S.2.2.2.1.length + 1))) 7 = va_up (M1 7) S.2.2.2.1.length (nI i) := by rw [uM_ne (show 7 ≠ 1 by decide), uM_eq, uM_ne (show 7 ≠ 6 by decide), uM_ne (show 7 ≠ 5 by decide)]
        rw [r5, r6, r7]
        have hj2 : (S.2.2.2.1 ++ [(tV B n q, k, i)])[j]? = some x := hj
        by_cases y : j = S.2.2.2.1.length
        · subst y
          rw [List.getElem?_append_right (Nat.le_refl _), Nat.sub_self] at hj2
          have hx : (tV B n q, k, i) = x := by simpa using hj2
          rw [← hx, up_eq, up_eq, up_eq]
          exact ⟨rfl, rfl, rfl⟩
        · have hlt : j < S.2.2.2.1.length := by
            have := (List.getElem?_eq_some_iff.mp hj2).1
            rw [List.length_append, List.length_singleton] at this
            omega
          rw [List.getElem?_append_left hlt] at hj2
          rw [up_ne y, up_ne y, up_ne y]
          exact h1.2.2.1.2 j x hj2
      · exact h1.2.2.2.1.fr (by rw [uM_ne (by omega), uM_ne (by omega), uM_ne (by omega), uM_ne (by omega)]) (by rw [uM_ne (by omega), uM_ne (by omega), uM_ne (by omega), uM_ne (by omega)]) (by rw [uM_ne (by omega), uM_ne (by omega), uM_ne (by omega), uM_ne (by omega)])
    · have hA : lkA S.2.2.2.1 (tV B n q) = true := lkA_t.mpr ⟨x, List.mem_of_getElem? hj, hx⟩
      have hl : j < S.2.2.2.1.length := (List.getElem?_eq_some_iff.mp hj).1
      simp only [false_imp_iff, true_imp_iff, not_false_eq_true, not_true_eq_false, true_and, and_true, implies_true, qn_self, rI_i, rJ_l, rV_n, okZ0, okZ1, nI_ng1 (show j < 2 ^ 31 by omega), B23_35, o1 hn, s30 hn hT.2.2.2.2.1, okZ0]
      exact hF _ _ (fun f => by unfold nameM; rw [if_pos z, if_pos hA]) h1.fl
  · simp only [z, if_false, Bool.false_eq_true, eq_true nI_0, false_imp_iff, true_imp_iff, not_false_eq_true, not_true_eq_false, true_and, and_true, implies_true, qn_self, rI_i, rJ_l, rV_n, okZ0, okZ1, B23_14, o1 hn, s30 hn hT.2.2.2.2.1, okZ0]
    exact hF _ _ (fun f => by unfold nameM; rw [if_neg z]) h1.fl
end RDR
