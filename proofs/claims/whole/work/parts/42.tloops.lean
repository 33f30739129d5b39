/-! TOLD: loops -/
def cntF (p : Nat → Bool) (i : Nat) : Nat → Nat
  | 0 => 0
  | n + 1 => (if p i then 1 else 0) + cntF p (i + 1) n
def bitF (p : Nat → Bool) (i : Nat) : Nat → Nat
  | 0 => 0
  | n + 1 => (if p i then 2 ^ i else 0) + bitF p (i + 1) n
def sumF (f : Nat → Nat) (i : Nat) : Nat → Nat
  | 0 => 0
  | n + 1 => f i + sumF f (i + 1) n
theorem cntF_le (p : Nat → Bool) : ∀ n i, cntF p i n ≤ n
  | 0, _ => Nat.le_refl _
  | n + 1, i => by
    have := cntF_le p n (i + 1)
    unfold cntF
    split <;> omega
theorem or6 : ∀ i, i < 6 → ∀ b, b < 2 ^ i → nI b ||| (nI 1 <<< (nI i &&& 31)) = nI (b + 2 ^ i) := by decide +kernel
theorem pow6 {i : Nat} (h : i < 6) : 2 ^ i ≤ 32 := by
  have : ∀ i, i < 6 → 2 ^ i ≤ 32 := by decide
  exact this i h
section TLL
variable {d : Nat} {M : aM} {N : aN} {t e nx o ln is fc dn : Nat} {row nd : Nat → Nat} {Q : aQ}
/-- a rule is told of l and i -/
def hasR (row : Nat → Nat) (l i : Nat) : Bool := !(row (11 + (6 * l + i)) == 0)
theorem hasR_t {l i : Nat} : hasR row l i = true ↔ ¬ row (11 + (6 * l + i)) = 0 := by unfold hasR; simp
-- rulesOf
theorem l80 (hn : 44 ≤ nx) (ho : isT o) (hT : TD M o ln is fc dn row nd) (hc : wfC ln is fc dn) (hr : wfR ln is fc row) {l : Nat} (hl : l < ln) : ∀ n i c, i + n = is → (WP (aSem (d + 3)) g0 80 nx (qn nx Q) 4 [(0, .ref o), (1, .int (nI l)), (2, .int (nI c)), (3, .int (nI i))] [] M N (P0 t e) nx ↔ Q (some (.int (nI (c + cntF (hasR row l) i n)))) M N (P0 t e) nx) := by
  have c6 := hc
  unfold wfC at c6
  intro n
  induction n with
  | zero =>
    intro i c hi
    simp only [B80_4, B80_31, false_imp_iff, true_imp_iff, not_false_eq_true, not_true_eq_false, true_and, and_true, implies_true, qn_self, rI_i, rJ_l, rV_n, okZ0, okZ1, oT hn ho, hT.2.1, nI_le (show is ≤ i by omega) (show i < 2 ^ 31 by omega), cntF, Nat.add_zero]
  | succ n ih =>
    intro i c hi
    have hb := hr.2.2.1 (11 + (6 * l + i)) (by omega) (by omega)
    simp only [B80_4, B80_12, false_imp_iff, true_imp_iff, not_false_eq_true, not_true_eq_false, true_and, and_true, implies_true, qn_self, rI_i, rJ_l, rV_n, okZ0, okZ1, oT hn ho, hT.2.1, nI_ge (show i < is by omega) (show is < 2 ^ 31 by omega), s76 hn ho hT hc hl (show i < is by omega), oI_ng (show row (11 + (6 * l + i)) < 2 ^ 31 by omega)]
    by_cases h : row (11 + (6 * l + i)) = 0
    · simp only [h, false_imp_iff, true_imp_iff, not_false_eq_true, not_true_eq_false, true_and, and_true, implies_true, qn_self, rI_i, rJ_l, rV_n, okZ0, okZ1, B80_25, nI_add, ih (i + 1) c (by omega), cntF, hasR, beq_self_eq_true, Bool.not_true, Bool.false_eq_true, if_false, Nat.zero_add]
    · simp only [h, false_imp_iff, true_imp_iff, not_false_eq_true, not_true_eq_false, true_and, and_true, implies_true, qn_self, rI_i, rJ_l, rV_n, okZ0, okZ1, B80_22, B80_25, nI_add, ih (i + 1) (c + 1) (by omega), cntF, hasR_t, if_true, Nat.add_assoc]
theorem s80 (hn : 44 ≤ nx) (ho : isT o) (hT : TD M o ln is fc dn row nd) (hc : wfC ln is fc dn) (hr : wfR ln is fc row) {l : Nat} (hl : l < ln) : aSem (d + 4) 80 [.ref o, .int (nI l)] M N (P0 t e) nx Q ↔ Q (some (.int (nI (cntF (hasR row l) 0 is)))) M N (P0 t e) nx := by
  simp only [A80, B80_0, l80 hn ho hT hc hr hl is 0 0 (by omega), Nat.zero_add]
-- allRules
theorem l81 (hn : 44 ≤ nx) (ho : isT o) (hT : TD M o ln is fc dn row nd) (hc : wfC ln is fc dn) (hr : wfR ln is fc row) : ∀ n i c, i + n = ln → (WP (aSem (d + 4)) g0 81 nx (qn nx Q) 4 [(0, .ref o), (1, .int (nI c)), (2, .int (nI i))] [] M N (P0 t e) nx ↔ Q (some (.int (nI (c + sumF (fun l => cntF (hasR row l) 0 is) i n)))) M N (P0 t e) nx) := by
  have c6 := hc
  unfold wfC at c6
  intro n
  induction n with
  | zero =>
    intro i c hi
    simp only [B81_4, B81_26, false_imp_iff, true_imp_iff, not_false_eq_true, not_true_eq_false, true_and, and_true, implies_true, qn_self, rI_i, rJ_l, rV_n, okZ0, okZ1, oT hn ho, hT.1, nI_le (show ln ≤ i by omega) (show i < 2 ^ 31 by omega), sumF, Nat.add_zero]
  | succ n ih =>
    intro i c hi
    simp only [B81_4, false_imp_iff, true_imp_iff, not_false_eq_true, not_true_eq_false, true_and, and_true, implies_true, qn_self, rI_i, rJ_l, rV_n, okZ0, okZ1, oT hn ho, hT.1, nI_ge (show i < ln by omega) (show ln < 2 ^ 31 by omega)]
    simp only [B81_12, false_imp_iff, true_imp_iff, not_false_eq_true, not_true_eq_false, true_and, and_true, implies_true, qn_self, rI_i, rJ_l, rV_n, okZ0, okZ1, oT hn ho, s80 hn ho hT hc hr (show i < ln by omega), nI_add, ih (i + 1) (c + cntF (hasR row i) 0 is) (by omega), sumF, Nat.add_assoc]
theorem s81 (hn : 44 ≤ nx) (ho : isT o) (hT : TD M o ln is fc dn row nd) (hc : wfC ln is fc dn) (hr : wfR ln is fc row) : aSem (d + 5) 81 [.ref o] M N (P0 t e) nx Q ↔ Q (some (.int (nI (sumF (fun l => cntF (hasR row l) 0 is) 0 ln)))) M N (P0 t e) nx := by
  simp only [A81, B81_0, l81 hn ho hT hc hr ln 0 0 (by omega), Nat.zero_add]
-- ruledIssues
theorem l82 (hn : 44 ≤ nx) (ho : isT o) (hT : TD M o ln is fc dn row nd) (hc : wfC ln is fc dn) (hr : wfR ln is fc row) {l : Nat} (hl : l < ln) : ∀ n i c, i + n = is → c < 2 ^ i → (WP (aSem (d + 3)) g0 82 nx (qn nx Q) 4 [(0, .ref o), (1, .int (nI l)), (2, .int (nI c)), (3, .int (nI i))] [] M N (P0 t e) nx ↔ Q (some (.int (nI (c + bitF (fun i => hasR row l (row (83 + i))) i n)))) M N (P0 t e) nx) := by
  have c6 := hc
  unfold wfC at c6
  intro n
  induction n with
  | zero =>
    intro i c hi hc2
    simp only [B82_4, B82_38, false_imp_iff, true_imp_iff, not_false_eq_true, not_true_eq_false, true_and, and_true, implies_true, qn_self, rI_i, rJ_l, rV_n, okZ0, okZ1, oT hn ho, hT.2.1, nI_le (show is ≤ i by omega) (show i < 2 ^ 31 by omega), bitF, Nat.add_zero]
  | succ n ih =>
    intro i c hi hc2
    have hh := hr.2.2.2.2 i (by omega)
    have hb := hr.2.2.1 (11 + (6 * l + row (83 + i))) (by omega) (by omega)
    have hp : 2 ^ (i + 1) = 2 * 2 ^ i := by rw [Nat.pow_succ]; omega
    simp only [B82_4, B82_12, false_imp_iff, true_imp_iff, not_false_eq_true, not_true_eq_false, true_and, and_true, implies_true, qn_self, rI_i, rJ_l, rV_n, okZ0, okZ1, oT hn ho, hT.2.1, nI_ge (show i < is by omega) (show is < 2 ^ 31 by omega), s83 hn ho hT hc (show i < is by omega), s76 hn ho hT hc hl hh, oI_ng (show row (11 + (6 * l + row (83 + i))) < 2 ^ 31 by omega)]
    by_cases h : row (11 + (6 * l + row (83 + i))) = 0
    · simp only [h, false_imp_iff, true_imp_iff, not_false_eq_true, not_true_eq_false, true_and, and_true, implies_true, qn_self, rI_i, rJ_l, rV_n, okZ0, okZ1, B82_32, nI_add, ih (i + 1) c (by omega) (by omega), bitF, hasR, beq_self_eq_true, Bool.not_true, Bool.false_eq_true, if_false, Nat.zero_add]
    · simp only [h, false_imp_iff, true_imp_iff, not_false_eq_true, not_true_eq_false, true_and, and_true, implies_true, qn_self, rI_i, rJ_l, rV_n, okZ0, okZ1, B82_26, B82_32, or6 i (by omega) c hc2, nI_add, ih (i + 1) (c + 2 ^ i) (by omega) (by omega), bitF, hasR_t, if_true, Nat.add_assoc]
theorem s82 (hn : 44 ≤ nx) (ho : isT o) (hT : TD M o ln is fc dn row nd) (hc : wfC ln is fc dn) (hr : wfR ln is fc row) {l : Nat} (hl : l < ln) : aSem (d + 4) 82 [.ref o, .int (nI l)] M N (P0 t e) nx Q ↔ Q (some (.int (nI (bitF (fun i => hasR row l (row (83 + i))) 0 is)))) M N (P0 t e) nx := by
  simp only [A82, B82_0, l82 hn ho hT hc hr hl is 0 0 (by omega) (by decide), Nat.zero_add]
-- issuesUnder
theorem l84 (hn : 44 ≤ nx) (ho : isT o) (hT : TD M o ln is fc dn row nd) (hc : wfC ln is fc dn) (hr : wfR ln is fc row) {h : Nat} (hh : h < 100) : ∀ n i c, i + n = is → (WP (aSem (d + 2)) g0 84 nx (qn nx Q) 4 [(0, .ref o), (1, .int (nI h)), (2, .int (nI c)), (3, .int (nI i))] [] M N (P0 t e) nx ↔ Q (some (.int (nI (c + cntF (fun i => row (83 + i) == h) i n)))) M N (P0 t e) nx) := by
  have c6 := hc
  unfold wfC at c6
  intro n
  induction n with
  | zero =>
    intro i c hi
    simp only [B84_4, B84_30, false_imp_iff, true_imp_iff, not_false_eq_true, not_true_eq_false, true_and, and_true, implies_true, qn_self, rI_i, rJ_l, rV_n, okZ0, okZ1, oT hn ho, hT.2.1, nI_le (show is ≤ i by omega) (show i < 2 ^ 31 by omega), cntF, Nat.add_zero]
  | succ n ih =>
    intro i c hi
    have hb := hr.2.2.2.2 i (by omega)
    simp only [B84_4, B84_12, false_imp_iff, true_imp_iff, not_false_eq_true, not_true_eq_false, true_and, and_true, implies_true, qn_self, rI_i, rJ_l, rV_n, okZ0, okZ1, oT hn ho, hT.2.1, nI_ge (show i < is by omega) (show is < 2 ^ 31 by omega), s83 hn ho hT hc (show i < is by omega), nI_eq (show row (83 + i) < 2 ^ 31 by omega) (show h < 2 ^ 31 by omega)]
    by_cases h2 : row (83 + i) = h
    · simp only [h2, false_imp_iff, true_imp_iff, not_false_eq_true, not_true_eq_false, true_and, and_true, implies_true, qn_self, rI_i, rJ_l, rV_n, okZ0, okZ1, B84_21, B84_24, nI_add, ih (i + 1) (c + 1) (by omega), cntF, beq_self_eq_true, if_true, Nat.add_assoc]
    · simp only [h2, false_imp_iff, true_imp_iff, not_false_eq_true, not_true_eq_false, true_and, and_true, implies_true, qn_self, rI_i, rJ_l, rV_n, okZ0, okZ1, B84_24, nI_add, ih (i + 1) c (by omega), cntF, beq_iff_eq, if_false, Nat.zero_add]
theorem s84 (hn : 44 ≤ nx) (ho : isT o) (hT : TD M o ln is fc dn row nd) (hc : wfC ln is fc dn) (hr : wfR ln is fc row) {h : Nat} (hh : h < 100) : aSem (d + 3) 84 [.ref o, .int (nI h)] M N (P0 t e) nx Q ↔ Q (some (.int (nI (cntF (fun i => row (83 + i) == h) 0 is)))) M N (P0 t e) nx := by
  simp only [A84, B84_0, l84 hn ho hT hc hr hh is 0 0 (by omega), Nat.zero_add]
-- unlikeHeads
theorem l85 (hn : 44 ≤ nx) (ho : isT o) (hT : TD M o ln is fc dn row nd) (hc : wfC ln is fc dn) (hr : wfR ln is fc row) : ∀ n i c, i + n = is → (WP (aSem (d + 2)) g0 85 nx (qn nx Q) 4 [(0, .ref o), (1, .int (nI c)), (2, .int (nI i))] [] M N (P0 t e) nx ↔ Q (some (.int (nI (c + cntF (fun i => row (83 + i) == i) i n)))) M N (P0 t e) nx) := by
  have c6 := hc
  unfold wfC at c6
  intro n
  induction n with
  | zero =>
    intro i c hi
    simp only [B85_4, B85_30, false_imp_iff, true_imp_iff, not_false_eq_true, not_true_eq_false, true_and, and_true, implies_true, qn_self, rI_i, rJ_l, rV_n, okZ0, okZ1, oT hn ho, hT.2.1, nI_le (show is ≤ i by omega) (show i < 2 ^ 31 by omega), cntF, Nat.add_zero]
  | succ n ih =>
    intro i c hi
    have hb := hr.2.2.2.2 i (by omega)
    simp only [B85_4, B85_12, false_imp_iff, true_imp_iff, not_false_eq_true, not_true_eq_false, true_and, and_true, implies_true, qn_self, rI_i, rJ_l, rV_n, okZ0, okZ1, oT hn ho, hT.2.1, nI_ge (show i < is by omega) (show is < 2 ^ 31 by omega), s83 hn ho hT hc (show i < is by omega), nI_eq (show row (83 + i) < 2 ^ 31 by omega) (show i < 2 ^ 31 by omega)]
    by_cases h2 : row (83 + i) = i
    · simp only [h2, false_imp_iff, true_imp_iff, not_false_eq_true, not_true_eq_false, true_and, and_true, implies_true, qn_self, rI_i, rJ_l, rV_n, okZ0, okZ1, B85_21, B85_24, nI_add, ih (i + 1) (c + 1) (by omega), cntF, beq_self_eq_true, if_true, Nat.add_assoc]
    · simp only [h2, false_imp_iff, true_imp_iff, not_false_eq_true, not_true_eq_false, true_and, and_true, implies_true, qn_self, rI_i, rJ_l, rV_n, okZ0, okZ1, B85_24, nI_add, ih (i + 1) c (by omega), cntF, beq_iff_eq, if_false, Nat.zero_add]
theorem s85 (hn : 44 ≤ nx) (ho : isT o) (hT : TD M o ln is fc dn row nd) (hc : wfC ln is fc dn) (hr : wfR ln is fc row) : aSem (d + 3) 85 [.ref o] M N (P0 t e) nx Q ↔ Q (some (.int (nI (cntF (fun i => row (83 + i) == i) 0 is)))) M N (P0 t e) nx := by
  simp only [A85, B85_0, l85 hn ho hT hc hr is 0 0 (by omega), Nat.zero_add]
-- firstOther
def fstF (p : Nat → Bool) (b i : Nat) : Nat → Nat
  | 0 => b
  | n + 1 => if p i then i else fstF p b (i + 1) n
theorem l88 (hn : 44 ≤ nx) (ho : isT o) (hT : TD M o ln is fc dn row nd) (hc : wfC ln is fc dn) (hr : wfR ln is fc row) {h : Nat} (hh : h < 6) : ∀ n i, i + n = is → (WP (aSem (d + 2)) g0 88 nx (qn nx Q) 2 [(0, .ref o), (1, .int (nI h)), (2, .int (nI i))] [] M N (P0 t e) nx ↔ Q (some (.int (nI (fstF (fun i => !(i == h) && row (83 + i) == h) h i n)))) M N (P0 t e) nx) := by
  have c6 := hc
  unfold wfC at c6
  intro n
  induction n with
  | zero =>
    intro i hi
    simp only [B88_2, B88_32, false_imp_iff, true_imp_iff, not_false_eq_true, not_true_eq_false, true_and, and_true, implies_true, qn_self, rI_i, rJ_l, rV_n, okZ0, okZ1, oT hn ho, hT.2.1, nI_le (show is ≤ i by omega) (show i < 2 ^ 31 by omega), fstF]
  | succ n ih =>
    intro i hi
    have hb := hr.2.2.2.2 i (by omega)
    simp only [B88_2, B88_10, B88_15, false_imp_iff, true_imp_iff, not_false_eq_true, not_true_eq_false, true_and, and_true, implies_true, qn_self, rI_i, rJ_l, rV_n, okZ0, okZ1, oT hn ho, hT.2.1, nI_ge (show i < is by omega) (show is < 2 ^ 31 by omega), s83 hn ho hT hc (show i < is by omega), nI_eq (show row (83 + i) < 2 ^ 31 by omega) (show h < 2 ^ 31 by omega), nI_eq (show i < 2 ^ 31 by omega) (show h < 2 ^ 31 by omega)]
    by_cases h1 : i = h
    · simp only [h1, false_imp_iff, true_imp_iff, not_false_eq_true, not_true_eq_false, true_and, and_true, implies_true, qn_self, rI_i, rJ_l, rV_n, okZ0, okZ1, B88_26, nI_add, fstF, beq_self_eq_true, Bool.not_true, Bool.false_and, Bool.false_eq_true, if_false]
      have := ih (i + 1) (by omega)
      rw [h1] at this
      exact this
    · by_cases h2 : row (83 + i) = h
      · have e1 : (!(i == h) && row (83 + i) == h) = true := by simp [h1, h2]
        simp only [h1, h2, false_imp_iff, true_imp_iff, not_false_eq_true, not_true_eq_false, true_and, and_true, implies_true, qn_self, rI_i, rJ_l, rV_n, okZ0, okZ1, B88_24, fstF]
        rw [if_pos (by rw [h2] at e1; exact e1)]
      · have e1 : (!(i == h) && row (83 + i) == h) = false := by simp [h2]
        simp only [h1, h2, false_imp_iff, true_imp_iff, not_false_eq_true, not_true_eq_false, true_and, and_true, implies_true, qn_self, rI_i, rJ_l, rV_n, okZ0, okZ1, B88_26, nI_add, ih (i + 1) (by omega), fstF, e1, Bool.false_eq_true, if_false]
theorem s88 (hn : 44 ≤ nx) (ho : isT o) (hT : TD M o ln is fc dn row nd) (hc : wfC ln is fc dn) (hr : wfR ln is fc row) {h : Nat} (hh : h < 6) : aSem (d + 3) 88 [.ref o, .int (nI h)] M N (P0 t e) nx Q ↔ Q (some (.int (nI (fstF (fun i => !(i == h) && row (83 + i) == h) h 0 is)))) M N (P0 t e) nx := by
  simp only [A88, B88_0, l88 hn ho hT hc hr hh is 0 (by omega)]
-- moveHead
/-- heads that are a become b, up to n -/
def mvR (row : Nat → Nat) (a b n : Nat) : Nat → Nat := fun k => if 83 ≤ k ∧ k < 83 + n ∧ row k = a then b else row k
theorem mvR_s {a b n : Nat} (h : row (83 + n) = a) : va_up (mvR row a b n) (83 + n) b = mvR row a b (n + 1) := by
  funext k
  unfold mvR va_up
  by_cases e : k = 83 + n
  · subst e
    rw [if_pos rfl, if_pos ⟨by omega, by omega, h⟩]
  · rw [if_neg e]
    by_cases q : 83 ≤ k ∧ k < 83 + n ∧ row k = a
    · dsimp only
      rw [if_pos q, if_pos ⟨q.1, by omega, q.2.2⟩]
    · dsimp only
      rw [if_neg q, if_neg (fun z => q ⟨z.1, by omega, z.2.2⟩)]
theorem mvR_n {a b n : Nat} (h : ¬ row (83 + n) = a) : mvR row a b n = mvR row a b (n + 1) := by
  funext k
  unfold mvR
  by_cases e : k = 83 + n
  · subst e
    rw [if_neg (fun z => by omega), if_neg (fun z => h z.2.2)]
  · by_cases q : 83 ≤ k ∧ k < 83 + n ∧ row k = a
    · rw [if_pos q, if_pos ⟨q.1, by omega, q.2.2⟩]
    · rw [if_neg q, if_neg (fun z => q ⟨z.1, by omega, z.2.2⟩)]
/-- memory that differs in one cell alone -/
def eqC (c : Nat) (M M' : aM) : Prop := ∀ a, a ≠ c → M' a = M a
theorem eqC.rf {c : Nat} {M : aM} : eqC c M M := fun _ _ => rfl
theorem eqC.up {c k : Nat} {M M' : aM} {v : Int32} (h : eqC c M M') : eqC c M (uM M' c k v) := fun a ha => (uM_ne ha).trans (h a ha)
theorem l86 (hn : 44 ≤ nx) (ho : isT o) (hc : wfC ln is fc dn) {a b : Nat} (ha : a < 6) (hb : b < 6) (hQ : ∀ M', eqC (o + 1) M M' → TD M' o ln is fc dn (mvR row a b is) nd → Q none M' N (P0 t e) nx) (hw : ∀ i, i < is → row (83 + i) < 6) : ∀ n i M', i + n = is → eqC (o + 1) M M' → TD M' o ln is fc dn (mvR row a b i) nd → WP (aSem d) g0 86 nx (qn nx Q) 2 [(0, .ref o), (1, .int (nI a)), (2, .int (nI b)), (3, .int (nI i))] [] M' N (P0 t e) nx := by
  have c6 := hc
  unfold wfC at c6
  intro n
  induction n with
  | zero =>
    intro i M' hi he hT
    simp only [B86_2, B86_45, false_imp_iff, true_imp_iff, not_false_eq_true, not_true_eq_false, true_and, and_true, implies_true, qn_self, rI_i, rJ_l, rV_n, okZ0, okZ1, oT hn ho, hT.2.1, nI_le (show is ≤ i by omega) (show i < 2 ^ 31 by omega)]
    exact hQ M' he (by rw [show is = i by omega]; rw [show is = i by omega] at hT; exact hT)
  | succ n ih =>
    intro i M' hi he hT
    have hv : mvR row a b i (83 + i) = row (83 + i) := by unfold mvR; rw [if_neg (by omega)]
    have hw' := hw i (by omega)
    simp only [B86_2, false_imp_iff, true_imp_iff, not_false_eq_true, not_true_eq_false, true_and, and_true, implies_true, qn_self, rI_i, rJ_l, rV_n, okZ0, okZ1, oT hn ho, hT.2.1, nI_ge (show i < is by omega) (show is < 2 ^ 31 by omega)]
    simp only [B86_10, B86_16, B86_29, B86_39, false_imp_iff, true_imp_iff, not_false_eq_true, not_true_eq_false, true_and, and_true, implies_true, qn_self, rI_i, rJ_l, rV_n, okZ0, okZ1, oT hn ho, nI_ge (show i < 6 by omega) (show 6 < 2 ^ 31 by decide), exP (pT0 ho), nI_add, xT1 hn ho (show 11 + i < 89 by omega), hT.hd (by omega) (show i < is by omega), hv, nI_eq (show row (83 + i) < 2 ^ 31 by omega) (show a < 2 ^ 31 by omega)]
    refine ⟨fun h => ?_, fun h => ?_⟩
    · exact ih (i + 1) M' (by omega) he (by rw [← mvR_n h]; exact hT)
    · have h2 := hT.set ho (k := 11 + i) (v := b) (by omega)
      rw [pi_hd (by omega), mvR_s h] at h2
      exact ih (i + 1) _ (by omega) he.up h2
theorem s86 (hn : 44 ≤ nx) (ho : isT o) (hT : TD M o ln is fc dn row nd) (hc : wfC ln is fc dn) (hr : wfR ln is fc row) {a b : Nat} (ha : a < 6) (hb : b < 6) (hQ : ∀ M', eqC (o + 1) M M' → TD M' o ln is fc dn (mvR row a b is) nd → Q none M' N (P0 t e) nx) : aSem (d + 1) 86 [.ref o, .int (nI a), .int (nI b)] M N (P0 t e) nx Q := by
  have c6 := hc
  unfold wfC at c6
  simp only [A86, B86_0]
  refine l86 hn ho hc ha hb hQ (fun i hi => by have := hr.2.2.2.2 i hi; omega) is 0 M (by omega) eqC.rf ?_
  have : mvR row a b 0 = row := by
    funext k
    unfold mvR
    rw [if_neg (by omega)]
  rw [this]
  exact hT
end TLL
