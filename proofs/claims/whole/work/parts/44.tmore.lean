/-! TOLD: exchange, clear, copies, additions -/
section TMO
variable {d : Nat} {M : aM} {N : aN} {t e nx o ln is fc dn : Nat} {row nd : Nat → Nat} {Q : aQ}
theorem l89b (hn : 44 ≤ nx) (ho : isT o) (hc : wfC ln is fc dn) (hr : wfR ln is fc row) {l p : Nat} (hl : l < ln) (hp : p < ln) (hQ : ∀ M', eqC (o + 1) M M' → TD M' o ln is fc dn (mirG row l p 6 fc) nd → Q none M' N (P0 t e) nx) : ∀ n i M', i + n = fc → eqC (o + 1) M M' → TD M' o ln is fc dn (mirG row l p 6 i) nd → WP (aSem (d + 2)) g0 89 nx (qn nx Q) 87 [(0, .ref o), (1, .int (nI l)), (2, .int (nI p)), (3, .int (nI i))] [] M' N (P0 t e) nx := by
  have c6 := hc
  unfold wfC at c6
  intro n
  induction n with
  | zero =>
    intro i M' hi he hT
    simp only [B89_87, B89_135, false_imp_iff, true_imp_iff, not_false_eq_true, not_true_eq_false, true_and, and_true, implies_true, qn_self, rI_i, rJ_l, rV_n, okZ0, okZ1, oT hn ho, hT.2.2.1, nI_le (show fc ≤ i by omega) (show i < 2 ^ 31 by omega)]
    exact hQ M' he (by rw [show fc = i by omega]; rw [show fc = i by omega] at hT; exact hT)
  | succ n ih =>
    intro i M' hi he hT
    have hv := mirG_fa (row := row) (l := l) (p := p) (i := 6) (f := i) (by omega)
    have hw := hr.2.1 i (by omega)
    have hs : ∀ v, mirG row l p 6 (i + 1) = va_up (mirG row l p 6 i) (6 + i) v → TD (uM M' (o + 1) (6 + i) (nI v)) o ln is fc dn (mirG row l p 6 (i + 1)) nd := by
      intro v hv
      have h2 := hT.set ho (k := 6 + i) (v := v) (by omega)
      rw [pi_th (by omega)] at h2
      rw [hv]; exact h2
    have hm := mirG_f (row := row) (l := l) (p := p) (i := 6) (f := i) (by omega)
    simp only [B89_87, false_imp_iff, true_imp_iff, not_false_eq_true, not_true_eq_false, true_and, and_true, implies_true, qn_self, rI_i, rJ_l, rV_n, okZ0, okZ1, oT hn ho, hT.2.2.1, nI_ge (show i < fc by omega) (show fc < 2 ^ 31 by omega)]
    simp only [B89_95, B89_108, B89_117, B89_123, B89_129, false_imp_iff, true_imp_iff, not_false_eq_true, not_true_eq_false, true_and, and_true, implies_true, qn_self, rI_i, rJ_l, rV_n, okZ0, okZ1, oT hn ho, s71 hn ho hT hc (show i < fc by omega), hv, nI_eq (show row (6 + i) < 2 ^ 31 by omega) (show l < 2 ^ 31 by omega), nI_eq (show row (6 + i) < 2 ^ 31 by omega) (show p < 2 ^ 31 by omega), s72 hn ho hT hc (show i < fc by omega), nI_add]
    refine ⟨fun h1 => ⟨fun h2 => ?_, fun h2 => ?_⟩, fun h1 => ?_⟩
    · rw [if_neg h1, if_neg h2] at hm
      refine ih (i + 1) M' (by omega) he ?_
      have : mirG row l p 6 (i + 1) = mirG row l p 6 i := by
        rw [← hm]
        funext k
        unfold va_up
        by_cases e : k = 6 + i
        · subst e; rw [if_pos rfl, hv]
        · rw [if_neg e]
      rw [this]; exact hT
    · rw [if_neg h1, if_pos h2] at hm
      exact ih (i + 1) _ (by omega) he.up (hs l hm.symm)
    · rw [if_pos h1] at hm
      exact ih (i + 1) _ (by omega) he.up (hs p hm.symm)
theorem l89a (hn : 44 ≤ nx) (ho : isT o) (hc : wfC ln is fc dn) (hr : wfR ln is fc row) {l p : Nat} (hl : l < ln) (hp : p < ln) (hlp : l ≠ p) (hQ : ∀ M', eqC (o + 1) M M' → TD M' o ln is fc dn (mirG row l p 6 fc) nd → Q none M' N (P0 t e) nx) : ∀ n i M', i + n = 6 → eqC (o + 1) M M' → TD M' o ln is fc dn (mirG row l p i 0) nd → WP (aSem (d + 2)) g0 89 nx (qn nx Q) 29 [(0, .ref o), (1, .int (nI l)), (2, .int (nI p)), (3, .int (nI i))] [] M' N (P0 t e) nx := by
  have c6 := hc
  unfold wfC at c6
  intro n
  induction n with
  | zero =>
    intro i M' hi he hT
    simp only [B89_29, false_imp_iff, true_imp_iff, not_false_eq_true, not_true_eq_false, true_and, and_true, implies_true, qn_self, rI_i, rJ_l, rV_n, okZ0, okZ1, nI_le (show 6 ≤ i by omega) (show i < 2 ^ 31 by omega)]
    simp only [B89_85]
    rw [show i = 6 by omega] at hT
    exact l89b hn ho hc hr hl hp hQ fc 0 M' (by omega) he hT
  | succ n ih =>
    intro i M' hi he hT
    simp only [B89_29, false_imp_iff, true_imp_iff, not_false_eq_true, not_true_eq_false, true_and, and_true, implies_true, qn_self, rI_i, rJ_l, rV_n, okZ0, okZ1, nI_ge (show i < 6 by omega) (show 6 < 2 ^ 31 by decide)]
    simp only [B89_35, false_imp_iff, true_imp_iff, not_false_eq_true, not_true_eq_false, true_and, and_true, implies_true, qn_self, rI_i, rJ_l, rV_n, okZ0, okZ1, oT hn ho, ad3]
    refine s90 hn ho hT (by omega) (by omega) (by omega) (by omega) (fun M1 he1 hT1 => ?_)
    simp only [false_imp_iff, true_imp_iff, not_false_eq_true, not_true_eq_false, true_and, and_true, implies_true, qn_self, rI_i, rJ_l, rV_n, okZ0, okZ1, oT hn ho]
    refine s90 hn ho hT1 (by omega) (by omega) (by omega) (by omega) (fun M2 he2 hT2 => ?_)
    simp only [false_imp_iff, true_imp_iff, not_false_eq_true, not_true_eq_false, true_and, and_true, implies_true, qn_self, rI_i, rJ_l, rV_n, okZ0, okZ1, nI_add]
    rw [pi_ru, pi_ru, pi_la, pi_la, mirG_i (by omega) (by omega) (by omega) hlp] at hT2
    exact ih (i + 1) M2 (by omega) ((he.tr he1).tr he2) hT2
theorem s89 (hn : 44 ≤ nx) (ho : isT o) (hT : TD M o ln is fc dn row nd) (hc : wfC ln is fc dn) (hr : wfR ln is fc row) {l p : Nat} (hl : l < ln) (hp : p < ln) (hlp : l ≠ p) (hQ : ∀ M', eqC (o + 1) M M' → TD M' o ln is fc dn (mirG row l p 6 fc) nd → Q none M' N (P0 t e) nx) : aSem (d + 3) 89 [.ref o, .int (nI l), .int (nI p)] M N (P0 t e) nx Q := by
  have c6 := hc
  unfold wfC at c6
  simp only [A89, B89_0, B89_8, B89_17, false_imp_iff, true_imp_iff, not_false_eq_true, not_true_eq_false, true_and, and_true, implies_true, qn_self, rI_i, rJ_l, rV_n, okZ0, okZ1, oT hn ho, s63 hn ho hT hc hl, s63 hn ho hT hc hp, one0, ad0]
  refine s90 hn ho hT (by omega) (by omega) (by omega) (by omega) (fun M1 he1 hT1 => ?_)
  simp only [false_imp_iff, true_imp_iff, not_false_eq_true, not_true_eq_false, true_and, and_true, implies_true, qn_self, rI_i, rJ_l, rV_n, okZ0, okZ1]
  rw [pi_th (by omega), pi_th (by omega), mirG_0 (by omega) (by omega)] at hT1
  exact l89a hn ho hc hr hl hp hlp hQ 6 0 M1 (by omega) he1 hT1
-- fill
def filM (f : Nat → Int32) (v : Int32) (n : Nat) : Nat → Int32 := fun k => if k < n then v else f k
theorem filM_s {f : Nat → Int32} {v : Int32} {n : Nat} : va_up (filM f v n) n v = filM f v (n + 1) := by
  funext k
  unfold va_up filM
  by_cases h : k = n
  · rw [if_pos h, if_pos (by omega)]
  · rw [if_neg h]
    by_cases h2 : k < n
    · simp only [h2, if_true]
      rw [if_pos (show k < n + 1 by omega)]
    · simp only [h2, if_false]
      rw [if_neg (show ¬ k < n + 1 by omega)]
theorem l220 {a m : Nat} {v : Int32} {P : aP} (hk : kindOf a = (1, m)) (ha : a < nx) (hm : m ≤ 1068) : ∀ n i, i + n = m → (WP (aSem d) g0 220 nx (qn nx Q) 5 [(0, .ref a), (1, .int v), (2, .int (nI i)), (3, .int (nI m))] [] (va_up M a (filM (M a) v i)) N P nx ↔ Q none (va_up M a (filM (M a) v m)) N P nx) := by
  intro n
  induction n with
  | zero =>
    intro i hi
    simp only [B220_5, B220_20, false_imp_iff, true_imp_iff, not_false_eq_true, not_true_eq_false, true_and, and_true, implies_true, qn_self, rI_i, rJ_l, rV_n, okZ0, okZ1, nI_le (show m ≤ i by omega) (show i < 2 ^ 31 by omega)]
    rw [show i = m by omega]
  | succ n ih =>
    intro i hi
    simp only [B220_5, false_imp_iff, true_imp_iff, not_false_eq_true, not_true_eq_false, true_and, and_true, implies_true, qn_self, rI_i, rJ_l, rV_n, okZ0, okZ1, nI_ge (show i < m by omega) (show m < 2 ^ 31 by omega)]
    simp only [B220_10, exA hk ha hm (show i < m by omega), nI_add]
    have : uM (va_up M a (filM (M a) v i)) a i v = va_up M a (filM (M a) v (i + 1)) := by
      unfold uM
      rw [up_eq, filM_s]
      funext b
      unfold va_up
      by_cases h : b = a <;> simp [h]
    rw [this]
    exact ih (i + 1) (by omega)
theorem up_id {α : Type} {f : Nat → α} {k : Nat} : va_up f k (f k) = f := by
  funext b
  unfold va_up
  by_cases h : b = k
  · rw [if_pos h, h]
  · rw [if_neg h]
theorem s220 {a m : Nat} {v : Int32} {P : aP} (hk : kindOf a = (1, m)) (ha : a < nx) (hm : m ≤ 1068) : aSem (d + 1) 220 [.ref a, .int v] M N P nx Q ↔ Q none (va_up M a (filM (M a) v m)) N P nx := by
  simp only [A220, B220_0, hk, false_imp_iff, true_imp_iff, not_false_eq_true, not_true_eq_false, true_and, and_true, implies_true, qn_self, rI_i, rJ_l, rV_n, okZ0, okZ1, ha]
  have := l220 (d := d) (M := M) (N := N) (Q := Q) (v := v) (P := P) hk ha hm m 0 (by omega)
  rw [show filM (M a) v 0 = M a by funext k; unfold filM; rw [if_neg (by omega)], up_id] at this
  exact this
-- clear
def row0 : Nat → Nat := fun k => if 83 ≤ k ∧ k < 89 then k - 83 else 0
theorem row0_pi {k : Nat} (h : k < 89) (h2 : k < 11 ∨ 17 ≤ k) : row0 (piC k) = 0 := by
  unfold row0 piC
  split <;> split <;> (try split at *) <;> omega
/-- memory that differs in a Told alone -/
def eqT (o : Nat) (M M' : aM) : Prop := ∀ a, a ≠ o → a ≠ o + 1 → a ≠ o + 2 → M' a = M a
theorem s55 (hn : 44 ≤ nx) (ho : isT o) (hQ : ∀ M', eqT o M M' → TD M' o 0 0 0 0 row0 nd → Q none M' N (P0 t e) nx) : aSem (d + 2) 55 [.ref o] M N (P0 t e) nx Q := by
  have h31 := lT ho
  simp only [A55, B55_0, false_imp_iff, true_imp_iff, not_false_eq_true, not_true_eq_false, true_and, and_true, implies_true, qn_self, rI_i, rJ_l, rV_n, okZ0, okZ1, oT hn ho, exP (pT0 ho), exP (pT1 ho), s220 (kT1 ho) (show o + 1 < nx by omega) (by decide), s220 (kT2 ho) (show o + 2 < nx by omega) (by decide)]
  refine hQ _ (fun a h0 h1 h2 => ?_) ⟨?_, ?_, ?_, ?_, fun k hk hk2 => ?_, fun k hk => by omega⟩
  · rw [uM_ne h0, uM_ne h0, uM_ne h0, uM_ne h0, up_ne h2, up_ne h1]
  · simp [uM, va_up]
  · simp [uM, va_up]
  · simp [uM, va_up]
  · simp [uM, va_up]
  · rw [uM_ne (by omega), uM_ne (by omega), uM_ne (by omega), uM_ne (by omega), up_ne (by omega), up_eq]
    unfold filM
    rw [if_pos hk, row0_pi hk (by omega)]
-- copyFrom
theorem exC {a b : Nat} {A B : Prop} {R : Nat → Nat → Nat → Prop} {x y z n m : Nat} (hx : x < 2 ^ 31) (hy : y < 2 ^ 31) (hz : z < 2 ^ 31) (h1 : x + z ≤ n) (h2 : y + z ≤ m) (hn : n ≤ 1068) (hm : m ≤ 1068) : (∃ sp dp nn : Nat, nI x = nI sp ∧ nI y = nI dp ∧ nI z = nI nn ∧ sp + nn ≤ n ∧ dp + nn ≤ m ∧ R sp dp nn) ↔ R x y z := by
  constructor
  · rintro ⟨sp, dp, nn, e1, e2, e3, e4, e5, h⟩
    rw [(nI_eq hx (by omega)).mp e1, (nI_eq hy (by omega)).mp e2, (nI_eq hz (by omega)).mp e3]
    exact h
  · intro h
    exact ⟨x, y, z, rfl, rfl, rfl, h1, h2, h⟩
theorem s57 (hn : 44 ≤ nx) (ho : isT o) {a m r : Nat} (hk : kindOf a = (1, m)) (ha : a < nx) (hm : m ≤ 1068) (hr : (r + 1) * 89 ≤ m) : aSem (d + 1) 57 [.ref o, .ref a, .int (nI r)] M N (P0 t e) nx Q ↔ Q none (va_up M a (va_cpy (M (o + 1)) (M a) 0 (r * 89) 89)) N (P0 t e) nx := by
  have h31 := lT ho
  have hr2 : r * 89 + 89 ≤ m := by rw [Nat.add_mul] at hr; omega
  simp only [A57, B57_0, B57_4, B57_15, B57_30, false_imp_iff, true_imp_iff, not_false_eq_true, not_true_eq_false, true_and, and_true, implies_true, qn_self, rI_i, rJ_l, rV_n, okZ0, okZ1, oT hn ho, exP (pT0 ho), hk, kT1 ho, ha, show o + 1 < nx by omega, nI_pos (show r < 2 ^ 31 by omega), nI_add, nI_mul, nI_nlt hr (show m < 2 ^ 31 by omega)]
  exact exC (a := 0) (b := 0) (A := True) (B := True) (by decide) (by omega) (by decide) (by decide) hr2 (by decide) hm
theorem s58 (hn : 44 ≤ nx) (ho : isT o) {a m r : Nat} (hk : kindOf a = (1, m)) (ha : a < nx) (hm : m ≤ 1068) (hr : (r + 1) * 89 ≤ m) : aSem (d + 1) 58 [.ref o, .ref a, .int (nI r)] M N (P0 t e) nx Q ↔ Q none (va_up M (o + 1) (va_cpy (M a) (M (o + 1)) (r * 89) 0 89)) N (P0 t e) nx := by
  have h31 := lT ho
  have hr2 : r * 89 + 89 ≤ m := by rw [Nat.add_mul] at hr; omega
  simp only [A58, B58_0, B58_4, B58_15, B58_30, false_imp_iff, true_imp_iff, not_false_eq_true, not_true_eq_false, true_and, and_true, implies_true, qn_self, rI_i, rJ_l, rV_n, okZ0, okZ1, oT hn ho, exP (pT0 ho), hk, kT1 ho, ha, show o + 1 < nx by omega, nI_pos (show r < 2 ^ 31 by omega), nI_add, nI_mul, nI_nlt hr (show m < 2 ^ 31 by omega)]
  exact exC (a := 0) (b := 0) (A := True) (B := True) (by omega) (by decide) (by decide) hr2 (by decide) hm (by decide)
theorem s56 (hn : 44 ≤ nx) (ho : isT o) {p : Nat} (hp : isT p) (hpo : p ≠ o) (hT : TD M p ln is fc dn row nd) (hc : wfC ln is fc dn) (hQ : ∀ M', eqT o M M' → TD M' o ln is fc dn row nd → Q none M' N (P0 t e) nx) : aSem (d + 1) 56 [.ref o, .ref p] M N (P0 t e) nx Q := by
  have h31 := lT ho
  have h32 := lT hp
  have c6 := hc
  unfold wfC at c6
  have ne1 : p + 1 ≠ o + 1 := by omega
  have ne2 : p + 2 ≠ o + 1 := by rcases ho with rfl | rfl | rfl <;> rcases hp with rfl | rfl | rfl <;> omega
  have ne3 : p ≠ o + 1 ∧ p ≠ o + 2 := by rcases ho with rfl | rfl | rfl <;> rcases hp with rfl | rfl | rfl <;> omega
  simp only [A56, B56_0, false_imp_iff, true_imp_iff, not_false_eq_true, not_true_eq_false, true_and, and_true, implies_true, qn_self, rI_i, rJ_l, rV_n, okZ0, okZ1, oT hn ho, oT hn hp, exP (pT0 ho), exP (pT1 ho), exP (pT0 hp), exP (pT1 hp), kT1 ho, kT2 ho, kT1 hp, kT2 hp, show o + 1 < nx by omega, show o + 2 < nx by omega, show p + 1 < nx by omega, show p + 2 < nx by omega]
  rw [exC (a := 0) (b := 0) (A := True) (B := True) (by decide) (by decide) (by decide) (by decide) (by decide) (by decide) (by decide)]
  rw [exC (a := 0) (b := 0) (A := True) (B := True) (by decide) (by decide) (by decide) (by decide) (by decide) (by decide) (by decide)]
  refine hQ _ (fun a h0 h1 h2 => ?_) ⟨?_, ?_, ?_, ?_, fun k hk hk2 => ?_, fun k hk => ?_⟩
  · rw [uM_ne h0, uM_ne h0, uM_ne h0, uM_ne h0, up_ne h2, up_ne h1]
  · have := hT.1
    simp [uM, va_up, hpo, ne3.1, ne3.2, this]
  · have := hT.2.1
    simp [uM, va_up, hpo, ne3.1, ne3.2, this]
  · have := hT.2.2.1
    simp [uM, va_up, hpo, ne3.1, ne3.2, this]
  · have := hT.2.2.2.1
    simp [uM, va_up, hpo, ne3.1, ne3.2, this]
  · rw [uM_ne (by omega), uM_ne (by omega), uM_ne (by omega), uM_ne (by omega), up_ne (by omega), up_eq]
    unfold va_cpy
    rw [if_pos (by omega), show 0 + (k - 0) = k by omega]
    exact hT.2.2.2.2.1 k hk hk2
  · rw [uM_ne (by omega), uM_ne (by omega), uM_ne (by omega), uM_ne (by omega), up_eq, up_ne ne2]
    unfold va_cpy
    rw [if_pos (by omega), show 0 + (k - 0) = k by omega]
    exact hT.2.2.2.2.2 k hk
end TMO
