/-! TOLD: cut, mirrored, copied, added -/
def wfH (is : Nat) (row : Nat → Nat) : Prop := ∀ i, i < is → row (83 + row (83 + i)) = row (83 + i)
section TAC
variable {d : Nat} {M : aM} {N : aN} {t e nx o ln is fc dn : Nat} {row nd : Nat → Nat} {Q : aQ}
-- partFromOthers
def cutR (row : Nat → Nat) (i is : Nat) : Nat → Nat := va_up (if row (83 + i) = i then mvR row i (fstF (fun k => !(k == i) && row (83 + k) == i) i 0 is) is else row) (83 + i) i
theorem fstF_lt {p : Nat → Bool} {b m : Nat} (hb : b < m) : ∀ n i, i + n ≤ m → fstF p b i n < m
  | 0, _, _ => hb
  | n + 1, i, h => by
    unfold fstF
    split
    · omega
    · exact fstF_lt hb n (i + 1) (by omega)
theorem s87 (hn : 44 ≤ nx) (ho : isT o) (hT : TD M o ln is fc dn row nd) (hc : wfC ln is fc dn) (hr : wfR ln is fc row) {i : Nat} (hi : i < is) (hQ : ∀ M', eqC (o + 1) M M' → TD M' o ln is fc dn (cutR row i is) nd → Q none M' N (P0 t e) nx) : aSem (d + 4) 87 [.ref o, .int (nI i)] M N (P0 t e) nx Q := by
  have c6 := hc
  unfold wfC at c6
  have hb := hr.2.2.2.2 i hi
  simp only [A87, B87_0, B87_9, false_imp_iff, true_imp_iff, not_false_eq_true, not_true_eq_false, true_and, and_true, implies_true, qn_self, rI_i, rJ_l, rV_n, okZ0, okZ1, oT hn ho, s64 hn ho hT hc hi, one0, s83 hn ho hT hc hi, nI_eq (show row (83 + i) < 2 ^ 31 by omega) (show i < 2 ^ 31 by omega)]
  have fin : ∀ (M' : aM) (row' : Nat → Nat), eqC (o + 1) M M' → TD M' o ln is fc dn row' nd → cutR row i is = va_up row' (83 + i) i → WP (aSem (d + 3)) g0 87 nx (qn nx Q) 28 [(0, .ref o), (1, .int (nI i))] [] M' N (P0 t e) nx := by
    intro M' row' he hT' hcut
    simp only [B87_28, false_imp_iff, true_imp_iff, not_false_eq_true, not_true_eq_false, true_and, and_true, implies_true, qn_self, rI_i, rJ_l, rV_n, okZ0, okZ1, oT hn ho, exP (pT0 ho), nI_add, xT1 hn ho (show 11 + i < 89 by omega)]
    refine hQ _ he.up ?_
    have h2 := hT'.set ho (k := 11 + i) (v := i) (by omega)
    rw [pi_hd (by omega), ← hcut] at h2
    exact h2
  refine ⟨fun h => ?_, fun h => ?_⟩
  · exact fin M row eqC.rf hT (by unfold cutR; rw [if_neg h])
  · have hf := fstF_lt (p := fun k => !(k == i) && row (83 + k) == i) (b := i) (m := 6) (by omega) is 0 (by omega)
    simp only [B87_18, false_imp_iff, true_imp_iff, not_false_eq_true, not_true_eq_false, true_and, and_true, implies_true, qn_self, rI_i, rJ_l, rV_n, okZ0, okZ1, oT hn ho, s88 hn ho hT hc hr (show i < 6 by omega)]
    refine s86 hn ho hT hc hr (by omega) hf (fun M' he hT' => ?_)
    simp only [false_imp_iff, true_imp_iff, not_false_eq_true, not_true_eq_false, true_and, and_true, implies_true, qn_self, rI_i, rJ_l, rV_n, okZ0, okZ1]
    exact fin M' _ he hT' (by unfold cutR; rw [if_pos h])
-- swapCells
def swR (row : Nat → Nat) (a b : Nat) : Nat → Nat := fun k => if k = a then row b else if k = b then row a else row k
theorem swR_up {a b : Nat} : va_up (va_up row a (row b)) b (row a) = swR row a b := by
  funext k
  unfold swR va_up
  by_cases h1 : k = a <;> by_cases h2 : k = b <;> simp_all
theorem s90 (hn : 44 ≤ nx) (ho : isT o) (hT : TD M o ln is fc dn row nd) {a b : Nat} (ha : a < 89) (hb : b < 89) (ha2 : a < 11 ∨ 17 ≤ a) (hb2 : b < 11 ∨ 17 ≤ b) (hQ : ∀ M', eqC (o + 1) M M' → TD M' o ln is fc dn (swR row (piC a) (piC b)) nd → Q none M' N (P0 t e) nx) : aSem (d + 1) 90 [.ref o, .int (nI a), .int (nI b)] M N (P0 t e) nx Q := by
  have e1 := hT.2.2.2.2.1 a ha (by omega)
  have e2 := hT.2.2.2.2.1 b hb (by omega)
  simp only [A90, B90_0, B90_4, B90_10, B90_14, B90_20, B90_46, false_imp_iff, true_imp_iff, not_false_eq_true, not_true_eq_false, true_and, and_true, implies_true, qn_self, rI_i, rJ_l, rV_n, okZ0, okZ1, oT hn ho, nI_pos (show a < 2 ^ 31 by omega), nI_pos (show b < 2 ^ 31 by omega), nI_ge ha (show 89 < 2 ^ 31 by decide), nI_ge hb (show 89 < 2 ^ 31 by decide), exP (pT0 ho), xT1 hn ho ha, xT1 hn ho hb]
  rw [e1, e2]
  have h2 := (hT.set ho (k := a) (v := row (piC b)) ha).set ho (k := b) (v := row (piC a)) hb
  rw [swR_up] at h2
  exact hQ _ (eqC.up (eqC.up eqC.rf)) h2
-- exchange
/-- l and o mirrored: theories; answers and rules of the first i issues; the first f facts -/
def mirG (row : Nat → Nat) (l o i f : Nat) : Nat → Nat := fun k =>
  if k < 6 then (if k = l then row o else if k = o then row l else row k)
  else if k < 11 then (if k < 6 + f then (if row k = l then o else if row k = o then l else row k) else row k)
  else if k < 47 then (if (k - 11) % 6 < i then (if (k - 11) / 6 = l then row (11 + (6 * o + (k - 11) % 6)) else if (k - 11) / 6 = o then row (11 + (6 * l + (k - 11) % 6)) else row k) else row k)
  else if k < 83 then (if (k - 47) % 6 < i then (if (k - 47) / 6 = l then row (47 + (6 * o + (k - 47) % 6)) else if (k - 47) / 6 = o then row (47 + (6 * l + (k - 47) % 6)) else row k) else row k)
  else row k
theorem mirG_0 {l p : Nat} (hl : l < 6) (hp : p < 6) : swR row l p = mirG row l p 0 0 := by
  funext k
  unfold swR mirG
  by_cases h1 : k < 6
  · rw [if_pos h1]
  · rw [if_neg h1, if_neg (by omega), if_neg (by omega)]
    by_cases h2 : k < 11
    · rw [if_pos h2, if_neg (by omega)]
    · rw [if_neg h2]
      by_cases h3 : k < 47
      · rw [if_pos h3, if_neg (by omega)]
      · rw [if_neg h3]
        by_cases h4 : k < 83
        · rw [if_pos h4, if_neg (by omega)]
        · rw [if_neg h4]
theorem mirG_ru {l p i f : Nat} (hl : l < 6) (hi : i < 6) : mirG row l p i f (11 + (6 * l + i)) = row (11 + (6 * l + i)) := by
  unfold mirG
  rw [if_neg (by omega), if_neg (by omega), if_pos (by omega), if_neg (by omega)]
theorem mirG_la {l p i f : Nat} (hl : l < 6) (hi : i < 6) : mirG row l p i f (47 + (6 * l + i)) = row (47 + (6 * l + i)) := by
  unfold mirG
  rw [if_neg (by omega), if_neg (by omega), if_neg (by omega), if_pos (by omega), if_neg (by omega)]
theorem mirG_i {l p i f : Nat} (hl : l < 6) (hp : p < 6) (hi : i < 6) (hlp : l ≠ p) : swR (swR (mirG row l p i f) (11 + (6 * l + i)) (11 + (6 * p + i))) (47 + (6 * l + i)) (47 + (6 * p + i)) = mirG row l p (i + 1) f := by
  have r1 : mirG row l p i f (11 + (6 * l + i)) = row (11 + (6 * l + i)) := mirG_ru hl hi
  have r2 : mirG row l p i f (11 + (6 * p + i)) = row (11 + (6 * p + i)) := by
    unfold mirG
    rw [if_neg (by omega), if_neg (by omega), if_pos (by omega), if_neg (by omega)]
  have r3 : mirG row l p i f (47 + (6 * l + i)) = row (47 + (6 * l + i)) := mirG_la hl hi
  have r4 : mirG row l p i f (47 + (6 * p + i)) = row (47 + (6 * p + i)) := by
    unfold mirG
    rw [if_neg (by omega), if_neg (by omega), if_neg (by omega), if_pos (by omega), if_neg (by omega)]
  funext k
  have s1 : swR (mirG row l p i f) (11 + (6 * l + i)) (11 + (6 * p + i)) (47 + (6 * p + i)) = row (47 + (6 * p + i)) := by
    unfold swR
    rw [if_neg (by omega), if_neg (by omega), r4]
  have s2 : swR (mirG row l p i f) (11 + (6 * l + i)) (11 + (6 * p + i)) (47 + (6 * l + i)) = row (47 + (6 * l + i)) := by
    unfold swR
    rw [if_neg (by omega), if_neg (by omega), r3]
  show (if k = 47 + (6 * l + i) then _ else if k = 47 + (6 * p + i) then _ else swR (mirG row l p i f) (11 + (6 * l + i)) (11 + (6 * p + i)) k) = _
  rw [s1, s2]
  by_cases h1 : k = 47 + (6 * l + i)
  · rw [if_pos h1]
    unfold mirG
    rw [if_neg (by omega), if_neg (by omega), if_neg (by omega), if_pos (by omega), if_pos (by omega), if_pos (by omega)]
    congr 1
    omega
  · rw [if_neg h1]
    by_cases h2 : k = 47 + (6 * p + i)
    · rw [if_pos h2]
      unfold mirG
      rw [if_neg (by omega), if_neg (by omega), if_neg (by omega), if_pos (by omega), if_pos (by omega), if_neg (by omega), if_pos (by omega)]
      congr 1
      omega
    · rw [if_neg h2]
      show (if k = 11 + (6 * l + i) then _ else if k = 11 + (6 * p + i) then _ else mirG row l p i f k) = _
      rw [r1, r2]
      by_cases h3 : k = 11 + (6 * l + i)
      · rw [if_pos h3]
        unfold mirG
        rw [if_neg (by omega), if_neg (by omega), if_pos (by omega), if_pos (by omega), if_pos (by omega)]
        congr 1
        omega
      · rw [if_neg h3]
        by_cases h4 : k = 11 + (6 * p + i)
        · rw [if_pos h4]
          unfold mirG
          rw [if_neg (by omega), if_neg (by omega), if_pos (by omega), if_pos (by omega), if_neg (by omega), if_pos (by omega)]
          congr 1
          omega
        · rw [if_neg h4]
          unfold mirG
          by_cases a1 : k < 6
          · rw [if_pos a1, if_pos a1]
          · rw [if_neg a1, if_neg a1]
            by_cases a2 : k < 11
            · rw [if_pos a2, if_pos a2]
            · rw [if_neg a2, if_neg a2]
              by_cases a3 : k < 47
              · rw [if_pos a3, if_pos a3]
                by_cases a5 : (k - 11) % 6 < i
                · rw [if_pos a5, if_pos (show (k - 11) % 6 < i + 1 by omega)]
                · rw [if_neg a5]
                  by_cases a6 : (k - 11) % 6 < i + 1
                  · rw [if_pos a6, if_neg (by omega), if_neg (by omega)]
                  · rw [if_neg a6]
              · rw [if_neg a3, if_neg a3]
                by_cases a4 : k < 83
                · rw [if_pos a4, if_pos a4]
                  by_cases a5 : (k - 47) % 6 < i
                  · rw [if_pos a5, if_pos (show (k - 47) % 6 < i + 1 by omega)]
                  · rw [if_neg a5]
                    by_cases a6 : (k - 47) % 6 < i + 1
                    · rw [if_pos a6, if_neg (by omega), if_neg (by omega)]
                    · rw [if_neg a6]
                · rw [if_neg a4, if_neg a4]
theorem mirG_fa {l p i f : Nat} (hf : f < 5) : mirG row l p i f (6 + f) = row (6 + f) := by
  unfold mirG
  rw [if_neg (by omega), if_pos (by omega), if_neg (by omega)]
theorem mirG_f {l p i f : Nat} (hf : f < 5) : va_up (mirG row l p i f) (6 + f) (if row (6 + f) = l then p else if row (6 + f) = p then l else row (6 + f)) = mirG row l p i (f + 1) := by
  funext k
  unfold va_up
  by_cases h : k = 6 + f
  · rw [if_pos h]
    unfold mirG
    rw [if_neg (show ¬ k < 6 by omega), if_pos (show k < 11 by omega), if_pos (show k < 6 + (f + 1) by omega), h]
  · rw [if_neg h]
    unfold mirG
    by_cases a1 : k < 6
    · rw [if_pos a1, if_pos a1]
    · rw [if_neg a1, if_neg a1]
      by_cases a2 : k < 11
      · rw [if_pos a2, if_pos a2]
        by_cases a3 : k < 6 + f
        · rw [if_pos a3, if_pos (show k < 6 + (f + 1) by omega)]
        · rw [if_neg a3, if_neg (show ¬ k < 6 + (f + 1) by omega)]
      · rw [if_neg a2, if_neg a2]
theorem eqC.tr {c : Nat} {M M' M'' : aM} (h : eqC c M M') (h' : eqC c M' M'') : eqC c M M'' := fun a ha => (h' a ha).trans (h a ha)
end TAC
