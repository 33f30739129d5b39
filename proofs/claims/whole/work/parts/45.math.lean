/-! MATHEMATICS of roads and theories: nxt a = 0 without a rule, b + 1 where it points to b -/
def rdW (nxt : Nat → Nat) (wh : Nat → Bool) : Nat → List Nat → Nat → List Nat × Nat × Nat
  | 0, p, a => (p, 9, a)
  | n + 1, p, a => if nxt a = 0 then (p, 0, a) else if nxt a - 1 = a then (p, 1, a) else if wh a = false then (p ++ [nxt a - 1], 2, nxt a - 1) else if nxt a - 1 ∈ p then (p, 3, nxt a - 1) else rdW nxt wh n (p ++ [nxt a - 1]) (nxt a - 1)
def road (nxt : Nat → Nat) (wh : Nat → Bool) (l : Nat) : List Nat × Nat × Nat := rdW nxt wh 6 [l] l
def plW (nxt : Nat → Nat) (wh : Nat → Bool) (a y : Nat) : Nat :=
  if y = 2 ∨ y = 4 then (if y = 4 ∧ (road nxt wh a).2.1 = 3 then a else (road nxt wh a).2.2)
  else if nxt a = 0 then a else if nxt a - 1 = a then a else if y = 1 ∧ wh a = true ∧ nxt (nxt a - 1) ≠ 0 then nxt (nxt a - 1) - 1 else nxt a - 1
def cbW (nxt : Nat → Nat) (wh : Nat → Bool) (th : Nat → Nat) : Nat → List Nat → Nat → Nat → Nat
  | 0, _, a, _ => a
  | n + 1, S, a, y => if y = 3 then (if nxt a = 0 then a else if nxt a - 1 = a then a else if wh a = false ∨ nxt a - 1 ∈ S then nxt a - 1 else cbW nxt wh th n ((nxt a - 1) :: S) (nxt a - 1) (th (nxt a - 1))) else plW nxt wh a y
def comesM (nxt : Nat → Nat) (wh : Nat → Bool) (th : Nat → Nat) (l y : Nat) : Nat := cbW nxt wh th 6 [l] l y
def ownM (nxt : Nat → Nat) (wh : Nat → Bool) (th : Nat → Nat) (l : Nat) : Nat := comesM nxt wh th l (th l)
/-- out of a row, on issue i -/
def ruM (row : Nat → Nat) (i l : Nat) : Nat := row (11 + (6 * l + row (83 + i)))
def nxM (row : Nat → Nat) (i l : Nat) : Nat := if ruM row i l = 0 then 0 else row (6 + (ruM row i l - 1) / 2) + 1
def whM (row : Nat → Nat) (i l : Nat) : Bool := !(ruM row i l == 0) && (ruM row i l - 1) % 2 == 1
def ownLand (row : Nat → Nat) (i l : Nat) : Nat := ownM (nxM row i) (whM row i) row l
def ownAns (row : Nat → Nat) (i l : Nat) : Nat := row (47 + (6 * ownLand row i l + i))
/-- every pointer is to a land -/
def ptOK (ln : Nat) (nxt : Nat → Nat) : Prop := ∀ l, l < ln → nxt l ≤ ln
theorem nodup_len : ∀ (n : Nat) (l : List Nat), l.Nodup → (∀ x ∈ l, x < n) → l.length ≤ n
  | 0, l, _, h => by
    cases l with
    | nil => exact Nat.le_refl _
    | cons a t => exact absurd (h a List.mem_cons_self) (by omega)
  | n + 1, l, hd, h => by
    by_cases hm : n ∈ l
    · have h1 := nodup_len n (l.erase n) (hd.erase n) (fun x hx => by
        have h2 := (List.Nodup.mem_erase_iff hd).mp hx
        have h3 := h x h2.2
        omega)
      rw [List.length_erase_of_mem hm] at h1
      omega
    · have h1 := nodup_len n l hd (fun x hx => by
        have h3 := h x hx
        have : x ≠ n := fun e => hm (e ▸ hx)
        omega)
      omega
-- bits
theorem or64 : ∀ i, i < 6 → ∀ b, b < 64 → nI b ||| (nI 1 <<< (nI i &&& 31)) = nI (b ||| 2 ^ i) := by decide +kernel
theorem or64_lt : ∀ i, i < 6 → ∀ b, b < 64 → b ||| 2 ^ i < 64 := by decide +kernel
theorem or64_bt : ∀ i, i < 6 → ∀ j, j < 6 → ∀ b, b < 64 → ((b ||| 2 ^ i) / 2 ^ j % 2 = 1 ↔ (b / 2 ^ j % 2 = 1 ∨ j = i)) := by decide +kernel
theorem bt64 : ∀ i, i < 6 → ∀ b, b < 64 → ((nI b >>> (nI i &&& 31)) &&& nI 1 = nI 1 ↔ b / 2 ^ i % 2 = 1) := by decide +kernel
/-- b has just the bits of S -/
def BS (b : Nat) (S : Nat → Prop) : Prop := b < 64 ∧ ∀ j, j < 6 → (b / 2 ^ j % 2 = 1 ↔ S j)
theorem BS.or {b i : Nat} {S : Nat → Prop} (h : BS b S) (hi : i < 6) : BS (b ||| 2 ^ i) (fun j => S j ∨ j = i) := ⟨or64_lt i hi b h.1, fun j hj => by rw [or64_bt i hi j hj b h.1, h.2 j hj]⟩
theorem BS.cg {b : Nat} {S T : Nat → Prop} (h : BS b S) (hs : ∀ j, j < 6 → (S j ↔ T j)) : BS b T := ⟨h.1, fun j hj => (h.2 j hj).trans (hs j hj)⟩
theorem BS.z : BS 0 (fun _ => False) := ⟨by decide, fun j hj => by simp⟩
theorem bit_ext : ∀ a, a < 64 → ∀ b, b < 64 → (∀ j, j < 6 → (a / 2 ^ j % 2 = 1 ↔ b / 2 ^ j % 2 = 1)) → a = b := by decide +kernel
theorem BS.inj {a b : Nat} {S : Nat → Prop} (h : BS a S) (h' : BS b S) : a = b := bit_ext a h.1 b h'.1 (fun j hj => (h.2 j hj).trans (h'.2 j hj).symm)
-- where roads and theories lead
theorem rdW_ok {ln : Nat} {nxt : Nat → Nat} {wh : Nat → Bool} (hp : ptOK ln nxt) : ∀ n p a, a < ln → (∀ x ∈ p, x < ln) → (rdW nxt wh n p a).2.2 < ln ∧ ∀ x ∈ (rdW nxt wh n p a).1, x < ln
  | 0, p, a, ha, h => ⟨ha, h⟩
  | n + 1, p, a, ha, h => by
    have hb := hp a ha
    unfold rdW
    by_cases h0 : nxt a = 0
    · rw [if_pos h0]; exact ⟨ha, h⟩
    · rw [if_neg h0]
      have hx : nxt a - 1 < ln := by omega
      have hp2 : ∀ x ∈ p ++ [nxt a - 1], x < ln := by
        intro x hm
        rcases List.mem_append.mp hm with z | z
        · exact h x z
        · rw [List.mem_singleton.mp z]; exact hx
      by_cases h1 : nxt a - 1 = a
      · rw [if_pos h1]; exact ⟨ha, h⟩
      · rw [if_neg h1]
        by_cases h2 : wh a = false
        · rw [if_pos h2]; exact ⟨hx, hp2⟩
        · rw [if_neg h2]
          by_cases h3 : nxt a - 1 ∈ p
          · rw [if_pos h3]; exact ⟨hx, h⟩
          · rw [if_neg h3]
            exact rdW_ok hp n _ _ hx hp2
theorem road_ok {ln : Nat} {nxt : Nat → Nat} {wh : Nat → Bool} (hp : ptOK ln nxt) {l : Nat} (hl : l < ln) : (road nxt wh l).2.2 < ln ∧ ∀ x ∈ (road nxt wh l).1, x < ln := rdW_ok hp 6 [l] l hl (fun x hx => by rw [List.mem_singleton.mp hx]; exact hl)
theorem plW_lt {ln : Nat} {nxt : Nat → Nat} {wh : Nat → Bool} (hp : ptOK ln nxt) {l y : Nat} (hl : l < ln) : plW nxt wh l y < ln := by
  have hb := hp l hl
  unfold plW
  split
  · split
    · exact hl
    · exact (road_ok hp hl).1
  · split
    · exact hl
    · split
      · exact hl
      · have := hp (nxt l - 1) (by omega)
        split
        · omega
        · omega
theorem cbW_lt {ln : Nat} {nxt : Nat → Nat} {wh : Nat → Bool} {th : Nat → Nat} (hp : ptOK ln nxt) : ∀ n S a y, a < ln → cbW nxt wh th n S a y < ln
  | 0, _, _, _, h => h
  | n + 1, S, a, y, h => by
    have hb := hp a h
    unfold cbW
    split
    · split
      · exact h
      · split
        · exact h
        · split
          · omega
          · exact cbW_lt hp n _ _ _ (by omega)
    · exact plW_lt hp h
theorem comesM_lt {ln : Nat} {nxt : Nat → Nat} {wh : Nat → Bool} {th : Nat → Nat} (hp : ptOK ln nxt) {l y : Nat} (hl : l < ln) : comesM nxt wh th l y < ln := cbW_lt hp 6 [l] l y hl
theorem nxM_ok {ln is fc : Nat} {row : Nat → Nat} (hr : wfR ln is fc row) (hl6 : ln ≤ 6) (hi6 : is ≤ 6) {i : Nat} (hi : i < is) : ptOK ln (nxM row i) := by
  intro l hl
  have hh := hr.2.2.2.2 i hi
  have hb := hr.2.2.1 (11 + (6 * l + row (83 + i))) (by omega) (by omega)
  unfold nxM ruM
  split
  · omega
  · rename_i h
    have := hr.2.1 ((row (11 + (6 * l + row (83 + i))) - 1) / 2) (by omega)
    omega
