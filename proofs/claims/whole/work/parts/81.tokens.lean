/-! TOKENS: the mathematics -/
/-- a byte, as it lies in an int -/
def sx (b : Nat) : Int32 := (Int8.ofNat b).toInt32
def so (b : Nat) : Nat := if 97 ≤ b ∧ b ≤ 122 then 1 else if 48 ≤ b ∧ b ≤ 57 then 2 else if b = 59 then 3 else if b = 32 ∨ b = 10 then 5 else 4
def soI (x : Int32) : Nat := if ¬ x < nI 97 ∧ ¬ nI 122 < x then 1 else if ¬ x < nI 48 ∧ ¬ nI 57 < x then 2 else if x = nI 59 then 3 else if x = nI 32 ∨ x = nI 10 then 5 else 4
theorem soI_sx : ∀ b, b < 256 → soI (sx b) = so b := by decide +kernel
theorem sx_and : ∀ b, b < 256 → sx b &&& nI 255 = nI b := by decide +kernel
theorem sx_lo : ∀ b, b < 128 → sx b = nI b := by decide +kernel
theorem sx_b (x : Int32) : x.toInt8.toInt32 = sx (x.toInt8.toUInt8.toNat) ∧ x.toInt8.toUInt8.toNat < 256 := by
  refine ⟨?_, x.toInt8.toUInt8.toNat_lt⟩
  unfold sx
  congr 1
  apply Int8.toBitVec_inj.mp
  show x.toInt8.toBitVec = BitVec.ofNat 8 x.toInt8.toBitVec.toNat
  rw [BitVec.ofNat_toNat, BitVec.setWidth_eq]
theorem so_le (b : Nat) : so b ≤ 5 := by
  unfold so
  split
  · decide
  · split
    · decide
    · split
      · decide
      · split <;> decide
theorem so_1 {b : Nat} : so b = 1 ↔ 97 ≤ b ∧ b ≤ 122 := by
  unfold so
  by_cases h : 97 ≤ b ∧ b ≤ 122
  · rw [if_pos h]; exact ⟨fun _ => h, fun _ => rfl⟩
  · rw [if_neg h]
    refine ⟨fun q => absurd q ?_, fun q => absurd q h⟩
    split
    · decide
    · split
      · decide
      · split <;> decide
theorem so_2 {b : Nat} : so b = 2 ↔ 48 ≤ b ∧ b ≤ 57 := by
  unfold so
  by_cases h : 97 ≤ b ∧ b ≤ 122
  · rw [if_pos h]; exact ⟨fun q => absurd q (by decide), fun q => by omega⟩
  · rw [if_neg h]
    by_cases h2 : 48 ≤ b ∧ b ≤ 57
    · rw [if_pos h2]; exact ⟨fun _ => h2, fun _ => rfl⟩
    · rw [if_neg h2]
      refine ⟨fun q => absurd q ?_, fun q => absurd q h2⟩
      split
      · decide
      · split <;> decide
theorem so_5 {b : Nat} : so b = 5 ↔ b = 32 ∨ b = 10 := by
  unfold so
  by_cases h : 97 ≤ b ∧ b ≤ 122
  · rw [if_pos h]; exact ⟨fun q => absurd q (by decide), fun q => by omega⟩
  · rw [if_neg h]
    by_cases h2 : 48 ≤ b ∧ b ≤ 57
    · rw [if_pos h2]; exact ⟨fun q => absurd q (by decide), fun q => by omega⟩
    · rw [if_neg h2]
      by_cases h3 : b = 59
      · rw [if_pos h3]; exact ⟨fun q => absurd q (by decide), fun q => by omega⟩
      · rw [if_neg h3]
        by_cases h4 : b = 32 ∨ b = 10
        · rw [if_pos h4]; exact ⟨fun _ => h4, fun _ => rfl⟩
        · rw [if_neg h4]; exact ⟨fun q => absurd q (by decide), fun q => absurd q h4⟩
/-- where a run of a sort ends -/
def rnF (B : Nat → Nat) (s : Nat) : Nat → Nat → Nat
  | 0, p => p
  | m + 1, p => if so (B p) = s then rnF B s m (p + 1) else p
theorem rnF_ge (B : Nat → Nat) (s : Nat) : ∀ m p, p ≤ rnF B s m p ∧ rnF B s m p ≤ p + m
  | 0, p => ⟨Nat.le_refl _, Nat.le_refl _⟩
  | m + 1, p => by
    unfold rnF
    have := rnF_ge B s m (p + 1)
    split
    · omega
    · omega
theorem rnF_no (B : Nat → Nat) (s : Nat) : ∀ m p, rnF B s m p < p + m → ¬ so (B (rnF B s m p)) = s
  | 0, p, h => by
    have h' : p < p + 0 := h
    omega
  | m + 1, p, h => by
    unfold rnF at h ⊢
    by_cases q : so (B p) = s
    · rw [if_pos q] at h ⊢
      exact rnF_no B s m (p + 1) (by omega)
    · rw [if_neg q]; exact q
theorem rnF_s {B : Nat → Nat} {s m p : Nat} : rnF B s (m + 1) p = if so (B p) = s then rnF B s m (p + 1) else p := rfl
/-- letters, digits -/
def wF (B : Nat → Nat) (q : Nat) : Nat → Nat
  | 0 => 0
  | m + 1 => wF B q m * 32 + (B (q + m) - 96)
def dF (B : Nat → Nat) (q : Nat) : Nat → Nat
  | 0 => 0
  | m + 1 => dF B q m * 10 + (B (q + m) - 48)
def tP (B : Nat → Nat) (n p : Nat) : Nat := rnF B 5 (n - p) p
def tR (B : Nat → Nat) (n s q : Nat) : Nat := rnF B s (n - q) q
def tK (B : Nat → Nat) (n p : Nat) : Nat := if n ≤ tP B n p then 0 else if so (B (tP B n p)) = 1 then (if tR B n 1 (tP B n p) - tP B n p ≤ 6 then 1 else 4) else if so (B (tP B n p)) = 2 then (if tR B n 2 (tP B n p) - tP B n p ≤ 2 then 2 else 4) else so (B (tP B n p))
def tE (B : Nat → Nat) (n p : Nat) : Nat := if n ≤ tP B n p then tP B n p else if so (B (tP B n p)) = 1 then tR B n 1 (tP B n p) else if so (B (tP B n p)) = 2 then tR B n 2 (tP B n p) else tP B n p + 1
def tV (B : Nat → Nat) (n p : Nat) : Nat := if so (B (tP B n p)) = 1 then wF B (tP B n p) (tR B n 1 (tP B n p) - tP B n p) else dF B (tP B n p) (tR B n 2 (tP B n p) - tP B n p)
theorem tP_ge {B : Nat → Nat} {n p : Nat} (h : p ≤ n) : p ≤ tP B n p ∧ tP B n p ≤ n := by
  have := rnF_ge B 5 (n - p) p
  unfold tP
  omega
theorem tR_ge {B : Nat → Nat} {n s q : Nat} (h : q ≤ n) : q ≤ tR B n s q ∧ tR B n s q ≤ n := by
  have := rnF_ge B s (n - q) q
  unfold tR
  omega
theorem tR_gt {B : Nat → Nat} {n s q : Nat} (h : q < n) (hs : so (B q) = s) : q < tR B n s q := by
  unfold tR
  rw [show n - q = (n - q - 1) + 1 by omega, rnF_s, if_pos hs]
  have := rnF_ge B s (n - q - 1) (q + 1)
  omega
theorem tE_ge {B : Nat → Nat} {n p : Nat} (h : p ≤ n) : tP B n p ≤ tE B n p ∧ tE B n p ≤ n ∧ (tP B n p < n → tP B n p < tE B n p) := by
  have h1 := tP_ge (B := B) h
  unfold tE
  split
  · omega
  · rename_i h2
    split
    · rename_i h3
      have a1 := tR_ge (B := B) (s := 1) h1.2
      have a2 := tR_gt (B := B) (show tP B n p < n by omega) h3
      omega
    · split
      · rename_i h3
        have a1 := tR_ge (B := B) (s := 2) h1.2
        have a2 := tR_gt (B := B) (show tP B n p < n by omega) h3
        omega
      · omega
theorem tK_0 {B : Nat → Nat} {n p : Nat} (h : p ≤ n) : tK B n p = 0 ↔ tP B n p = n := by
  have h1 := tP_ge (B := B) h
  unfold tK
  by_cases q : n ≤ tP B n p
  · rw [if_pos q]; exact ⟨fun _ => by omega, fun _ => rfl⟩
  · rw [if_neg q]
    refine ⟨fun z => absurd z ?_, fun z => by omega⟩
    split
    · split <;> decide
    · split
      · split <;> decide
      · unfold so
        split
        · decide
        · split
          · decide
          · split
            · decide
            · split <;> decide
theorem tK_le {B : Nat → Nat} {n p : Nat} : tK B n p ≤ 5 := by
  unfold tK
  split
  · decide
  · split
    · split <;> decide
    · split
      · split <;> decide
      · exact so_le _
theorem wF_lt {B : Nat → Nat} {q : Nat} : ∀ m, (∀ j, j < m → B (q + j) ≤ 122) → wF B q m < 32 ^ m
  | 0, _ => by show 0 < 1; decide
  | m + 1, h => by
    have h1 := wF_lt m (fun j hj => h j (by omega))
    have h2 := h m (by omega)
    show wF B q m * 32 + (B (q + m) - 96) < 32 ^ (m + 1)
    rw [Nat.pow_succ]
    omega
theorem rnF_in (B : Nat → Nat) (s : Nat) : ∀ m p j, p ≤ j → j < rnF B s m p → so (B j) = s
  | 0, p, j, h, h' => by
    have h2 : j < p := h'
    omega
  | m + 1, p, j, h, h' => by
    unfold rnF at h'
    by_cases q : so (B p) = s
    · rw [if_pos q] at h'
      by_cases e : j = p
      · rw [e]; exact q
      · exact rnF_in B s m (p + 1) j (by omega) h'
    · rw [if_neg q] at h'; omega
theorem tK_w {B : Nat → Nat} {n p : Nat} (h : tK B n p = 1) : so (B (tP B n p)) = 1 ∧ tR B n 1 (tP B n p) - tP B n p ≤ 6 ∧ tP B n p < n := by
  unfold tK at h
  by_cases h0 : n ≤ tP B n p
  · rw [if_pos h0] at h; exact absurd h (by decide)
  · rw [if_neg h0] at h
    by_cases h1 : so (B (tP B n p)) = 1
    · rw [if_pos h1] at h
      by_cases h2 : tR B n 1 (tP B n p) - tP B n p ≤ 6
      · exact ⟨h1, h2, by omega⟩
      · rw [if_neg h2] at h; exact absurd h (by decide)
    · rw [if_neg h1] at h
      by_cases h2 : so (B (tP B n p)) = 2
      · rw [if_pos h2] at h
        by_cases h3 : tR B n 2 (tP B n p) - tP B n p ≤ 2
        · rw [if_pos h3] at h; exact absurd h (by decide)
        · rw [if_neg h3] at h; exact absurd h (by decide)
      · rw [if_neg h2] at h; exact absurd h h1
theorem tK_d {B : Nat → Nat} {n p : Nat} (h : tK B n p = 2) : so (B (tP B n p)) = 2 ∧ tR B n 2 (tP B n p) - tP B n p ≤ 2 ∧ tP B n p < n := by
  unfold tK at h
  by_cases h0 : n ≤ tP B n p
  · rw [if_pos h0] at h; exact absurd h (by decide)
  · rw [if_neg h0] at h
    by_cases h1 : so (B (tP B n p)) = 1
    · rw [if_pos h1] at h
      by_cases h2 : tR B n 1 (tP B n p) - tP B n p ≤ 6
      · rw [if_pos h2] at h; exact absurd h (by decide)
      · rw [if_neg h2] at h; exact absurd h (by decide)
    · rw [if_neg h1] at h
      by_cases h2 : so (B (tP B n p)) = 2
      · rw [if_pos h2] at h
        by_cases h3 : tR B n 2 (tP B n p) - tP B n p ≤ 2
        · exact ⟨h2, h3, by omega⟩
        · rw [if_neg h3] at h; exact absurd h (by decide)
      · rw [if_neg h2] at h; exact absurd h h2
theorem tV_w {B : Nat → Nat} {n p : Nat} (h : tK B n p = 1) : tV B n p < 2 ^ 30 := by
  obtain ⟨h1, h2, h3⟩ := tK_w h
  unfold tV
  rw [if_pos h1]
  have a := wF_lt (B := B) (q := tP B n p) (tR B n 1 (tP B n p) - tP B n p) (fun j hj => (so_1.mp (rnF_in B 1 (n - tP B n p) (tP B n p) (tP B n p + j) (by omega) (by unfold tR at hj; omega))).2)
  have b : 32 ^ (tR B n 1 (tP B n p) - tP B n p) ≤ 32 ^ 6 := Nat.pow_le_pow_right (by decide) h2
  have c : (32 : Nat) ^ 6 = 2 ^ 30 := by decide
  omega
theorem dF_lt {B : Nat → Nat} {q : Nat} : ∀ m, (∀ j, j < m → B (q + j) ≤ 57) → dF B q m < 10 ^ m
  | 0, _ => by show 0 < 1; decide
  | m + 1, h => by
    have h1 := dF_lt m (fun j hj => h j (by omega))
    have h2 := h m (by omega)
    show dF B q m * 10 + (B (q + m) - 48) < 10 ^ (m + 1)
    rw [Nat.pow_succ]
    omega
theorem tV_d {B : Nat → Nat} {n p : Nat} (h : tK B n p = 2) : tV B n p < 100 := by
  obtain ⟨h1, h2, h3⟩ := tK_d h
  unfold tV
  rw [if_neg (by rw [h1]; decide)]
  have a := dF_lt (B := B) (q := tP B n p) (tR B n 2 (tP B n p) - tP B n p) (fun j hj => (so_2.mp (rnF_in B 2 (n - tP B n p) (tP B n p) (tP B n p + j) (by omega) (by unfold tR at hj; omega))).2)
  have b : 10 ^ (tR B n 2 (tP B n p) - tP B n p) ≤ 10 ^ 2 := Nat.pow_le_pow_right (by decide) h2
  omega
