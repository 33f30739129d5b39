/-! BASE of the specs: numbers, places, the system's references -/
theorem qn_self {n : Nat} {Q : aQ} {r : Option Value} {M : aM} {N : aN} {P : aP} : qn n Q r M N P n ↔ Q r M N P n := ⟨fun h => h.2, fun h => ⟨rfl, h⟩⟩
theorem rI_i {k : Int32 → aM → aN → aP → Nat → Prop} {x : Int32} {M : aM} {N : aN} {P : aP} {nx : Nat} : rI k (some (.int x)) M N P nx ↔ k x M N P nx := Iff.rfl
theorem rJ_l {k : Int64 → aM → aN → aP → Nat → Prop} {x : Int64} {M : aM} {N : aN} {P : aP} {nx : Nat} : rJ k (some (.long x)) M N P nx ↔ k x M N P nx := Iff.rfl
theorem rV_n {k : aM → aN → aP → Nat → Prop} {M : aM} {N : aN} {P : aP} {nx : Nat} : rV k none M N P nx ↔ k M N P nx := Iff.rfl
theorem okZ0 : okZ (nI 0) := Or.inl nI_0
theorem okZ1 : okZ (nI 1) := Or.inr (by decide +kernel)
theorem nI1 : nI 1 = (1 : Int32) := by decide +kernel
theorem nI_mul (a b : Nat) : nI a * nI b = nI (a * b) := by
  unfold nI
  exact (Int32.ofNat_mul a b).symm
theorem nI_sub {a b : Nat} (h : b ≤ a) : nI a - nI b = nI (a - b) := by
  have : nI (a - b) + nI b = nI a := by rw [nI_add, Nat.sub_add_cancel h]
  rw [← this, Int32.add_sub_cancel]
theorem ng1_i : ng1.toInt = -1 := by decide +kernel
theorem ng2_i : ng2.toInt = -2 := by decide +kernel
theorem nI_ng1 {a : Nat} (h : a < 2 ^ 31) : ¬ nI a = ng1 := by
  intro e
  have := congrArg Int32.toInt e
  rw [nI_toInt h, ng1_i] at this
  omega
theorem ng1_lt0 : ng1 < 0 := by decide +kernel
theorem ng1_ne0 : ¬ ng1 = 0 := by decide +kernel
theorem ng1_ge0 : ¬ 0 ≤ ng1 := by decide +kernel
/-- x says a place under n -/
def vl (x : Int32) (n : Nat) : Prop := 0 ≤ x.toInt ∧ x.toInt < n
theorem vl_nI {l n : Nat} (h : l < 2 ^ 31) : vl (nI l) n ↔ l < n := by
  unfold vl
  rw [nI_toInt h]
  omega
theorem vl_of {x : Int32} {n : Nat} (h : vl x n) : ∃ l, l < n ∧ x = nI l := by
  have hx : ¬ x < 0 := by
    rw [Int32.lt_iff_toInt_lt, Int32.toInt_zero]
    have := h.1
    omega
  obtain ⟨j, hj, e⟩ := nI_of hx
  refine ⟨j, ?_, e⟩
  have := h.2
  rw [e, nI_toInt hj] at this
  omega
theorem vl_lt0 {x : Int32} {n : Nat} (h : ¬ vl x n) (hn : n < 2 ^ 31) (h0 : ¬ x < 0) : nI n ≤ x := by
  rw [Int32.le_iff_toInt_le, nI_toInt hn]
  rw [Int32.lt_iff_toInt_lt, Int32.toInt_zero] at h0
  unfold vl at h
  omega
theorem vl_ng1 {n : Nat} : ¬ vl ng1 n := by
  unfold vl
  rw [ng1_i]
  omega
theorem exA {nx a t K n : Nat} {R : Nat → Prop} (h1 : kindOf a = (t, n)) (h2 : a < nx) (h4 : n ≤ 1068) (h3 : K < n) : (∃ k, okA nx a t (nI K) k ∧ R k) ↔ R K := by
  constructor
  · rintro ⟨k, ⟨-, -, e, hk⟩, h⟩
    rw [h1] at hk
    have : K = k := (nI_eq (by omega) (by have : k < n := hk; omega)).mp e
    rw [this]; exact h
  · intro h
    exact ⟨K, ⟨by rw [h1], h2, rfl, by rw [h1]; exact h3⟩, h⟩
theorem exB2 {nx a K n : Nat} {R : Nat → Prop} (h1 : kindOf a = (2, n)) (h2 : a < nx) (h4 : n ≤ 1068) (h3 : K < n) : (∃ k, (okA nx a 2 (nI K) k ∨ okA nx a 3 (nI K) k) ∧ R k) ↔ R K := by
  constructor
  · rintro ⟨k, ⟨-, -, e, hk⟩ | ⟨e1, -⟩, h⟩
    · rw [h1] at hk
      have : K = k := (nI_eq (by omega) (by have : k < n := hk; omega)).mp e
      rw [this]; exact h
    · rw [h1] at e1; exact absurd e1 (by simp)
  · intro h
    exact ⟨K, Or.inl ⟨by rw [h1], h2, rfl, by rw [h1]; exact h3⟩, h⟩
theorem exB3 {nx a K n : Nat} {R : Nat → Prop} (h1 : kindOf a = (3, n)) (h2 : a < nx) (h4 : n ≤ 1068) (h3 : K < n) : (∃ k, (okA nx a 2 (nI K) k ∨ okA nx a 3 (nI K) k) ∧ R k) ↔ R K := by
  constructor
  · rintro ⟨k, ⟨e1, -⟩ | ⟨-, -, e, hk⟩, h⟩
    · rw [h1] at e1; exact absurd e1 (by simp)
    · rw [h1] at hk
      have : K = k := (nI_eq (by omega) (by have : k < n := hk; omega)).mp e
      rw [this]; exact h
  · intro h
    exact ⟨K, Or.inr ⟨by rw [h1], h2, rfl, by rw [h1]; exact h3⟩, h⟩
theorem exS2 {nx a K n : Nat} {x : Int32} {R : Nat → Int32 → Prop} (h1 : kindOf a = (2, n)) (h2 : a < nx) (h4 : n ≤ 1068) (h3 : K < n) : (∃ k y, bst nx a (nI K) k x y ∧ R k y) ↔ R K x.toInt8.toInt32 := by
  constructor
  · rintro ⟨k, y, ⟨⟨-, -, e, hk⟩, e2⟩ | ⟨⟨e1, -⟩, -⟩, h⟩
    · rw [h1] at hk
      have : K = k := (nI_eq (by omega) (by have : k < n := hk; omega)).mp e
      rw [this, ← e2]; exact h
    · rw [h1] at e1; exact absurd e1 (by simp)
  · intro h
    exact ⟨K, _, Or.inl ⟨⟨by rw [h1], h2, rfl, by rw [h1]; exact h3⟩, rfl⟩, h⟩
theorem exS3 {nx a K n : Nat} {x : Int32} {R : Nat → Int32 → Prop} (h1 : kindOf a = (3, n)) (h2 : a < nx) (h4 : n ≤ 1068) (h3 : K < n) (hz : okZ x) : (∃ k y, bst nx a (nI K) k x y ∧ R k y) ↔ R K x := by
  constructor
  · rintro ⟨k, y, ⟨⟨e1, -⟩, -⟩ | ⟨⟨-, -, e, hk⟩, -, e2⟩, h⟩
    · rw [h1] at e1; exact absurd e1 (by simp)
    · rw [h1] at hk
      have : K = k := (nI_eq (by omega) (by have : k < n := hk; omega)).mp e
      rw [this, ← e2]; exact h
  · intro h
    exact ⟨K, _, Or.inr ⟨⟨by rw [h1], h2, rfl, by rw [h1]; exact h3⟩, hz, rfl⟩, h⟩
theorem exP {α : Type} {o : Option α} {a : α} {R : α → Prop} (h : o = some a) : (∃ b, o = some b ∧ R b) ↔ R a := by
  subst h
  exact ⟨fun ⟨b, e, h⟩ => by cases e; exact h, fun h => ⟨a, rfl, h⟩⟩
/-- the system's references: t what is told, e the draft -/
def P0 (t e : Nat) : aP := fun a k => match a, k with
  | 0, 0 => some 2
  | 0, 1 => some 1
  | 0, 2 => some 11
  | 0, 3 => some 16
  | 0, 4 => some 25
  | 0, 5 => some t
  | 1, 0 => some 2
  | 1, 1 => some 4
  | 1, 2 => some 5
  | 1, 3 => some 6
  | 1, 4 => some 7
  | 1, 8 => some e
  | 2, 0 => some 3
  | 8, 0 => some 9
  | 8, 1 => some 10
  | 11, 0 => some 12
  | 11, 1 => some 13
  | 11, 2 => some 14
  | 11, 3 => some 15
  | 16, 0 => some 17
  | 16, 1 => some 22
  | 17, 0 => some 18
  | 17, 1 => some 19
  | 17, 2 => some 20
  | 17, 3 => some 21
  | 22, 0 => some 23
  | 22, 1 => some 24
  | 25, 0 => some 26
  | 25, 1 => some 27
  | 28, 0 => some 29
  | 28, 1 => some 30
  | 31, 1 => some 32
  | 31, 13 => some 33
  | 31, 14 => some 34
  | 31, 15 => some 35
  | 31, 16 => some 36
  | 31, 17 => some 37
  | 31, 18 => some 38
  | 31, 19 => some 39
  | 31, 21 => some 40
  | 31, 22 => some 41
  | 31, 25 => some 42
  | _, _ => none
/-- a Told of the system -/
def isT (o : Nat) : Prop := o = 8 ∨ o = 22 ∨ o = 28
def isR (r : Nat) : Prop := r = 11 ∨ r = 17
section BAS
variable {o r t e nx : Nat}
theorem kT0 (h : isT o) : kindOf o = (0, 5) := by rcases h with rfl | rfl | rfl <;> rfl
theorem kT1 (h : isT o) : kindOf (o + 1) = (1, 89) := by rcases h with rfl | rfl | rfl <;> rfl
theorem kT2 (h : isT o) : kindOf (o + 2) = (1, 5) := by rcases h with rfl | rfl | rfl <;> rfl
theorem pT0 (h : isT o) : P0 t e o 0 = some (o + 1) := by rcases h with rfl | rfl | rfl <;> rfl
theorem pT1 (h : isT o) : P0 t e o 1 = some (o + 2) := by rcases h with rfl | rfl | rfl <;> rfl
theorem lT (h : isT o) : o + 2 < 31 := by rcases h with rfl | rfl | rfl <;> decide
theorem oT (hn : 44 ≤ nx) (h : isT o) : okO nx o 5 := ⟨kT0 h, by have := lT h; omega⟩
theorem kR0 (h : isR r) : kindOf r = (0, 3) := by rcases h with rfl | rfl <;> rfl
theorem kR1 (h : isR r) : kindOf (r + 1) = (1, 6) := by rcases h with rfl | rfl <;> rfl
theorem kR2 (h : isR r) : kindOf (r + 2) = (1, 6) := by rcases h with rfl | rfl <;> rfl
theorem kR3 (h : isR r) : kindOf (r + 3) = (1, 6) := by rcases h with rfl | rfl <;> rfl
theorem kR4 (h : isR r) : kindOf (r + 4) = (1, 7) := by rcases h with rfl | rfl <;> rfl
theorem pR0 (h : isR r) : P0 t e r 0 = some (r + 1) := by rcases h with rfl | rfl <;> rfl
theorem pR1 (h : isR r) : P0 t e r 1 = some (r + 2) := by rcases h with rfl | rfl <;> rfl
theorem pR2 (h : isR r) : P0 t e r 2 = some (r + 3) := by rcases h with rfl | rfl <;> rfl
theorem pR3 (h : isR r) : P0 t e r 3 = some (r + 4) := by rcases h with rfl | rfl <;> rfl
theorem lR (h : isR r) : r + 4 < 22 := by rcases h with rfl | rfl <;> decide
theorem oR (hn : 44 ≤ nx) (h : isR r) : okO nx r 3 := ⟨kR0 h, by have := lR h; omega⟩
theorem o0 (hn : 44 ≤ nx) : okO nx 0 6 := ⟨rfl, by omega⟩
theorem o1 (hn : 44 ≤ nx) : okO nx 1 2 := ⟨rfl, by omega⟩
theorem o2 (hn : 44 ≤ nx) : okO nx 2 4 := ⟨rfl, by omega⟩
theorem o11 (hn : 44 ≤ nx) : okO nx 11 3 := ⟨rfl, by omega⟩
theorem o16 (hn : 44 ≤ nx) : okO nx 16 0 := ⟨rfl, by omega⟩
theorem o17 (hn : 44 ≤ nx) : okO nx 17 3 := ⟨rfl, by omega⟩
theorem o22 (hn : 44 ≤ nx) : okO nx 22 5 := ⟨rfl, by omega⟩
theorem o25 (hn : 44 ≤ nx) : okO nx 25 1 := ⟨rfl, by omega⟩
theorem o31 (hn : 44 ≤ nx) : okO nx 31 7 := ⟨rfl, by omega⟩
end BAS
