/-! LONG BITS -/
def vlB : List Nat → Nat
  | [] => 0
  | a :: l => a + 256 * vlB l
def rpB (m : Nat) : Nat → Nat
  | 0 => 0
  | n + 1 => m + 256 * rpB m n
def byB : Nat → Nat → List Nat
  | 0, _ => []
  | n + 1, v => v % 256 :: byB n (v / 256)
theorem and8 {a b m k : Nat} (ha : a < 256) (hm : m < 256) : (a + 256 * b) &&& (m + 256 * k) = (a &&& m) + 256 * (b &&& k) := by
  have e : ∀ {x y : Nat}, x < 256 → ∀ j, (x + 256 * y).testBit j = if j < 8 then x.testBit j else y.testBit (j - 8) := by
    intro x y hx j
    rw [Nat.add_comm]
    exact Nat.testBit_two_pow_mul_add y (i := 8) hx j
  have hl : a &&& m < 256 := Nat.lt_of_le_of_lt Nat.and_le_left ha
  apply Nat.eq_of_testBit_eq
  intro j
  rw [Nat.testBit_and, e ha, e hm, e hl]
  by_cases h : j < 8
  · rw [if_pos h, if_pos h, if_pos h, Nat.testBit_and]
  · rw [if_neg h, if_neg h, if_neg h, Nat.testBit_and]
def b8 (l : List Nat) : Prop := ∀ x ∈ l, x < 256
theorem b8_c {a : Nat} {l : List Nat} (h : b8 (a :: l)) : a < 256 ∧ b8 l := ⟨h a List.mem_cons_self, fun x hx => h x (List.mem_cons_of_mem _ hx)⟩
theorem and_m {m : Nat} (hm : m < 256) : ∀ l, b8 l → vlB l &&& rpB m l.length = vlB (l.map (· &&& m))
  | [], _ => Nat.zero_and _
  | a :: l, h => by
    show (a + 256 * vlB l) &&& (m + 256 * rpB m l.length) = (a &&& m) + 256 * vlB (l.map (· &&& m))
    rw [and8 (b8_c h).1 hm, and_m hm l (b8_c h).2]
theorem k55 : ∀ a, a < 256 → ∀ t, t < 2 → (a / 2 + 128 * t) &&& 85 = (a / 2) &&& 85 := by decide +kernel
theorem k33 : ∀ a, a < 256 → ∀ t, t < 4 → (a / 4 + 64 * t) &&& 51 = (a / 4) &&& 51 := by decide +kernel
theorem sh1 : ∀ l, b8 l → (vlB l / 2) &&& rpB 85 l.length = vlB (l.map (fun x => (x / 2) &&& 85))
  | [], _ => rfl
  | a :: l, h => by
    show ((a + 256 * vlB l) / 2) &&& (85 + 256 * rpB 85 l.length) = ((a / 2) &&& 85) + 256 * vlB (l.map (fun x => (x / 2) &&& 85))
    have ha := (b8_c h).1
    rw [show (a + 256 * vlB l) / 2 = (a / 2 + 128 * (vlB l % 2)) + 256 * (vlB l / 2) by omega, and8 (by omega) (by decide), sh1 l (b8_c h).2, k55 a ha _ (by omega)]
theorem sh2 : ∀ l, b8 l → (vlB l / 4) &&& rpB 51 l.length = vlB (l.map (fun x => (x / 4) &&& 51))
  | [], _ => rfl
  | a :: l, h => by
    show ((a + 256 * vlB l) / 4) &&& (51 + 256 * rpB 51 l.length) = ((a / 4) &&& 51) + 256 * vlB (l.map (fun x => (x / 4) &&& 51))
    have ha := (b8_c h).1
    rw [show (a + 256 * vlB l) / 4 = (a / 4 + 64 * (vlB l % 4)) + 256 * (vlB l / 4) by omega, and8 (by omega) (by decide), sh2 l (b8_c h).2, k33 a ha _ (by omega)]
/-- nibbles up to 4 -/
def n4 (l : List Nat) : Prop := ∀ x ∈ l, x % 16 ≤ 4 ∧ x / 16 ≤ 4
theorem n4_c {a : Nat} {l : List Nat} (h : n4 (a :: l)) : (a % 16 ≤ 4 ∧ a / 16 ≤ 4) ∧ n4 l := ⟨h a List.mem_cons_self, fun x hx => h x (List.mem_cons_of_mem _ hx)⟩
theorem k15 : ∀ a, a < 256 → a % 16 ≤ 4 → a / 16 ≤ 4 → ∀ t, t < 5 → (a + a / 16 + 16 * t) &&& 15 = a % 16 + a / 16 := by decide +kernel
theorem sh4 : ∀ l, n4 l → vlB l % 16 ≤ 4 ∧ (vlB l + vlB l / 16) &&& rpB 15 l.length = vlB (l.map (fun x => x % 16 + x / 16))
  | [], _ => ⟨by decide, rfl⟩
  | a :: l, h => by
    show (a + 256 * vlB l) % 16 ≤ 4 ∧ ((a + 256 * vlB l) + (a + 256 * vlB l) / 16) &&& (15 + 256 * rpB 15 l.length) = (a % 16 + a / 16) + 256 * vlB (l.map (fun x => x % 16 + x / 16))
    have ha := (n4_c h).1
    have ih := sh4 l (n4_c h).2
    refine ⟨by omega, ?_⟩
    rw [show (a + 256 * vlB l) + (a + 256 * vlB l) / 16 = (a + a / 16 + 16 * (vlB l % 16)) + 256 * (vlB l + vlB l / 16) by omega, and8 (by omega) (by decide), ih.2, k15 a (by omega) ha.1 ha.2 _ (by omega)]
def g1 (x : Nat) : Nat := x - ((x / 2) &&& 85)
def g2 (x : Nat) : Nat := (g1 x &&& 51) + ((g1 x / 4) &&& 51)
theorem g1_ok : ∀ x, x < 256 → ((x / 2) &&& 85) ≤ x := by decide +kernel
theorem g2_ok : ∀ x, x < 256 → g2 x % 16 ≤ 4 ∧ g2 x / 16 ≤ 4 ∧ g2 x % 16 + g2 x / 16 = cntF (fun i => x.testBit i) 0 8 := by decide +kernel
theorem g1_le {x : Nat} : g1 x ≤ x := Nat.sub_le _ _
theorem sub_m : ∀ l, b8 l → vlB (l.map (fun x => (x / 2) &&& 85)) ≤ vlB l ∧ vlB l - vlB (l.map (fun x => (x / 2) &&& 85)) = vlB (l.map g1)
  | [], _ => ⟨Nat.le_refl _, rfl⟩
  | a :: l, h => by
    have ih := sub_m l (b8_c h).2
    have h1 := g1_ok a (b8_c h).1
    have e1 : g1 a = a - ((a / 2) &&& 85) := rfl
    show ((a / 2) &&& 85) + 256 * vlB (l.map (fun x => (x / 2) &&& 85)) ≤ a + 256 * vlB l ∧ (a + 256 * vlB l) - (((a / 2) &&& 85) + 256 * vlB (l.map (fun x => (x / 2) &&& 85))) = g1 a + 256 * vlB (l.map g1)
    constructor <;> omega
theorem add_m (f g : Nat → Nat) : ∀ l : List Nat, vlB (l.map f) + vlB (l.map g) = vlB (l.map (fun x => f x + g x))
  | [] => rfl
  | a :: l => by
    have ih := add_m f g l
    show (f a + 256 * vlB (l.map f)) + (g a + 256 * vlB (l.map g)) = (f a + g a) + 256 * vlB (l.map (fun x => f x + g x))
    omega
theorem vlB_lt : ∀ l, b8 l → vlB l < 256 ^ l.length
  | [], _ => by decide
  | a :: l, h => by
    have ih := vlB_lt l (b8_c h).2
    have ha := (b8_c h).1
    show a + 256 * vlB l < 256 ^ (l.length + 1)
    rw [Nat.pow_succ]
    omega
theorem byB_b8 : ∀ n v, b8 (byB n v)
  | 0, v => fun x hx => by cases hx
  | n + 1, v => by
    intro x hx
    rcases List.mem_cons.mp hx with q | q
    · rw [q]; exact Nat.mod_lt _ (by decide)
    · exact byB_b8 n _ x q
theorem byB_vl : ∀ n v, v < 256 ^ n → vlB (byB n v) = v
  | 0, v, h => by
    show 0 = v
    rw [Nat.pow_zero] at h
    omega
  | n + 1, v, h => by
    show v % 256 + 256 * vlB (byB n (v / 256)) = v
    rw [byB_vl n _ (by rw [Nat.pow_succ] at h; omega)]
    omega
theorem byB_len : ∀ n v, (byB n v).length = n
  | 0, v => rfl
  | n + 1, v => by show (byB n (v / 256)).length + 1 = n + 1; rw [byB_len n]
theorem cntF_add (p : Nat → Bool) : ∀ n i m, cntF p i (n + m) = cntF p i n + cntF p (i + n) m
  | 0, i, m => by
    rw [Nat.zero_add]
    show cntF p i m = 0 + cntF p (i + 0) m
    rw [Nat.zero_add, Nat.add_zero]
  | n + 1, i, m => by
    rw [show n + 1 + m = (n + m) + 1 by omega]
    show (if p i then 1 else 0) + cntF p (i + 1) (n + m) = (if p i then 1 else 0) + cntF p (i + 1) n + cntF p (i + (n + 1)) m
    rw [cntF_add p n, show i + 1 + n = i + (n + 1) by omega]
    omega
theorem cntF_cg {p q : Nat → Bool} {k : Nat} : ∀ n i, (∀ j, i ≤ j → j < i + n → p (j + k) = q j) → cntF p (i + k) n = cntF q i n
  | 0, i, _ => rfl
  | n + 1, i, h => by
    show (if p (i + k) then 1 else 0) + cntF p (i + k + 1) n = (if q i then 1 else 0) + cntF q (i + 1) n
    rw [h i (Nat.le_refl _) (by omega), show i + k + 1 = i + 1 + k by omega, cntF_cg n (i + 1) (fun j a b => h j (by omega) (by omega))]
def sumB : List Nat → Nat
  | [] => 0
  | a :: l => a + sumB l
theorem pop_by : ∀ n v, v < 256 ^ n → sumB ((byB n v).map (fun x => g2 x % 16 + g2 x / 16)) = cntF (fun i => v.testBit i) 0 (8 * n)
  | 0, v, _ => rfl
  | n + 1, v, h => by
    show (g2 (v % 256) % 16 + g2 (v % 256) / 16) + sumB ((byB n (v / 256)).map (fun x => g2 x % 16 + g2 x / 16)) = _
    have h256 : v % 256 < 256 := Nat.mod_lt _ (by decide)
    rw [(g2_ok _ h256).2.2, pop_by n (v / 256) (by rw [Nat.pow_succ] at h; omega), show 8 * (n + 1) = 8 + 8 * n by omega, cntF_add]
    have e : ∀ j, v.testBit j = if j < 8 then (v % 256).testBit j else (v / 256).testBit (j - 8) := by
      intro j
      have := Nat.testBit_two_pow_mul_add (v / 256) (i := 8) h256 j
      rw [show 2 ^ 8 * (v / 256) + v % 256 = v by omega] at this
      exact this
    congr 1
    · have := cntF_cg (p := fun i => (v % 256).testBit i) (q := fun i => v.testBit i) (k := 0) 8 0 (fun j _ hj => by
        show (v % 256).testBit (j + 0) = v.testBit j
        rw [e j, if_pos (by omega), Nat.add_zero])
      exact this
    · have := cntF_cg (p := fun i => v.testBit i) (q := fun i => (v / 256).testBit i) (k := 8) (8 * n) 0 (fun j _ hj => by
        show v.testBit (j + 8) = (v / 256).testBit j
        rw [e (j + 8), if_neg (by omega), Nat.add_sub_cancel])
      exact this.symm
/-- as a natural number -/
def u64 (x : Int64) : Nat := x.toUInt64.toNat
theorem u64_lt (x : Int64) : u64 x < 2 ^ 64 := x.toUInt64.toNat_lt
theorem u64_add {a b : Int64} (h : u64 a + u64 b < 2 ^ 64) : u64 (a + b) = u64 a + u64 b := by
  unfold u64 at *
  rw [Int64.toUInt64_add, UInt64.toNat_add, Nat.mod_eq_of_lt h]
theorem u64_sub {a b : Int64} (h : u64 b ≤ u64 a) : u64 (a - b) = u64 a - u64 b := by
  unfold u64 at *
  rw [Int64.toUInt64_sub, UInt64.toNat_sub_of_le _ _ h]
theorem u64_and (a b : Int64) : u64 (a &&& b) = u64 a &&& u64 b := by
  unfold u64
  rw [Int64.toUInt64_and, UInt64.toNat_and]
theorem u64_shr (a : Int64) (k : UInt64) {n : Nat} (h : k.toNat % 64 = n) : u64 ((a.toUInt64 >>> k).toInt64) = u64 a / 2 ^ n := by
  unfold u64
  rw [UInt64.toUInt64_toInt64, UInt64.toNat_shiftRight, h, Nat.shiftRight_eq_div_pow]
section SW
variable (v m5 m3 mf : Int64) (k1 k2 k4 k8 k16 k32 : UInt64)
def w1 : Int64 := v - (((v.toUInt64 >>> k1).toInt64) &&& m5)
def w2 : Int64 := (w1 v m5 k1 &&& m3) + ((((w1 v m5 k1).toUInt64 >>> k2).toInt64) &&& m3)
def w3 : Int64 := (w2 v m5 m3 k1 k2 + ((w2 v m5 m3 k1 k2).toUInt64 >>> k4).toInt64) &&& mf
def w4 : Int64 := w3 v m5 m3 mf k1 k2 k4 + ((w3 v m5 m3 mf k1 k2 k4).toUInt64 >>> k8).toInt64
def w5 : Int64 := w4 v m5 m3 mf k1 k2 k4 k8 + ((w4 v m5 m3 mf k1 k2 k4 k8).toUInt64 >>> k16).toInt64
def w6 : Int64 := w5 v m5 m3 mf k1 k2 k4 k8 k16 + ((w5 v m5 m3 mf k1 k2 k4 k8 k16).toUInt64 >>> k32).toInt64
end SW
theorem n8 {p : Nat → Nat} (hp : ∀ x, x < 256 → p x ≤ 8) : ∀ l, b8 l → ∀ x ∈ l.map p, x ≤ 8 := by
  intro l h x hx
  obtain ⟨y, hy, e⟩ := List.mem_map.mp hx
  rw [← e]; exact hp y (h y hy)
theorem cnt8 (p : Nat → Bool) : ∀ n i, cntF p i n ≤ n
  | 0, _ => Nat.le_refl _
  | n + 1, i => by
    have := cnt8 p n (i + 1)
    unfold cntF
    split <;> omega
theorem dv1 {a z : Nat} (h : a < 256) : (a + 256 * z) / 2 ^ 8 = z := by omega
theorem dv2 {a b z : Nat} (h : a < 256) (h2 : b < 256) : (a + 256 * (b + 256 * z)) / 2 ^ 16 = z := by omega
theorem dv4 {a b c d z : Nat} (h : a < 256) (h2 : b < 256) (h3 : c < 256) (h4 : d < 256) : (a + 256 * (b + 256 * (c + 256 * (d + 256 * z)))) / 2 ^ 32 = z := by omega
theorem shad {x : Int64} {k : UInt64} {n X Y : Nat} (hk : k.toNat % 64 = n) (hx : u64 x = X) (hy : u64 x / 2 ^ n = Y) (h : X < 2 ^ 63) : u64 (x + (x.toUInt64 >>> k).toInt64) = X + Y := by
  have q := u64_shr x k hk
  have hl : u64 x / 2 ^ n ≤ u64 x := Nat.div_le_self _ _
  rw [hy] at q hl
  rw [u64_add (by rw [q]; omega), q, hx]
theorem bn {a z k : Nat} (ha : a < 256) (hz : z < 2 ^ k) : a + 256 * z < 2 ^ (k + 8) := by
  rw [Nat.pow_add]; omega
theorem md {s z : Nat} (h : s < 128) : (s + 256 * z) % 128 = s := by omega
theorem ad8 (a b x y : Nat) : (a + 256 * x) + (b + 256 * y) = (a + b) + 256 * (x + y) := by omega
theorem ad1 (a b x : Nat) : (a + 256 * x) + b = (a + b) + 256 * x := by omega
theorem st8 {x : Int64} {k : UInt64} {a b c d e f g h : Nat} (hk : k.toNat % 64 = 8) (ba : a ≤ 8) (bb : b ≤ 8) (bc : c ≤ 8) (bd : d ≤ 8) (be : e ≤ 8) (bf : f ≤ 8) (bg : g ≤ 8) (bh : h ≤ 8) (hx : u64 x = a + 256 * (b + 256 * (c + 256 * (d + 256 * (e + 256 * (f + 256 * (g + 256 * (h)))))))) : u64 (x + (x.toUInt64 >>> k).toInt64) = (a + b) + 256 * ((b + c) + 256 * ((c + d) + 256 * ((d + e) + 256 * ((e + f) + 256 * ((f + g) + 256 * ((g + h) + 256 * (h))))))) := by
  have dd : u64 x / 2 ^ 8 = b + 256 * (c + 256 * (d + 256 * (e + 256 * (f + 256 * (g + 256 * (h)))))) := by rw [hx]; exact dv1 (by omega)
  rw [shad hk hx dd (bn (k := 55) (by omega) (bn (k := 47) (by omega) (bn (k := 39) (by omega) (bn (k := 31) (by omega) (bn (k := 23) (by omega) (bn (k := 15) (by omega) (bn (k := 7) (by omega) (by omega)))))))), ad8, ad8, ad8, ad8, ad8, ad8, ad1]
theorem st16 {x : Int64} {k : UInt64} {a b c d e f g h : Nat} (hk : k.toNat % 64 = 16) (ba : a ≤ 8) (bb : b ≤ 8) (bc : c ≤ 8) (bd : d ≤ 8) (be : e ≤ 8) (bf : f ≤ 8) (bg : g ≤ 8) (bh : h ≤ 8) (hx : u64 x = (a + b) + 256 * ((b + c) + 256 * ((c + d) + 256 * ((d + e) + 256 * ((e + f) + 256 * ((f + g) + 256 * ((g + h) + 256 * (h)))))))) : u64 (x + (x.toUInt64 >>> k).toInt64) = ((a + b) + (c + d)) + 256 * (((b + c) + (d + e)) + 256 * (((c + d) + (e + f)) + 256 * (((d + e) + (f + g)) + 256 * (((e + f) + (g + h)) + 256 * (((f + g) + h) + 256 * ((g + h) + 256 * (h))))))) := by
  have dd : u64 x / 2 ^ 16 = (c + d) + 256 * ((d + e) + 256 * ((e + f) + 256 * ((f + g) + 256 * ((g + h) + 256 * (h))))) := by rw [hx]; exact dv2 (by omega) (by omega)
  rw [shad hk hx dd (bn (k := 55) (by omega) (bn (k := 47) (by omega) (bn (k := 39) (by omega) (bn (k := 31) (by omega) (bn (k := 23) (by omega) (bn (k := 15) (by omega) (bn (k := 7) (by omega) (by omega)))))))), ad8, ad8, ad8, ad8, ad8, ad1]
theorem st32 {x : Int64} {k : UInt64} {a b c d e f g h : Nat} (hk : k.toNat % 64 = 32) (ba : a ≤ 8) (bb : b ≤ 8) (bc : c ≤ 8) (bd : d ≤ 8) (be : e ≤ 8) (bf : f ≤ 8) (bg : g ≤ 8) (bh : h ≤ 8) (hx : u64 x = ((a + b) + (c + d)) + 256 * (((b + c) + (d + e)) + 256 * (((c + d) + (e + f)) + 256 * (((d + e) + (f + g)) + 256 * (((e + f) + (g + h)) + 256 * (((f + g) + h) + 256 * ((g + h) + 256 * (h)))))))) : u64 (x + (x.toUInt64 >>> k).toInt64) = (((a + b) + (c + d)) + ((e + f) + (g + h))) + 256 * ((((b + c) + (d + e)) + ((f + g) + h)) + 256 * ((((c + d) + (e + f)) + (g + h)) + 256 * ((((d + e) + (f + g)) + h) + 256 * (((e + f) + (g + h)) + 256 * (((f + g) + h) + 256 * ((g + h) + 256 * (h))))))) := by
  have dd : u64 x / 2 ^ 32 = ((e + f) + (g + h)) + 256 * (((f + g) + h) + 256 * ((g + h) + 256 * (h))) := by rw [hx]; exact dv4 (by omega) (by omega) (by omega) (by omega)
  rw [shad hk hx dd (bn (k := 55) (by omega) (bn (k := 47) (by omega) (bn (k := 39) (by omega) (bn (k := 31) (by omega) (bn (k := 23) (by omega) (bn (k := 15) (by omega) (bn (k := 7) (by omega) (by omega)))))))), ad8, ad8, ad8, ad1]
theorem lt8 {a b c d e f g h : Nat} (ba : a ≤ 8) (bb : b ≤ 8) (bc : c ≤ 8) (bd : d ≤ 8) (be : e ≤ 8) (bf : f ≤ 8) (bg : g ≤ 8) (bh : h ≤ 8) : a + b + (c + d) + (e + f + (g + h)) < 128 := by omega
theorem eq8 (a b c d e f g h : Nat) : a + b + (c + d) + (e + f + (g + h)) = a + (b + (c + (d + (e + (f + (g + (h + 0))))))) := by omega
theorem w6_ok {v m5 m3 mf : Int64} {k1 k2 k4 k8 k16 k32 : UInt64} (h5 : u64 m5 = rpB 85 8) (h3 : u64 m3 = rpB 51 8) (hf : u64 mf = rpB 15 8) (e1 : k1.toNat % 64 = 1) (e2 : k2.toNat % 64 = 2) (e4 : k4.toNat % 64 = 4) (e8 : k8.toNat % 64 = 8) (e16 : k16.toNat % 64 = 16) (e32 : k32.toNat % 64 = 32) : u64 (w6 v m5 m3 mf k1 k2 k4 k8 k16 k32) % 128 = cntF (fun i => (u64 v).testBit i) 0 64 := by
  have hv : u64 v < 256 ^ 8 := u64_lt v
  obtain ⟨l, hl⟩ : ∃ l, l = byB 8 (u64 v) := ⟨_, rfl⟩
  have hb : b8 l := hl ▸ byB_b8 8 _
  have hlen : l.length = 8 := hl ▸ byB_len 8 _
  have hvl : vlB l = u64 v := by rw [hl]; exact byB_vl 8 _ hv
  have x1 : u64 (w1 v m5 k1) = vlB (l.map g1) := by
    unfold w1
    have := sub_m l hb
    have hs := sh1 l hb
    rw [hlen, hvl] at hs
    rw [hvl] at this
    rw [u64_sub (by rw [u64_and, u64_shr _ _ e1, h5]; show u64 v / 2 &&& _ ≤ _; rw [hs]; exact this.1), u64_and, u64_shr _ _ e1, h5]
    show u64 v - (u64 v / 2 &&& _) = _
    rw [hs]; exact this.2
  have hb1 : b8 (l.map g1) := by
    intro x hx
    obtain ⟨y, hy, e⟩ := List.mem_map.mp hx
    rw [← e]; exact Nat.lt_of_le_of_lt g1_le (hb y hy)
  have hb2 : b8 (l.map g2) := by
    intro x hx
    obtain ⟨y, hy, e⟩ := List.mem_map.mp hx
    have := g2_ok y (hb y hy)
    rw [← e]; omega
  have hn2 : n4 (l.map g2) := by
    intro x hx
    obtain ⟨y, hy, e⟩ := List.mem_map.mp hx
    have := g2_ok y (hb y hy)
    rw [← e]; omega
  have z2 : vlB (l.map g2) < 2 ^ 63 := by
    have : ∀ q : List Nat, (∀ x ∈ q, x ≤ 68) → 15 * vlB q ≤ 4 * (256 ^ q.length - 1) := by
      intro q
      induction q with
      | nil => intro _; decide
      | cons a q ih =>
        intro h
        have h1 := ih (fun x hx => h x (List.mem_cons_of_mem _ hx))
        have h2 := h a List.mem_cons_self
        show 15 * (a + 256 * vlB q) ≤ 4 * (256 ^ (q.length + 1) - 1)
        rw [Nat.pow_succ]
        have : 0 < 256 ^ q.length := Nat.pow_pos (by decide)
        omega
    have h := this (l.map g2) (fun x hx => by have := hn2 x hx; omega)
    rw [List.length_map, hlen] at h
    omega
  have x2 : u64 (w2 v m5 m3 k1 k2) = vlB (l.map g2) := by
    have a1 := and_m (m := 51) (by decide) _ hb1
    have a2 := sh2 _ hb1
    rw [List.length_map, hlen, ← x1, List.map_map] at a1 a2
    have a3 := add_m ((fun x => x &&& 51) ∘ g1) ((fun x => (x / 4) &&& 51) ∘ g1) l
    unfold w2
    have q1 : u64 (w1 v m5 k1 &&& m3) = vlB (l.map ((fun x => x &&& 51) ∘ g1)) := by rw [u64_and, h3]; exact a1
    have q2 : u64 ((((w1 v m5 k1).toUInt64 >>> k2).toInt64) &&& m3) = vlB (l.map ((fun x => (x / 4) &&& 51) ∘ g1)) := by rw [u64_and, u64_shr _ _ e2, h3]; exact a2
    have q3 : vlB (l.map (fun x => ((fun x => x &&& 51) ∘ g1) x + ((fun x => (x / 4) &&& 51) ∘ g1) x)) = vlB (l.map g2) := rfl
    rw [u64_add (by rw [q1, q2, a3, q3]; omega), q1, q2, a3, q3]
  have x3 : u64 (w3 v m5 m3 mf k1 k2 k4) = vlB (l.map (fun x => g2 x % 16 + g2 x / 16)) := by
    have a1 := (sh4 _ hn2).2
    rw [List.length_map, hlen, ← x2, List.map_map] at a1
    unfold w3
    have q1 := u64_shr (w2 v m5 m3 k1 k2) k4 e4
    rw [u64_and, u64_add (by rw [q1, x2]; omega), q1, hf]
    exact a1
  have hpop := pop_by 8 (u64 v) hv
  rw [← hl] at hpop
  obtain ⟨p, hp⟩ : ∃ p, p = l.map (fun x => g2 x % 16 + g2 x / 16) := ⟨_, rfl⟩
  have hp8 : ∀ x ∈ p, x ≤ 8 := by
    rw [hp]
    exact n8 (fun x hx => by have := (g2_ok x hx).2.2; rw [this]; exact cnt8 _ 8 0) l hb
  have hpl : p.length = 8 := by rw [hp, List.length_map, hlen]
  rw [← hp] at x3 hpop
  rw [← hpop]
  match p, hpl, hp8 with
  | [a, b, c, d, e, f, g, h], _, hp8 =>
    have y3 : u64 (w3 v m5 m3 mf k1 k2 k4) = a + 256 * (b + 256 * (c + 256 * (d + 256 * (e + 256 * (f + 256 * (g + 256 * (h))))))) := x3
    have ba := hp8 a (by simp)
    have bb := hp8 b (by simp)
    have bc := hp8 c (by simp)
    have bd := hp8 d (by simp)
    have be := hp8 e (by simp)
    have bf := hp8 f (by simp)
    have bg := hp8 g (by simp)
    have bh := hp8 h (by simp)
    have y4 := st8 (x := w3 v m5 m3 mf k1 k2 k4) e8 ba bb bc bd be bf bg bh y3
    have y5 := st16 (x := w4 v m5 m3 mf k1 k2 k4 k8) e16 ba bb bc bd be bf bg bh y4
    have y6 := st32 (x := w5 v m5 m3 mf k1 k2 k4 k8 k16) e32 ba bb bc bd be bf bg bh y5
    have y7 : u64 (w6 v m5 m3 mf k1 k2 k4 k8 k16 k32) = _ := y6
    rw [y7, md (lt8 ba bb bc bd be bf bg bh)]
    exact eq8 a b c d e f g h

theorem i127 (x : Int64) : x.toInt32 &&& nI 127 = nI (u64 x % 128) := by
  apply Int32.toBitVec_inj.mp
  apply BitVec.eq_of_toNat_eq
  have e1 : x.toInt32.toBitVec.toNat = u64 x % 2 ^ 32 := by
    show (BitVec.signExtend 32 x.toBitVec).toNat = _
    rw [BitVec.signExtend_eq_setWidth_of_le _ (by decide), BitVec.toNat_setWidth]
    rfl
  have e2 : (nI 127).toBitVec.toNat = 2 ^ 7 - 1 := by decide +kernel
  have e3 : (nI (u64 x % 128)).toBitVec.toNat = u64 x % 128 := by
    show (BitVec.ofNat 32 (u64 x % 128)).toNat = _
    rw [BitVec.toNat_ofNat]
    omega
  rw [Int32.toBitVec_and, BitVec.toNat_and, e1, e2, e3, Nat.and_two_pow_sub_one_eq_mod]
  omega
/-- the bits of a long -/
def BL (v : Int64) (f : Nat → Bool) : Prop := ∀ j, j < 64 → v.toBitVec.getLsbD j = f j
theorem BL.z : BL (lN 0) (fun _ => false) := by
  have : ∀ j, j < 64 → (lN 0).toBitVec.getLsbD j = false := by decide +kernel
  exact this
theorem one_bit : ∀ b, b < 64 → ∀ j, j < 64 → ((lN 1) <<< ((nI b).toInt64 &&& 63)).toBitVec.getLsbD j = (j == b) := by decide +kernel
theorem BL.or {v : Int64} {f : Nat → Bool} {b : Nat} (h : BL v f) (hb : b < 64) : BL (v ||| ((lN 1) <<< ((nI b).toInt64 &&& 63))) (fun j => f j || j == b) := fun j hj => by
  rw [Int64.toBitVec_or, BitVec.getLsbD_or, h j hj, one_bit b hb j hj]
theorem BL.cg {v : Int64} {f g : Nat → Bool} (h : BL v f) (he : ∀ j, j < 64 → f j = g j) : BL v g := fun j hj => (h j hj).trans (he j hj)
theorem sh63 : ∀ j, j < 64 → ((nI j).toInt64 &&& 63).toBitVec.smod 64 = BitVec.ofNat 64 j := by decide +kernel
theorem and1L (x : Int64) : x &&& lN 1 = lN 1 ↔ x.toBitVec.getLsbD 0 = true := by
  have h1 : (lN 1).toBitVec = 1#64 := by decide +kernel
  rw [← Int64.toBitVec_inj, Int64.toBitVec_and, h1]
  constructor
  · intro h
    have := congrArg (fun y => y.getLsbD 0) h
    simpa using this
  · intro h
    apply BitVec.eq_of_getLsbD_eq
    intro i hi
    rw [BitVec.getLsbD_and, BitVec.getLsbD_one]
    by_cases h0 : i = 0
    · subst h0; simp [h]
    · simp [h0]
theorem BL.bit {v : Int64} {f : Nat → Bool} {j : Nat} (h : BL v f) (hj : j < 64) : (v >>> ((nI j).toInt64 &&& 63)) &&& lN 1 = lN 1 ↔ f j = true := by
  rw [and1L, Int64.toBitVec_shiftRight, sh63 j hj, ← h j hj]
  show (v.toBitVec.sshiftRight (BitVec.ofNat 64 j).toNat).getLsbD 0 = true ↔ _
  rw [BitVec.toNat_ofNat, Nat.mod_eq_of_lt (by omega), BitVec.getLsbD_sshiftRight, if_pos (by omega), Nat.add_zero]
  simp
theorem bcL {v : Int64} {f : Nat → Bool} (h : BL v f) : cntF (fun i => (u64 v).testBit i) 0 64 = cntF f 0 64 := by
  have := cntF_cg (p := fun i => (u64 v).testBit i) (q := f) (k := 0) 64 0 (fun j _ hj => by
    rw [← h j (by omega)]
    show v.toBitVec.toNat.testBit (j + 0) = _
    rw [BitVec.testBit_toNat, Nat.add_zero])
  exact this
/-- the place of the element that x counts to -/
def nthX (f : Nat → Bool) (x : Int32) : Nat → Nat → Nat → Option Nat
  | 0, _, _ => none
  | n + 1, c, i => if f i = true then (if nI c = x then some i else nthX f x n (c + 1) (i + 1)) else nthX f x n c (i + 1)
theorem nthX_s {f : Nat → Bool} {x : Int32} {n c i : Nat} : nthX f x (n + 1) c i = if f i = true then (if nI c = x then some i else nthX f x n (c + 1) (i + 1)) else nthX f x n c (i + 1) := rfl
/-- the lands of a loop, out of a road: from where it closes -/
def lpF (e : Nat) : List Nat → Nat → Nat
  | [], b => b
  | x :: p, b => lpF e p (if ¬ b = 0 ∨ x = e then b ||| 2 ^ x else b)
def oN : Option Nat → Int32
  | some j => nI j
  | none => ng2
def popN (b : Nat) : Nat := cntF (fun i => b.testBit i) 0 6
/-- any under n -/
def anF (p : Nat → Bool) : Nat → Bool
  | 0 => false
  | n + 1 => anF p n || p n
theorem anF_t {p : Nat → Bool} : ∀ {n}, anF p n = true ↔ ∃ l, l < n ∧ p l = true
  | 0 => by simp [anF]
  | n + 1 => by
    show (anF p n || p n) = true ↔ _
    rw [Bool.or_eq_true, anF_t]
    constructor
    · rintro (⟨l, h, q⟩ | q)
      · exact ⟨l, by omega, q⟩
      · exact ⟨n, by omega, q⟩
    · rintro ⟨l, h, q⟩
      by_cases e : l = n
      · subst e; exact Or.inr q
      · exact Or.inl ⟨l, by omega, q⟩
theorem rdW_len (nxt : Nat → Nat) (wh : Nat → Bool) : ∀ n p a, (rdW nxt wh n p a).1.length ≤ p.length + n
  | 0, p, a => Nat.le_refl _
  | n + 1, p, a => by
    have ih := rdW_len nxt wh n (p ++ [nxt a - 1]) (nxt a - 1)
    rw [List.length_append, List.length_singleton] at ih
    unfold rdW
    split
    · show p.length ≤ _; omega
    · split
      · show p.length ≤ _; omega
      · split
        · show (p ++ [nxt a - 1]).length ≤ _
          rw [List.length_append, List.length_singleton]; omega
        · split
          · show p.length ≤ _; omega
          · omega
theorem road_len {nxt : Nat → Nat} {wh : Nat → Bool} {l : Nat} : (road nxt wh l).1.length ≤ 7 := rdW_len nxt wh 6 [l] l
theorem rdW_how (nxt : Nat → Nat) (wh : Nat → Bool) : ∀ n p a, (rdW nxt wh n p a).2.1 ≤ 9
  | 0, p, a => Nat.le_refl _
  | n + 1, p, a => by
    unfold rdW
    split
    · exact Nat.zero_le _
    · split
      · show 1 ≤ 9; decide
      · split
        · show 2 ≤ 9; decide
        · split
          · show 3 ≤ 9; decide
          · exact rdW_how nxt wh n _ _
theorem road_how {nxt : Nat → Nat} {wh : Nat → Bool} {l : Nat} : (road nxt wh l).2.1 ≤ 9 := rdW_how nxt wh 6 [l] l
theorem rdW_in (nxt : Nat → Nat) (wh : Nat → Bool) : ∀ n p a, (rdW nxt wh n p a).2.1 = 3 → (rdW nxt wh n p a).2.2 ∈ (rdW nxt wh n p a).1
  | 0, p, a => fun h => absurd (show (9 : Nat) = 3 from h) (by decide)
  | n + 1, p, a => by
    unfold rdW
    split
    · exact fun h => absurd (show (0 : Nat) = 3 from h) (by decide)
    · split
      · exact fun h => absurd (show (1 : Nat) = 3 from h) (by decide)
      · split
        · exact fun h => absurd (show (2 : Nat) = 3 from h) (by decide)
        · split
          · rename_i h; exact fun _ => h
          · exact rdW_in nxt wh n _ _
theorem lpF_ne {e : Nat} : ∀ p b, (¬ b = 0 ∨ e ∈ p) → ¬ lpF e p b = 0
  | [], b, h => h.elim id (fun q => by cases q)
  | x :: p, b, h => by
    unfold lpF
    have hx : ¬ b ||| 2 ^ x = 0 := fun q => by
      have := (Nat.or_eq_zero_iff.mp q).2
      have h2 : 0 < 2 ^ x := Nat.pow_pos (by decide)
      omega
    split
    · exact lpF_ne p _ (Or.inl hx)
    · rename_i q
      refine lpF_ne p b (Or.inr ?_)
      rcases h with h | h
      · exact absurd (Or.inl h) q
      · rcases List.mem_cons.mp h with z | z
        · exact absurd (Or.inr z.symm) q
        · exact z
theorem lpF_lt {e n : Nat} : ∀ p b, b < 2 ^ n → (∀ x ∈ p, x < n) → lpF e p b < 2 ^ n
  | [], b, h, _ => h
  | x :: p, b, h, hp => by
    unfold lpF
    have h2 : 2 ^ x < 2 ^ n := Nat.pow_lt_pow_right (by decide) (hp x List.mem_cons_self)
    refine lpF_lt p _ ?_ (fun y hy => hp y (List.mem_cons_of_mem _ hy))
    split
    · exact Nat.or_lt_two_pow h h2
    · exact h
/-- the loops of an issue, as sets of bits -/
def lpS (nxt : Nat → Nat) (wh : Nat → Bool) (n b : Nat) : Bool := anF (fun l => (road nxt wh l).2.1 == 3 && lpF (road nxt wh l).2.2 (road nxt wh l).1 0 == b) n
theorem lpS_0 {nxt : Nat → Nat} {wh : Nat → Bool} {n : Nat} : lpS nxt wh n 0 = false := by
  refine Bool.eq_false_iff.mpr (fun h => ?_)
  obtain ⟨l, -, q⟩ := anF_t.mp h
  simp only [Bool.and_eq_true, beq_iff_eq] at q
  exact lpF_ne _ 0 (Or.inr (rdW_in nxt wh 6 [l] l q.1)) q.2
theorem lpS_hi {nxt : Nat → Nat} {wh : Nat → Bool} {n b : Nat} (hp : ptOK n nxt) (hb : 2 ^ n ≤ b) : lpS nxt wh n b = false := by
  refine Bool.eq_false_iff.mpr (fun h => ?_)
  obtain ⟨l, hl, q⟩ := anF_t.mp h
  simp only [Bool.and_eq_true, beq_iff_eq] at q
  have := lpF_lt (e := (road nxt wh l).2.2) (n := n) (road nxt wh l).1 0 (Nat.pow_pos (by decide)) (road_ok hp hl).2
  omega
section LPS
variable {d : Nat} {M : aM} {N : aN} {P : aP} {t e nx r ln : Nat} {nxt : Nat → Nat} {wh : Nat → Bool} {th la : Nat → Nat} {Q : aQ}
theorem s36 (hn : 44 ≤ nx) (hr : isR r) {z : List Nat × Nat × Nat} (hk : wkM M r z) (hlen : z.1.length ≤ 7) {k : Nat} (hl : k < z.1.length) : aSem (d + 2) 36 [.ref r, .int (nI k)] M N (P0 t e) nx Q ↔ Q (some (.int (nI (z.1.getD k 0)))) M N (P0 t e) nx := by
  simp only [A36, B36_0, B36_4, B36_12, B36_23, B36_25, false_imp_iff, true_imp_iff, not_false_eq_true, not_true_eq_false, true_and, and_true, implies_true, qn_self, rI_i, rJ_l, rV_n, okZ0, okZ1, oR hn hr, nI_pos (show k < 2 ^ 31 by omega), hk.1, nI_ge hl (show z.1.length < 2 ^ 31 by omega), exP (pR3 hr), s33 (kR4 hr) (show r + 4 < nx by have := lR hr; omega) (by decide) (show k < 7 by omega), hk.2.2.2 k hl]
theorem s36n (hn : 44 ≤ nx) (hr : isR r) {z : List Nat × Nat × Nat} (hk : wkM M r z) (hlen : z.1.length ≤ 7) {x : Int32} (hl : ¬ vl x z.1.length) : aSem (d + 2) 36 [.ref r, .int x] M N (P0 t e) nx Q ↔ Q (some (.int ng2)) M N (P0 t e) nx := by
  by_cases h0 : x < 0
  · simp only [A36, B36_0, B36_23, B36_25, false_imp_iff, true_imp_iff, not_false_eq_true, not_true_eq_false, true_and, and_true, implies_true, qn_self, rI_i, rJ_l, rV_n, okZ0, okZ1, h0]
  · simp only [A36, B36_0, B36_4, B36_23, B36_25, false_imp_iff, true_imp_iff, not_false_eq_true, not_true_eq_false, true_and, and_true, implies_true, qn_self, rI_i, rJ_l, rV_n, okZ0, okZ1, oR hn hr, h0, hk.1, vl_lt0 hl (show z.1.length < 2 ^ 31 by omega) h0]
theorem l38 (hn : 44 ≤ nx) (hr : isR r) {z : List Nat × Nat × Nat} (hk : wkM M r z) (hlen : z.1.length ≤ 7) (hz : ∀ x ∈ z.1, x < 6) (he : z.2.2 < 6) : ∀ q p b, z.1 = p ++ q → b < 64 → (WP (aSem (d + 1)) g0 38 nx (qn nx Q) 4 [(0, .ref r), (1, .int (nI b)), (2, .int (nI p.length))] [] M N (P0 t e) nx ↔ Q (some (.int (nI (lpF z.2.2 q b)))) M N (P0 t e) nx) := by
  intro q
  induction q with
  | nil =>
    intro p b hp hb
    have hl : z.1.length = p.length := by rw [hp, List.append_nil]
    simp only [B38_4, B38_45, false_imp_iff, true_imp_iff, not_false_eq_true, not_true_eq_false, true_and, and_true, implies_true, qn_self, rI_i, rJ_l, rV_n, okZ0, okZ1, oR hn hr, hk.1, nI_le (show z.1.length ≤ p.length by omega) (show p.length < 2 ^ 31 by omega), lpF]
  | cons x q ih =>
    intro p b hp hb
    have hl : z.1.length = p.length + (q.length + 1) := by rw [hp, List.length_append, List.length_cons]
    have hx : x < 6 := hz x (by rw [hp]; simp)
    have hv : M (r + 4) p.length = nI x := by
      rw [hk.2.2.2 p.length (by omega), hp, List.getD_eq_getElem?_getD, List.getElem?_append_right (Nat.le_refl _), Nat.sub_self]
      rfl
    have ih2 := fun b hb => ih (p ++ [x]) b (by rw [hp]; simp) hb
    rw [List.length_append, List.length_singleton] at ih2
    have e0 : (nI b = 0) ↔ b = 0 := by rw [← nI_0]; exact nI_eq (by omega) (by decide)
    simp only [B38_4, false_imp_iff, true_imp_iff, not_false_eq_true, not_true_eq_false, true_and, and_true, implies_true, qn_self, rI_i, rJ_l, rV_n, okZ0, okZ1, oR hn hr, hk.1, nI_ge (show p.length < z.1.length by omega) (show z.1.length < 2 ^ 31 by omega)]
    simp only [B38_12, false_imp_iff, true_imp_iff, not_false_eq_true, not_true_eq_false, true_and, and_true, implies_true, qn_self, rI_i, rJ_l, rV_n, okZ0, okZ1, oR hn hr, exP (pR3 hr), s33 (kR4 hr) (show r + 4 < nx by have := lR hr; omega) (by decide) (show p.length < 7 by omega), hv, e0]
    simp only [B38_25, B38_33, B38_39, false_imp_iff, true_imp_iff, not_false_eq_true, not_true_eq_false, true_and, and_true, implies_true, qn_self, rI_i, rJ_l, rV_n, okZ0, okZ1, oR hn hr, hk.2.2.1, nI_eq (show x < 2 ^ 31 by omega) (show z.2.2 < 2 ^ 31 by omega), or64 x hx b hb, nI_add]
    unfold lpF
    by_cases h1 : b = 0
    · by_cases h2 : x = z.2.2
      · simp only [h1, h2, false_imp_iff, true_imp_iff, not_false_eq_true, not_true_eq_false, true_and, and_true, implies_true, qn_self, rI_i, rJ_l, rV_n, okZ0, okZ1, or_true, if_true]
        have := ih2 (0 ||| 2 ^ x) (or64_lt x hx 0 (by decide))
        rw [h2] at this
        exact this
      · simp only [h1, h2, false_imp_iff, true_imp_iff, not_false_eq_true, not_true_eq_false, true_and, and_true, implies_true, qn_self, rI_i, rJ_l, rV_n, okZ0, okZ1, or_false, if_false]
        exact ih2 0 (by decide)
    · simp only [h1, false_imp_iff, true_imp_iff, not_false_eq_true, not_true_eq_false, true_and, and_true, implies_true, qn_self, rI_i, rJ_l, rV_n, okZ0, okZ1, true_or, if_true]
      exact ih2 _ (or64_lt x hx b hb)
theorem s38 (hn : 44 ≤ nx) (hr : isR r) {z : List Nat × Nat × Nat} (hk : wkM M r z) (hlen : z.1.length ≤ 7) (hz : ∀ x ∈ z.1, x < 6) (he : z.2.2 < 6) : aSem (d + 2) 38 [.ref r] M N (P0 t e) nx Q ↔ Q (some (.int (nI (lpF z.2.2 z.1 0)))) M N (P0 t e) nx := by
  simp only [A38, B38_0]
  exact l38 hn hr hk hlen hz he z.1 [] 0 rfl (by decide)
theorem l37 (hn : 44 ≤ nx) (hr : isR r) (h6 : ln ≤ 6) (hp : ptOK ln nxt) (hQ : ∀ M' v, eqW r M M' → RD M' r ln nxt wh th la → BL v (lpS nxt wh ln) → Q (some (.long v)) M' N (P0 t e) nx) : ∀ n i v M', i + n = ln → eqW r M M' → RD M' r ln nxt wh th la → BL v (lpS nxt wh i) → WP (aSem (d + 2)) g0 37 nx (qn nx Q) 4 [(0, .ref r), (1, .long v), (3, .int (nI i))] [] M' N (P0 t e) nx := by
  intro n
  induction n with
  | zero =>
    intro i v M' hi he hR hv
    simp only [B37_4, B37_40, false_imp_iff, true_imp_iff, not_false_eq_true, not_true_eq_false, true_and, and_true, implies_true, qn_self, rI_i, rJ_l, rV_n, okZ0, okZ1, oR hn hr, hR.1, nI_le (show ln ≤ i by omega) (show i < 2 ^ 31 by omega)]
    rw [show i = ln by omega] at hv
    exact hQ M' v he hR hv
  | succ n ih =>
    intro i v M' hi he hR hv
    simp only [B37_4, false_imp_iff, true_imp_iff, not_false_eq_true, not_true_eq_false, true_and, and_true, implies_true, qn_self, rI_i, rJ_l, rV_n, okZ0, okZ1, oR hn hr, hR.1, nI_ge (show i < ln by omega) (show ln < 2 ^ 31 by omega)]
    simp only [B37_12, false_imp_iff, true_imp_iff, not_false_eq_true, not_true_eq_false, true_and, and_true, implies_true, qn_self, rI_i, rJ_l, rV_n, okZ0, okZ1, oR hn hr]
    refine s35 hn hr hR h6 hp (show i < ln by omega) (fun M2 he2 hR2 hk => ?_)
    have hok := road_ok (wh := wh) hp (show i < ln by omega)
    have hz : ∀ x ∈ (road nxt wh i).1, x < 6 := fun x hx => by have := hok.2 x hx; omega
    have hlt := lpF_lt (e := (road nxt wh i).2.2) (n := 6) (road nxt wh i).1 0 (by decide) hz
    have h9 := road_how (nxt := nxt) (wh := wh) (l := i)
    have hs : ∀ b, lpS nxt wh (i + 1) b = (lpS nxt wh i b || ((road nxt wh i).2.1 == 3 && lpF (road nxt wh i).2.2 (road nxt wh i).1 0 == b)) := fun b => rfl
    simp only [false_imp_iff, true_imp_iff, not_false_eq_true, not_true_eq_false, true_and, and_true, implies_true, qn_self, rI_i, rJ_l, rV_n, okZ0, okZ1, oR hn hr, hk.2.1, nI_eq (show (road nxt wh i).2.1 < 2 ^ 31 by omega) (show 3 < 2 ^ 31 by decide), B37_34, nI_add]
    refine ⟨fun h => ?_, fun h => ?_⟩
    · refine ih (i + 1) v M2 (by omega) (he.tr he2) hR2 (hv.cg (fun j hj => ?_))
      rw [hs j]
      simp [h]
    · simp only [B37_25, false_imp_iff, true_imp_iff, not_false_eq_true, not_true_eq_false, true_and, and_true, implies_true, qn_self, rI_i, rJ_l, rV_n, okZ0, okZ1, oR hn hr, s38 hn hr hk road_len hz (show (road nxt wh i).2.2 < 6 by omega), B37_34, nI_add]
      refine ih (i + 1) _ M2 (by omega) (he.tr he2) hR2 ((hv.or hlt).cg (fun j hj => ?_))
      rw [hs j, h]
      simp only [beq_self_eq_true, Bool.true_and]
      congr 1
      rw [Bool.eq_iff_iff]
      simp only [beq_iff_eq]
      exact eq_comm
theorem s37 (hn : 44 ≤ nx) (hr : isR r) (hR : RD M r ln nxt wh th la) (h6 : ln ≤ 6) (hp : ptOK ln nxt) (hQ : ∀ M' v, eqW r M M' → RD M' r ln nxt wh th la → BL v (lpS nxt wh ln) → Q (some (.long v)) M' N (P0 t e) nx) : aSem (d + 3) 37 [.ref r] M N (P0 t e) nx Q := by
  simp only [A37, B37_0]
  exact l37 hn hr h6 hp hQ ln 0 _ M (by omega) eqW.rf hR BL.z
theorem l104 {v : Int64} {f : Nat → Bool} (h : BL v f) {x : Int32} : ∀ n i c, i + n = 64 → (WP (aSem d) g0 104 nx (qn nx Q) 5 [(0, .long v), (2, .int x), (3, .int (nI c)), (4, .int (nI i))] [] M N P nx ↔ Q (some (.int (oN (nthX f x n c i)))) M N P nx) := by
  intro n
  induction n with
  | zero =>
    intro i c hi
    simp only [B104_5, B104_40, false_imp_iff, true_imp_iff, not_false_eq_true, not_true_eq_false, true_and, and_true, implies_true, qn_self, rI_i, rJ_l, rV_n, okZ0, okZ1, nI_le (show 64 ≤ i by omega) (show i < 2 ^ 31 by omega), nthX, oN]
  | succ n ih =>
    intro i c hi
    simp only [B104_5, false_imp_iff, true_imp_iff, not_false_eq_true, not_true_eq_false, true_and, and_true, implies_true, qn_self, rI_i, rJ_l, rV_n, okZ0, okZ1, nI_ge (show i < 64 by omega) (show 64 < 2 ^ 31 by decide)]
    simp only [B104_12, B104_23, B104_28, B104_31, B104_34, false_imp_iff, true_imp_iff, not_false_eq_true, not_true_eq_false, true_and, and_true, implies_true, qn_self, rI_i, rJ_l, rV_n, okZ0, okZ1, lg_cmp_eq, h.bit (show i < 64 by omega), nI_add, ih (i + 1) _ (by omega)]
    rw [nthX_s]
    by_cases h1 : f i = true
    · by_cases h2 : nI c = x
      · simp only [h1, h2, false_imp_iff, true_imp_iff, not_false_eq_true, not_true_eq_false, true_and, and_true, implies_true, qn_self, rI_i, rJ_l, rV_n, okZ0, okZ1, if_true, oN]
      · simp only [h1, h2, false_imp_iff, true_imp_iff, not_false_eq_true, not_true_eq_false, true_and, and_true, implies_true, qn_self, rI_i, rJ_l, rV_n, okZ0, okZ1, if_true, if_false]
    · simp only [h1, false_imp_iff, true_imp_iff, not_false_eq_true, not_true_eq_false, true_and, and_true, implies_true, qn_self, rI_i, rJ_l, rV_n, okZ0, okZ1, Bool.false_eq_true, if_false]
theorem s104 {v : Int64} {f : Nat → Bool} (h : BL v f) {x : Int32} : aSem (d + 1) 104 [.long v, .int x] M N P nx Q ↔ Q (some (.int (oN (nthX f x 64 0 0)))) M N P nx := by
  simp only [A104, B104_0]
  exact l104 h 64 0 0 rfl
theorem s218 {b : Nat} (hb : b < 64) : aSem (d + 1) 218 [.int (nI b)] M N P nx Q ↔ Q (some (.int (nI (popN b)))) M N P nx := by
  simp only [A218, B218_0, false_imp_iff, true_imp_iff, not_false_eq_true, not_true_eq_false, true_and, and_true, implies_true, qn_self, rI_i, rJ_l, rV_n, okZ0, okZ1]
  refine iff_of_eq (congrArg (fun y => Q (some (.int y)) M N P nx) ?_)
  revert b
  decide +kernel
theorem s219 {v : Int64} {f : Nat → Bool} (h : BL v f) : aSem (d + 1) 219 [.long v] M N P nx Q ↔ Q (some (.int (nI (cntF f 0 64)))) M N P nx := by
  simp only [A219, B219_0, false_imp_iff, true_imp_iff, not_false_eq_true, not_true_eq_false, true_and, and_true, implies_true, qn_self, rI_i, rJ_l, rV_n, okZ0, okZ1]
  refine iff_of_eq (congrArg (fun y => Q (some (.int y)) M N P nx) ?_)
  have k := i127 (w6 v (lN 6148914691236517205) (lN 3689348814741910323) (lN 1085102592571150095) ((nI 1).toInt64.toUInt64 &&& Int64.toUInt64 63) ((nI 2).toInt64.toUInt64 &&& Int64.toUInt64 63) ((nI 4).toInt64.toUInt64 &&& Int64.toUInt64 63) ((nI 8).toInt64.toUInt64 &&& Int64.toUInt64 63) ((nI 16).toInt64.toUInt64 &&& Int64.toUInt64 63) ((nI 32).toInt64.toUInt64 &&& Int64.toUInt64 63))
  rw [w6_ok (by decide +kernel) (by decide +kernel) (by decide +kernel) (by decide +kernel) (by decide +kernel) (by decide +kernel) (by decide +kernel) (by decide +kernel) (by decide +kernel), bcL h] at k
  exact k
end LPS
