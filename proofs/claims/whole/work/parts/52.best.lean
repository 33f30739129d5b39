/-! DEEDS: the best change of a fact -/
/-- all under n -/
def alF (p : Nat → Bool) : Nat → Bool
  | 0 => true
  | n + 1 => alF p n && p n
theorem alF_t {p : Nat → Bool} : ∀ {n}, alF p n = true ↔ ∀ l, l < n → p l = true
  | 0 => by simp [alF]
  | n + 1 => by
    show (alF p n && p n) = true ↔ _
    rw [Bool.and_eq_true, alF_t]
    constructor
    · rintro ⟨h, q⟩ l hl
      by_cases e : l = n
      · subst e; exact q
      · exact h l (by omega)
    · intro h
      exact ⟨fun l hl => h l (by omega), h n (by omega)⟩
def stB (row : Nat → Nat) (need is l : Nat) : Bool := alF (fun i => !(need / 2 ^ i % 2 == 1) || !(ownAns row i l == 0)) is
theorem stB_t {row : Nat → Nat} {need is l : Nat} : stB row need is l = true ↔ stD row need is l := by
  unfold stB stD
  rw [alF_t]
  constructor
  · intro h i hi hq
    have := h i hi
    simp only [hq, beq_self_eq_true, Bool.not_true, Bool.false_or] at this
    simpa using this
  · intro h i hi
    by_cases hq : need / 2 ^ i % 2 = 1
    · have := h i hi hq
      simp only [hq, beq_self_eq_true, Bool.not_true, Bool.false_or]
      simpa using this
    · simp [hq]
/-- where a deed stands, as bits -/
def whB (row : Nat → Nat) (need is ln : Nat) : Nat := bitF (fun l => stB row need is l) 0 ln
theorem whB_BS {row : Nat → Nat} {need is ln : Nat} (h : ln ≤ 6) : BS (whB row need is ln) (fun l => l < ln ∧ stD row need is l) := (BS_bitF h).cg (fun j _ => by rw [stB_t])
theorem whB_eq {row : Nat → Nat} {need is ln b : Nat} (h : ln ≤ 6) (hb : BS b (fun l => l < ln ∧ stD row need is l)) : b = whB row need is ln := BS.inj hb (whB_BS h)
def bsU (f l c : Nat) : Option (Nat × Nat × Nat) → Option (Nat × Nat × Nat)
  | none => some (f, l, c)
  | some (a, b, m) => if c ≤ m then some (a, b, m) else some (f, l, c)
def bsI (g : Nat → Nat) (f own : Nat) : Nat → Nat → Option (Nat × Nat × Nat) → Option (Nat × Nat × Nat)
  | 0, _, z => z
  | n + 1, l, z => bsI g f own n (l + 1) (if l = own then z else bsU f l (g l) z)
def bsO (G : Nat → Nat → Nat) (own : Nat → Nat) (ln : Nat) : Nat → Nat → Option (Nat × Nat × Nat) → Option (Nat × Nat × Nat)
  | 0, _, z => z
  | n + 1, f, z => bsO G own ln n (f + 1) (bsI (G f) f (own f) ln 0 z)
def bsG (row : Nat → Nat) (need is ln : Nat) (f l : Nat) : Nat := popN (whB (va_up row (6 + f) l) need is ln)
def bsM (row : Nat → Nat) (need is ln fc : Nat) : Option (Nat × Nat × Nat) := bsO (bsG row need is ln) (fun f => row (6 + f)) ln fc 0 none
def z1 (z : Option (Nat × Nat × Nat)) : Int32 := match z with | none => ng1 | some (a, _, _) => nI a
def z2 (z : Option (Nat × Nat × Nat)) : Int32 := match z with | none => ng1 | some (_, b, _) => nI b
def z3 (z : Option (Nat × Nat × Nat)) : Int32 := match z with | none => ng1 | some (_, _, m) => nI m
def zOK (z : Option (Nat × Nat × Nat)) : Prop := match z with | none => True | some (_, _, m) => m < 64
theorem popN_lt (b : Nat) : popN b < 64 := by have := cntF_le (fun i => b.testBit i) 6 0; unfold popN; omega
theorem zOK_U {f l c : Nat} {z : Option (Nat × Nat × Nat)} (hz : zOK z) (hc : c < 64) : zOK (bsU f l c z) := by
  match z, hz with
  | none, _ => exact hc
  | some (a, b, m), hz =>
    show zOK (if c ≤ m then some (a, b, m) else some (f, l, c))
    by_cases q : c ≤ m
    · rw [if_pos q]; exact hz
    · rw [if_neg q]; exact hc
theorem ng1_le {m : Nat} (h : m < 2 ^ 31) : ng1 ≤ nI m := by rw [Int32.le_iff_toInt_le, ng1_i, nI_toInt h]; omega
theorem le_ng1 {m : Nat} (h : m < 2 ^ 31) : ¬ nI m ≤ ng1 := by rw [Int32.le_iff_toInt_le, ng1_i, nI_toInt h]; omega
section BES
variable {d : Nat} {M : aM} {N : aN} {t e nx o ln is fc dn : Nat} {row nd : Nat → Nat} {Q : aQ}
theorem e89 {k f l own c : Nat} {v : Int32} {z : Option (Nat × Nat × Nat)} (hz : zOK z) (hc : c < 64) (h : WP (aSem (d + 6)) g0 3 nx (qn nx Q) 110 [(0, .ref 16), (2, .int (nI k)), (3, .int v), (4, .int (z1 (bsU f l c z))), (5, .int (z2 (bsU f l c z))), (6, .int (z3 (bsU f l c z))), (7, .int (nI f)), (8, .int (nI own)), (9, .int (nI l))] [] M N (P0 t e) nx) : WP (aSem (d + 6)) g0 3 nx (qn nx Q) 89 [(0, .ref 16), (2, .int (nI k)), (3, .int v), (4, .int (z1 z)), (5, .int (z2 z)), (6, .int (z3 z)), (7, .int (nI f)), (8, .int (nI own)), (9, .int (nI l))] [.int (nI c)] M N (P0 t e) nx := by
  match z, hz with
  | none, _ =>
    rw [B3_89]
    refine ⟨fun q => absurd q (le_ng1 (by omega)), fun _ => ?_⟩
    rw [B3_98]
    exact h
  | some (a, b, m), hz =>
    have hm : m < 64 := hz
    rw [B3_89]
    have hu : bsU f l c (some (a, b, m)) = if c ≤ m then some (a, b, m) else some (f, l, c) := rfl
    rw [hu] at h
    refine ⟨fun q => ?_, fun q => ?_⟩
    · have q2 : c ≤ m := (nI_leI (by omega) (by omega)).mp q
      rw [if_pos q2] at h
      exact h
    · have q2 : ¬ c ≤ m := fun q3 => q ((nI_leI (by omega) (by omega)).mpr q3)
      rw [if_neg q2] at h
      rw [B3_98]
      exact h
theorem e89n {k f l own : Nat} {v : Int32} {z : Option (Nat × Nat × Nat)} (hz : zOK z) (h : WP (aSem (d + 6)) g0 3 nx (qn nx Q) 110 [(0, .ref 16), (2, .int (nI k)), (3, .int v), (4, .int (z1 z)), (5, .int (z2 z)), (6, .int (z3 z)), (7, .int (nI f)), (8, .int (nI own)), (9, .int (nI l))] [] M N (P0 t e) nx) : WP (aSem (d + 6)) g0 3 nx (qn nx Q) 89 [(0, .ref 16), (2, .int (nI k)), (3, .int v), (4, .int (z1 z)), (5, .int (z2 z)), (6, .int (z3 z)), (7, .int (nI f)), (8, .int (nI own)), (9, .int (nI l))] [.int ng1] M N (P0 t e) nx := by
  rw [B3_89]
  refine ⟨fun _ => h, fun q => absurd ?_ q⟩
  match z, hz with
  | none, _ => exact Int32.le_refl _
  | some (a, b, m), hz => exact ng1_le (by have : m < 64 := hz; omega)
theorem l3b (hn : 44 ≤ nx) (hc : wfC ln is fc dn) (hw : wfR ln is fc row) {k f : Nat} {v : Int32} (hk : k < dn) (h64 : nd k < 64) (hf : f < fc) {y : Option (Nat × Nat × Nat)} (hQ : ∀ M', eqD M M' → TD M' 22 ln is fc dn row nd → zOK y → WP (aSem (d + 6)) g0 3 nx (qn nx Q) 17 [(0, .ref 16), (2, .int (nI k)), (3, .int v), (4, .int (z1 y)), (5, .int (z2 y)), (6, .int (z3 y)), (7, .int (nI (f + 1)))] [] M' N (P0 t e) nx) : ∀ n l x z M', l + n = ln → x < ln → eqD M M' → TD M' 22 ln is fc dn (va_up row (6 + f) x) nd → zOK z → bsI (bsG row (nd k) is ln f) f (row (6 + f)) n l z = y → WP (aSem (d + 6)) g0 3 nx (qn nx Q) 43 [(0, .ref 16), (2, .int (nI k)), (3, .int v), (4, .int (z1 z)), (5, .int (z2 z)), (6, .int (z3 z)), (7, .int (nI f)), (8, .int (nI (row (6 + f)))), (9, .int (nI l))] [] M' N (P0 t e) nx := by
  have c6 := hc
  unfold wfC at c6
  have ho := hw.2.1 f hf
  intro n
  induction n with
  | zero =>
    intro l x z M' hl hx he hT hz hy
    simp only [B3_43, false_imp_iff, true_imp_iff, not_false_eq_true, not_true_eq_false, true_and, and_true, implies_true, qn_self, rI_i, rJ_l, rV_n, okZ0, okZ1, o16 hn, o22 hn, exP (show P0 t e 16 1 = some 22 from rfl), hT.1, nI_le (show ln ≤ l by omega) (show l < 2 ^ 31 by omega)]
    simp only [B3_116, false_imp_iff, true_imp_iff, not_false_eq_true, not_true_eq_false, true_and, and_true, implies_true, qn_self, rI_i, rJ_l, rV_n, okZ0, okZ1, o16 hn, o22 hn, exP (show P0 t e 16 1 = some 22 from rfl), s72 hn i22 hT hc hf, nI_add]
    have hT2 := hT.tri (by omega) (row (6 + f))
    rw [up_id] at hT2
    have hy2 : z = y := hy
    rw [hy2] at hz ⊢
    exact hQ _ (he.tr uM_D) hT2 hz
  | succ n ih =>
    intro l x z M' hl hx he hT hz hy
    have hT2 := hT.tri (show f < 5 by omega) l
    have hw2 := hw.fa c6.2.2.1 hf (show l < ln by omega)
    have hy2 : bsI (bsG row (nd k) is ln f) f (row (6 + f)) n (l + 1) (if l = row (6 + f) then z else bsU f l (bsG row (nd k) is ln f l) z) = y := hy
    simp only [B3_43, false_imp_iff, true_imp_iff, not_false_eq_true, not_true_eq_false, true_and, and_true, implies_true, qn_self, rI_i, rJ_l, rV_n, okZ0, okZ1, o16 hn, o22 hn, exP (show P0 t e 16 1 = some 22 from rfl), hT.1, nI_ge (show l < ln by omega) (show ln < 2 ^ 31 by omega)]
    simp only [B3_55, false_imp_iff, true_imp_iff, not_false_eq_true, not_true_eq_false, true_and, and_true, implies_true, qn_self, rI_i, rJ_l, rV_n, okZ0, okZ1, o16 hn, o22 hn, exP (show P0 t e 16 1 = some 22 from rfl), s72 hn i22 hT hc hf, nI_eq (show l < 2 ^ 31 by omega) (show row (6 + f) < 2 ^ 31 by omega)]
    refine ⟨fun h => ?_, fun h => ?_⟩
    · rw [if_neg h] at hy2
      simp only [B3_77, false_imp_iff, true_imp_iff, not_false_eq_true, not_true_eq_false, true_and, and_true, implies_true, qn_self, rI_i, rJ_l, rV_n, okZ0, okZ1, o16 hn, exP (show P0 t e 16 1 = some 22 from rfl)]
      refine s1 hn i22 hT2 hc hw2 hk h64 (fun M3 b he3 hT3 hb => ?_)
      rw [whB_eq c6.1 hb]
      simp only [false_imp_iff, true_imp_iff, not_false_eq_true, not_true_eq_false, true_and, and_true, implies_true, qn_self, rI_i, rJ_l, rV_n, okZ0, okZ1, s218 (whB_BS (row := va_up row (6 + f) l) (need := nd k) (is := is) c6.1).1]
      refine e89 hz (popN_lt _) ?_
      simp only [B3_110, nI_add]
      exact ih (l + 1) l _ M3 (by omega) (by omega) (he.tr (uM_D.tr he3.D)) hT3 (zOK_U hz (popN_lt _)) hy2
    · rw [if_pos h] at hy2
      simp only [B3_73]
      refine e89n hz ?_
      simp only [B3_110, nI_add]
      exact ih (l + 1) l _ _ (by omega) (by omega) (he.tr uM_D) hT2 hz hy2
theorem l3 (hn : 44 ≤ nx) (hc : wfC ln is fc dn) (hw : wfR ln is fc row) {k : Nat} {v : Int32} (hk : k < dn) (h64 : nd k < 64) {y : Option (Nat × Nat × Nat)} (hQ : ∀ M', eqD M M' → Q (some (.int (if v = nI 0 then z1 y else if v = nI 1 then z2 y else if v = nI 2 then z3 y else ng1))) M' N (P0 t e) nx) : ∀ n f z M', f + n = fc → eqD M M' → TD M' 22 ln is fc dn row nd → zOK z → bsO (bsG row (nd k) is ln) (fun f => row (6 + f)) ln n f z = y → WP (aSem (d + 6)) g0 3 nx (qn nx Q) 17 [(0, .ref 16), (2, .int (nI k)), (3, .int v), (4, .int (z1 z)), (5, .int (z2 z)), (6, .int (z3 z)), (7, .int (nI f))] [] M' N (P0 t e) nx := by
  have c6 := hc
  unfold wfC at c6
  intro n
  induction n with
  | zero =>
    intro f z M' hf he hT hz hy
    have hy2 : z = y := hy
    simp only [B3_17, false_imp_iff, true_imp_iff, not_false_eq_true, not_true_eq_false, true_and, and_true, implies_true, qn_self, rI_i, rJ_l, rV_n, okZ0, okZ1, o16 hn, o22 hn, exP (show P0 t e 16 1 = some 22 from rfl), hT.2.2.1, nI_le (show fc ≤ f by omega) (show f < 2 ^ 31 by omega)]
    simp only [B3_133, B3_160, B3_163, B3_166, B3_169, false_imp_iff, true_imp_iff, not_false_eq_true, not_true_eq_false, true_and, and_true, implies_true, qn_self, rI_i, rJ_l, rV_n, okZ0, okZ1]
    have := hQ M' he
    rw [← hy2] at this
    refine ⟨fun h => ?_, fun h => ⟨fun h1 => ?_, fun h1 => ⟨fun h2 => ?_, fun h2 => ?_⟩⟩⟩
    · rw [if_pos h] at this; exact this
    · rw [if_neg h, if_pos h1] at this; exact this
    · rw [if_neg h, if_neg h1, if_pos h2] at this; exact this
    · rw [if_neg h, if_neg h1, if_neg h2] at this; exact this
  | succ n ih =>
    intro f z M' hf he hT hz hy
    have hf2 : f < fc := by omega
    have ho := hw.2.1 f hf2
    have hy2 : bsO (bsG row (nd k) is ln) (fun f => row (6 + f)) ln n (f + 1) (bsI (bsG row (nd k) is ln f) f (row (6 + f)) ln 0 z) = y := hy
    simp only [B3_17, false_imp_iff, true_imp_iff, not_false_eq_true, not_true_eq_false, true_and, and_true, implies_true, qn_self, rI_i, rJ_l, rV_n, okZ0, okZ1, o16 hn, o22 hn, exP (show P0 t e 16 1 = some 22 from rfl), hT.2.2.1, nI_ge hf2 (show fc < 2 ^ 31 by omega)]
    simp only [B3_29, false_imp_iff, true_imp_iff, not_false_eq_true, not_true_eq_false, true_and, and_true, implies_true, qn_self, rI_i, rJ_l, rV_n, okZ0, okZ1, o16 hn, o22 hn, exP (show P0 t e 16 1 = some 22 from rfl), s71 hn i22 hT hc hf2]
    have hT2 : TD M' 22 ln is fc dn (va_up row (6 + f) (row (6 + f))) nd := by rw [up_id]; exact hT
    exact l3b hn hc hw hk h64 hf2 (M := M') (fun M2 he2 hT3 hz3 => ih (f + 1) _ M2 (by omega) (he.tr he2) hT3 hz3 hy2) ln 0 (row (6 + f)) z M' (by omega) ho eqD.rf hT2 hz rfl
theorem s3 (hn : 44 ≤ nx) (ho : isT o) (h22 : o ≠ 22) (hT : TD M o ln is fc dn row nd) (hc : wfC ln is fc dn) (hw : wfR ln is fc row) {k : Nat} {v : Int32} (hk : k < dn) (h64 : nd k < 64) (hQ : ∀ M', eqD M M' → Q (some (.int (if v = nI 0 then z1 (bsM row (nd k) is ln fc) else if v = nI 1 then z2 (bsM row (nd k) is ln fc) else if v = nI 2 then z3 (bsM row (nd k) is ln fc) else ng1))) M' N (P0 t e) nx) : aSem (d + 7) 3 [.ref 16, .ref o, .int (nI k), .int v] M N (P0 t e) nx Q := by
  simp only [A3, B3_0, false_imp_iff, true_imp_iff, not_false_eq_true, not_true_eq_false, true_and, and_true, implies_true, qn_self, rI_i, rJ_l, rV_n, okZ0, okZ1, o16 hn]
  refine s4 hn ho h22 hT hc (fun M1 he hT1 => ?_)
  simp only [false_imp_iff, true_imp_iff, not_false_eq_true, not_true_eq_false, true_and, and_true, implies_true, qn_self, rI_i, rJ_l, rV_n, okZ0, okZ1]
  exact l3 hn hc hw hk h64 hQ fc 0 none M1 (by omega) he hT1 trivial rfl
end BES
