/-! THE REFERENCE: best, fewest -/
theorem eqM.st {M M' : aM} {k : Nat} {v w : Int32} (h : eqM (uM M 36 k v) M') : eqM (uM M 36 k w) (uM M' 36 k w) := ⟨fun a x y => by
    by_cases q : a = 36
    · subst q
      rw [uM_eq, uM_eq, h.1 36 x y, uM_eq, up_up]
    · rw [uM_ne q, uM_ne q, h.1 a x y, uM_ne q], fun j x y z w => by rw [uM_a (by decide), uM_a (by decide), h.2 j x y z w, uM_a (by decide)]⟩
theorem eqM.i36 {M : aM} {k : Nat} : uM M 36 k (M 36 k) = M := by
  funext a
  by_cases q : a = 36
  · subst q; rw [uM_eq, up_id]
  · rw [uM_ne q]
theorem MT.st {M : aM} {ln is fc dn f l : Nat} {row nd : Nat → Nat} (h : MT M ln is fc dn row nd) (hf : f < fc) (hl : l < ln) : MT (uM M 36 (6 + f) (nI l)) ln is fc dn (va_up row (6 + f) l) nd := by
  obtain ⟨h1, h2, h3, h4, h5, h6, h7, h8, h9⟩ := h
  have c6 := h7
  unfold wfC at c6
  refine ⟨?_, ?_, ?_, ?_, ?_, ?_, h7, h8.fa c6.2.2.1 hf hl, h9⟩
  · rw [uM_a (by decide)]; exact h1
  · rw [uM_a (by decide)]; exact h2
  · rw [uM_a (by decide)]; exact h3
  · rw [uM_a (by decide)]; exact h4
  · intro k hk
    by_cases q : k = 6 + f
    · subst q; rw [uM_k, up_eq]
    · rw [uM_j q, up_ne q]; exact h5 k hk
  · intro k hk
    rw [uM_a (by decide)]; exact h6 k hk
def y1 (z : Option (Nat × Nat × Nat)) : Int32 := match z with | none => nI 0 | some (a, _, _) => nI a
def y2 (z : Option (Nat × Nat × Nat)) : Int32 := match z with | none => nI 0 | some (_, b, _) => nI b
def beV (z : Option (Nat × Nat × Nat)) (v : Int32) : Int32 := if v = nI 0 then z1 z else if v = nI 1 then z2 z else if v = nI 2 then z3 z else ng1
theorem bsU_n {f l c : Nat} {z : Option (Nat × Nat × Nat)} : bsU f l c z ≠ none := by
  match z with
  | none => exact fun q => nomatch q
  | some (a, b, m) =>
    show (if c ≤ m then some (a, b, m) else some (f, l, c)) ≠ none
    split <;> exact fun q => nomatch q
theorem bsI_n {g : Nat → Nat} {f own : Nat} : ∀ n l z, z ≠ none → bsI g f own n l z ≠ none
  | 0, l, z, h => h
  | n + 1, l, z, h => by
    unfold bsI
    refine bsI_n n (l + 1) _ ?_
    split
    · exact h
    · exact bsU_n
theorem bsO_n {G : Nat → Nat → Nat} {own : Nat → Nat} {ln : Nat} : ∀ n f z, z ≠ none → bsO G own ln n f z ≠ none
  | 0, f, z, h => h
  | n + 1, f, z, h => by
    unfold bsO
    exact bsO_n n (f + 1) _ (bsI_n ln 0 z h)
theorem bsO_s {G : Nat → Nat → Nat} {own : Nat → Nat} {ln n f : Nat} {z : Option (Nat × Nat × Nat)} (h2 : 2 ≤ ln) (hn : 0 < n) : bsO G own ln n f z ≠ none := by
  obtain ⟨m, rfl⟩ : ∃ m, ln = m + 2 := ⟨ln - 2, by omega⟩
  obtain ⟨n, rfl⟩ : ∃ k, n = k + 1 := ⟨n - 1, by omega⟩
  unfold bsO
  refine bsO_n n (f + 1) _ ?_
  unfold bsI
  by_cases q : 0 = own f
  · rw [if_pos q]
    unfold bsI
    refine bsI_n m _ _ ?_
    rw [if_neg (by omega)]
    exact bsU_n
  · rw [if_neg q]
    exact bsI_n (m + 1) _ _ bsU_n
theorem bsO_z {G : Nat → Nat → Nat} {own : Nat → Nat} {ln : Nat} (h : ln ≤ 1) : ∀ n f, (∀ j, f ≤ j → j < f + n → own j < ln) → bsO G own ln n f none = none
  | 0, f, _ => rfl
  | n + 1, f, ho => by
    have h1 := ho f (Nat.le_refl _) (by omega)
    have e : ln = 1 := by omega
    subst e
    unfold bsO
    have e2 : bsI (G f) f (own f) 1 0 none = none := by
      show (if 0 = own f then none else bsU f 0 (G f 0) none) = none
      rw [if_pos (by omega)]
    rw [e2]
    exact bsO_z h n (f + 1) (fun j a b => ho j (by omega) (by omega))
section MBE
variable {d : Nat} {M : aM} {N : aN} {P : aP} {t e nx ln is fc dn : Nat} {row nd : Nat → Nat} {Q : aQ}
theorem e197 {k f l own c : Nat} {w : Int32} {z : Option (Nat × Nat × Nat)} (hz : zOK z) (hc : c < 64) (h : WP (aSem d) g0 197 nx (qn nx Q) 147 [(0, .ref 31), (1, .int (nI k)), (2, .int w), (3, .int (y1 (bsU f l c z))), (4, .int (y2 (bsU f l c z))), (5, .int (z3 (bsU f l c z))), (6, .int (nI f)), (7, .int (nI own)), (8, .int (nI l))] [] M N P nx) : (z3 z < nI c → WP (aSem d) g0 197 nx (qn nx Q) 136 [(9, .int (nI c)), (0, .ref 31), (1, .int (nI k)), (2, .int w), (3, .int (y1 z)), (4, .int (y2 z)), (5, .int (z3 z)), (6, .int (nI f)), (7, .int (nI own)), (8, .int (nI l))] [] M N P nx) ∧ (¬ z3 z < nI c → WP (aSem d) g0 197 nx (qn nx Q) 133 [(9, .int (nI c)), (0, .ref 31), (1, .int (nI k)), (2, .int w), (3, .int (y1 z)), (4, .int (y2 z)), (5, .int (z3 z)), (6, .int (nI f)), (7, .int (nI own)), (8, .int (nI l))] [] M N P nx) := by
  match z, hz with
  | none, _ =>
    refine ⟨fun _ => ?_, fun q => absurd ?_ q⟩
    · rw [B197_136]; exact h
    · show ng1 < nI c
      rw [Int32.lt_iff_toInt_lt, ng1_i, nI_toInt (by omega)]; omega
  | some (a, b, m), hz =>
    have hm : m < 64 := hz
    have hu : bsU f l c (some (a, b, m)) = if c ≤ m then some (a, b, m) else some (f, l, c) := rfl
    rw [hu] at h
    have e1 : z3 (some (a, b, m)) = nI m := rfl
    rw [e1, ltN (show m < 2 ^ 31 by omega) (show c < 2 ^ 31 by omega)]
    refine ⟨fun q => ?_, fun q => ?_⟩
    · rw [if_neg (by omega)] at h
      rw [B197_136]; exact h
    · rw [if_pos (by omega)] at h
      rw [B197_133]; exact h
theorem l197 (hn : 44 ≤ nx) (h : MT M ln is fc dn row nd) {k f : Nat} {w : Int32} (hk : k < dn) (hf : f < fc) {y : Option (Nat × Nat × Nat)} (hK : ∀ M', eqM M M' → zOK y → WP (aSem (d + 9)) g0 197 nx (qn nx Q) 57 [(0, .ref 31), (1, .int (nI k)), (2, .int w), (3, .int (y1 y)), (4, .int (y2 y)), (5, .int (z3 y)), (6, .int (nI (f + 1)))] [] M' N (P0 t e) nx) : ∀ n l x z M', l + n = ln → x < ln → eqM (uM M 36 (6 + f) (nI x)) M' → zOK z → bsI (bsG row (nd k) is ln f) f (row (6 + f)) n l z = y → WP (aSem (d + 9)) g0 197 nx (qn nx Q) 83 [(0, .ref 31), (1, .int (nI k)), (2, .int w), (3, .int (y1 z)), (4, .int (y2 z)), (5, .int (z3 z)), (6, .int (nI f)), (7, .int (nI (row (6 + f)))), (8, .int (nI l))] [] M' N (P0 t e) nx := by
  have c6 := h.2.2.2.2.2.2.1
  unfold wfC at c6
  have ho := h.2.2.2.2.2.2.2.1.2.1 f hf
  intro n
  induction n with
  | zero =>
    intro l x z M' hl hx he hz hy
    have hy2 : z = y := hy
    have hm := (h.st hf hx).m he
    simp only [B197_83, false_imp_iff, true_imp_iff, not_false_eq_true, not_true_eq_false, true_and, and_true, implies_true, qn_self, rI_i, rJ_l, rV_n, okZ0, okZ1, o31 hn, exP (show P0 t e 31 13 = some 33 from rfl), x33 hn (show 0 < 8 by decide), hm.1, nI_le (show ln ≤ l by omega) (show l < 2 ^ 31 by omega)]
    simp only [B197_153, false_imp_iff, true_imp_iff, not_false_eq_true, not_true_eq_false, true_and, and_true, implies_true, qn_self, rI_i, rJ_l, rV_n, okZ0, okZ1, o31 hn, exP (show P0 t e 31 16 = some 36 from rfl), nI_add, x36 hn (show 6 + f < 89 by omega)]
    rw [hy2] at hz ⊢
    refine hK _ ?_ hz
    have he2 := he.st (w := nI (row (6 + f)))
    rw [← h.2.2.2.2.1 (6 + f) (by omega), eqM.i36] at he2
    rw [← h.2.2.2.2.1 (6 + f) (by omega)]
    exact he2
  | succ n ih =>
    intro l x z M' hl hx he hz hy
    have hy2 : bsI (bsG row (nd k) is ln f) f (row (6 + f)) n (l + 1) (if l = row (6 + f) then z else bsU f l (bsG row (nd k) is ln f l) z) = y := hy
    have hm := (h.st hf hx).m he
    simp only [B197_83, false_imp_iff, true_imp_iff, not_false_eq_true, not_true_eq_false, true_and, and_true, implies_true, qn_self, rI_i, rJ_l, rV_n, okZ0, okZ1, o31 hn, exP (show P0 t e 31 13 = some 33 from rfl), x33 hn (show 0 < 8 by decide), hm.1, nI_ge (show l < ln by omega) (show ln < 2 ^ 31 by omega)]
    simp only [B197_94, false_imp_iff, true_imp_iff, not_false_eq_true, not_true_eq_false, true_and, and_true, implies_true, qn_self, rI_i, rJ_l, rV_n, okZ0, okZ1, nI_eq (show l < 2 ^ 31 by omega) (show row (6 + f) < 2 ^ 31 by omega)]
    refine ⟨fun q => ?_, fun q => ?_⟩
    · rw [if_neg q] at hy2
      simp only [B197_104, false_imp_iff, true_imp_iff, not_false_eq_true, not_true_eq_false, true_and, and_true, implies_true, qn_self, rI_i, rJ_l, rV_n, okZ0, okZ1, o31 hn, exP (show P0 t e 31 16 = some 36 from rfl), nI_add, x36 hn (show 6 + f < 89 by omega)]
      have he2 := he.st (w := nI l)
      have hm2 := (h.st hf (show l < ln by omega)).m he2
      refine s191 hn hm2 hk (fun M3 he3 => ?_)
      simp only [false_imp_iff, true_imp_iff, not_false_eq_true, not_true_eq_false, true_and, and_true, implies_true, qn_self, rI_i, rJ_l, rV_n, okZ0, okZ1, s193 (whB_BS (row := va_up row (6 + f) l) (need := nd k) (is := is) c6.1).1]
      refine e197 hz (popN_lt _) ?_
      simp only [B197_147, nI_add]
      exact ih (l + 1) l _ M3 (by omega) (by omega) (he2.tr he3) (zOK_U hz (popN_lt _)) hy2
    · rw [if_pos q] at hy2
      simp only [B197_101, B197_147, nI_add]
      exact ih (l + 1) x _ M' (by omega) hx he hz hy2
theorem m197 (hn : 44 ≤ nx) (h : MT M ln is fc dn row nd) {k : Nat} {w : Int32} (hk : k < dn) {y : Option (Nat × Nat × Nat)} (hy0 : y ≠ none) (hw : vl w 3) (hQ : ∀ M', eqM M M' → Q (some (.int (beV y w))) M' N (P0 t e) nx) : ∀ n f z M', f + n = fc → eqM M M' → zOK z → bsO (bsG row (nd k) is ln) (fun f => row (6 + f)) ln n f z = y → WP (aSem (d + 9)) g0 197 nx (qn nx Q) 57 [(0, .ref 31), (1, .int (nI k)), (2, .int w), (3, .int (y1 z)), (4, .int (y2 z)), (5, .int (z3 z)), (6, .int (nI f))] [] M' N (P0 t e) nx := by
  have c6 := h.2.2.2.2.2.2.1
  unfold wfC at c6
  intro n
  induction n with
  | zero =>
    intro f z M' hf he hz hy
    have hy2 : z = y := hy
    simp only [B197_57, false_imp_iff, true_imp_iff, not_false_eq_true, not_true_eq_false, true_and, and_true, implies_true, qn_self, rI_i, rJ_l, rV_n, okZ0, okZ1, o31 hn, exP (show P0 t e 31 13 = some 33 from rfl), x33 hn (show 2 < 8 by decide), (h.m he).2.2.1, nI_le (show fc ≤ f by omega) (show f < 2 ^ 31 by omega)]
    simp only [B197_171, B197_175, B197_179, B197_184, B197_189, B197_191, false_imp_iff, true_imp_iff, not_false_eq_true, not_true_eq_false, true_and, and_true, implies_true, qn_self, rI_i, rJ_l, rV_n, okZ0, okZ1, e0I (x := w)]
    have hq := hQ M' he
    unfold beV at hq
    subst hy2
    obtain ⟨j, hj, rfl⟩ := vl_of hw
    match z, hy0 with
    | some (a, b, m), _ =>
      refine ⟨fun q => ⟨fun q1 => ?_, fun q1 => ?_⟩, fun q => ?_⟩
      · have q2 : nI j = nI 2 := by
          rcases (show j = 0 ∨ j = 1 ∨ j = 2 by omega) with rfl | rfl | rfl
          · exact absurd rfl q
          · exact absurd rfl q1
          · rfl
        rw [if_neg q, if_neg q1, if_pos q2] at hq; exact hq
      · rw [if_neg q, if_pos q1] at hq; exact hq
      · rw [if_pos q] at hq; exact hq
  | succ n ih =>
    intro f z M' hf he hz hy
    have hf2 : f < fc := by omega
    have ho := h.2.2.2.2.2.2.2.1.2.1 f hf2
    have h1 := h.m he
    have hy2 : bsO (bsG row (nd k) is ln) (fun f => row (6 + f)) ln n (f + 1) (bsI (bsG row (nd k) is ln f) f (row (6 + f)) ln 0 z) = y := hy
    simp only [B197_57, false_imp_iff, true_imp_iff, not_false_eq_true, not_true_eq_false, true_and, and_true, implies_true, qn_self, rI_i, rJ_l, rV_n, okZ0, okZ1, o31 hn, exP (show P0 t e 31 13 = some 33 from rfl), x33 hn (show 2 < 8 by decide), h1.2.2.1, nI_ge hf2 (show fc < 2 ^ 31 by omega)]
    simp only [B197_68, false_imp_iff, true_imp_iff, not_false_eq_true, not_true_eq_false, true_and, and_true, implies_true, qn_self, rI_i, rJ_l, rV_n, okZ0, okZ1, o31 hn, exP (show P0 t e 31 16 = some 36 from rfl), nI_add, x36 hn (show 6 + f < 89 by omega), h1.2.2.2.2.1 (6 + f) (show 6 + f < 89 by omega)]
    refine l197 hn h1 hk hf2 (fun M2 he2 hz3 => ih (f + 1) _ M2 (by omega) (he.tr he2) hz3 hy2) ln 0 (row (6 + f)) z M' (by omega) ho ?_ hz rfl
    rw [← h1.2.2.2.2.1 (6 + f) (by omega), eqM.i36]
    exact eqM.rf
theorem s197 (hn : 44 ≤ nx) (h : MT M ln is fc dn row nd) {k : Nat} {w : Int32} (hk : k < dn) (hQ : ∀ M', eqM M M' → Q (some (.int (beV (bsM row (nd k) is ln fc) w))) M' N (P0 t e) nx) : aSem (d + 10) 197 [.ref 31, .int (nI k), .int w] M N (P0 t e) nx Q := by
  have c6 := h.2.2.2.2.2.2.1
  unfold wfC at c6
  have h2 := h.z (v := nI 0)
  have hq := hQ _ (eqM_z (v := nI 0))
  have b2 : vB (nI k) dn = true := vB_t ((vl_nI (by omega)).mpr hk)
  have bad : beV none w = ng1 := by
    unfold beV
    split
    · rfl
    · split
      · rfl
      · split <;> rfl
  simp only [A197, B197_0, B197_13, false_imp_iff, true_imp_iff, not_false_eq_true, not_true_eq_false, true_and, and_true, implies_true, qn_self, rI_i, rJ_l, rV_n, okZ0, okZ1, o31 hn, s159 hn h2, b2, if_true, one0, s131, wi_c (show 2 < 2 ^ 31 by decide), vB_iff]
  by_cases hv : vl w (2 + 1)
  · simp only [vB_t hv, if_true, one0, false_imp_iff, true_imp_iff, not_false_eq_true, not_true_eq_false, true_and, and_true, implies_true, qn_self, rI_i, rJ_l, rV_n, okZ0, okZ1, B197_25, o31 hn, exP (show P0 t e 31 13 = some 33 from rfl), x33 hn (show 2 < 8 by decide), h2.2.2.1, nI_z (show fc < 2 ^ 31 by omega), B197_44]
    refine ⟨fun q => ?_, fun q => ?_⟩
    · have e1 : bsM row (nd k) is ln fc = none := by subst q; rfl
      rw [e1, bad] at hq
      exact hq
    · simp only [B197_34, false_imp_iff, true_imp_iff, not_false_eq_true, not_true_eq_false, true_and, and_true, implies_true, qn_self, rI_i, rJ_l, rV_n, okZ0, okZ1, o31 hn, exP (show P0 t e 31 13 = some 33 from rfl), x33 hn (show 0 < 8 by decide), h2.1, nI_leI (show 2 < 2 ^ 31 by decide) (show ln < 2 ^ 31 by omega), B197_44]
      refine ⟨fun q2 => ?_, fun q2 => ?_⟩
      · simp only [B197_46]
        exact m197 hn h2 hk (y := bsM row (nd k) is ln fc) (bsO_s q2 (by omega)) hv (fun M' he => hQ M' (eqM_z.tr he)) fc 0 none _ (by omega) eqM.rf trivial rfl
      · have e1 : bsM row (nd k) is ln fc = none := bsO_z (by omega) fc 0 (fun j _ hj => h.2.2.2.2.2.2.2.1.2.1 j (by omega))
        rw [e1, bad] at hq
        exact hq
  · have e1 : beV (bsM row (nd k) is ln fc) w = ng1 := by
      unfold beV
      rw [if_neg (fun q => hv (by rw [q]; exact (vl_nI (by decide)).mpr (by decide))), if_neg (fun q => hv (by rw [q]; exact (vl_nI (by decide)).mpr (by decide))), if_neg (fun q => hv (by rw [q]; exact (vl_nI (by decide)).mpr (by decide)))]
    rw [e1] at hq
    simp only [vB_f hv, if_false, Bool.false_eq_true, eq_true nI_0, false_imp_iff, true_imp_iff, not_false_eq_true, not_true_eq_false, true_and, and_true, implies_true, qn_self, rI_i, rJ_l, rV_n, okZ0, okZ1, B197_44]
    exact hq
theorem s197n (hn : 44 ≤ nx) (h : MT M ln is fc dn row nd) {x w : Int32} (hv : ¬ vl x dn) (hQ : ∀ M', eqM M M' → Q (some (.int ng1)) M' N (P0 t e) nx) : aSem (d + 10) 197 [.ref 31, .int x, .int w] M N (P0 t e) nx Q := by
  have h2 := h.z (v := nI 0)
  simp only [A197, B197_0, B197_44, false_imp_iff, true_imp_iff, not_false_eq_true, not_true_eq_false, true_and, and_true, implies_true, qn_self, rI_i, rJ_l, rV_n, okZ0, okZ1, o31 hn, s159 hn h2, vB_f hv, if_false, Bool.false_eq_true, eq_true nI_0]
  exact hQ _ eqM_z
/-- whether n facts from b on can do it -/
def cN (need is ln fc : Nat) : Nat → (Nat → Nat) → Nat → Prop
  | 0, row, _ => stA row need is ln
  | n + 1, row, b => ∃ f, b ≤ f ∧ f < fc ∧ ∃ l, l < ln ∧ ¬ l = row (6 + f) ∧ cN need is ln fc n (va_up row (6 + f) l) (f + 1)
theorem whA (h6 : ln ≤ 6) {need : Nat} : whB row need is ln = 2 ^ ln - 1 ↔ stA row need is ln := by
  have hB := whB_BS (row := row) (need := need) (is := is) h6
  have hA := BS_all h6
  constructor
  · intro q l hl
    rw [q] at hB
    exact ((hB.2 l (by omega)).mp ((hA.2 l (by omega)).mpr hl)).2
  · intro q
    refine BS.inj hB (hA.cg (fun j hj => ⟨fun z => ⟨z, q j z⟩, fun z => z.1⟩))
theorem l198 (hn : 44 ≤ nx) (h : MT M ln is fc dn row nd) {k f n : Nat} (hk : k < dn) (hf : f < fc) (hn3 : n < 3)
    (IH : ∀ (row : Nat → Nat) (M : aM) (Q : aQ), MT M ln is fc dn row nd → (∀ M', eqM M M' → cN (nd k) is ln fc n row (f + 1) → Q (some (.int (nI 1))) M' N (P0 t e) nx) → (∀ M', eqM M M' → ¬ cN (nd k) is ln fc n row (f + 1) → Q (some (.int (nI 0))) M' N (P0 t e) nx) → aSem d 198 [.ref 31, .int (nI k), .int (nI n), .int (nI (f + 1))] M N (P0 t e) nx Q)
    (hK1 : ∀ M', eqM M M' → (∃ l, l < ln ∧ ¬ l = row (6 + f) ∧ cN (nd k) is ln fc n (va_up row (6 + f) l) (f + 1)) → Q (some (.int (nI 1))) M' N (P0 t e) nx) (hK0 : ∀ M', eqM M M' → (¬ ∃ l, l < ln ∧ ¬ l = row (6 + f) ∧ cN (nd k) is ln fc n (va_up row (6 + f) l) (f + 1)) → WP (aSem d) g0 198 nx (qn nx Q) 25 [(0, .ref 31), (1, .int (nI k)), (2, .int (nI (n + 1))), (4, .int (nI (f + 1)))] [] M' N (P0 t e) nx) :
    ∀ m l x M', l + m = ln → x < ln → eqM (uM M 36 (6 + f) (nI x)) M' → (∀ l', l' < l → ¬ (¬ l' = row (6 + f) ∧ cN (nd k) is ln fc n (va_up row (6 + f) l') (f + 1))) → WP (aSem d) g0 198 nx (qn nx Q) 54 [(0, .ref 31), (1, .int (nI k)), (2, .int (nI (n + 1))), (4, .int (nI f)), (5, .int (nI (row (6 + f)))), (6, .int (nI 0)), (7, .int (nI l))] [] M' N (P0 t e) nx := by
  have c6 := h.2.2.2.2.2.2.1
  unfold wfC at c6
  have ho := h.2.2.2.2.2.2.2.1.2.1 f hf
  have back : ∀ x M', eqM (uM M 36 (6 + f) (nI x)) M' → eqM M (uM M' 36 (6 + f) (nI (row (6 + f)))) := by
    intro x M' he
    have he2 := he.st (w := nI (row (6 + f)))
    rw [← h.2.2.2.2.1 (6 + f) (by omega), eqM.i36] at he2
    rw [← h.2.2.2.2.1 (6 + f) (by omega)]
    exact he2
  have yes : ∀ l x M', l ≤ ln → x < ln → eqM (uM M 36 (6 + f) (nI x)) M' → (∃ l, l < ln ∧ ¬ l = row (6 + f) ∧ cN (nd k) is ln fc n (va_up row (6 + f) l) (f + 1)) → WP (aSem d) g0 198 nx (qn nx Q) 54 [(0, .ref 31), (1, .int (nI k)), (2, .int (nI (n + 1))), (4, .int (nI f)), (5, .int (nI (row (6 + f)))), (6, .int (nI 1)), (7, .int (nI l))] [] M' N (P0 t e) nx := by
    intro l x M' hl hx he hex
    have hm := (h.st hf hx).m he
    have X : WP (aSem d) g0 198 nx (qn nx Q) 117 [(0, .ref 31), (1, .int (nI k)), (2, .int (nI (n + 1))), (4, .int (nI f)), (5, .int (nI (row (6 + f)))), (6, .int (nI 1))] [] M' N (P0 t e) nx := by
      simp only [B198_117, false_imp_iff, true_imp_iff, not_false_eq_true, not_true_eq_false, true_and, and_true, implies_true, qn_self, rI_i, rJ_l, rV_n, okZ0, okZ1, o31 hn, exP (show P0 t e 31 16 = some 36 from rfl), nI_add, x36 hn (show 6 + f < 89 by omega), one0, B198_134, okZ1]
      exact hK1 _ (back x M' he) hex
    simp only [B198_54, false_imp_iff, true_imp_iff, not_false_eq_true, not_true_eq_false, true_and, and_true, implies_true, qn_self, rI_i, rJ_l, rV_n, okZ0, okZ1, o31 hn, exP (show P0 t e 31 13 = some 33 from rfl), x33 hn (show 0 < 8 by decide), hm.1]
    refine ⟨fun _ => X, fun _ => ?_⟩
    simp only [B198_65, false_imp_iff, true_imp_iff, not_false_eq_true, not_true_eq_false, true_and, and_true, implies_true, qn_self, rI_i, rJ_l, rV_n, okZ0, okZ1, one0]
    exact X
  intro m
  induction m with
  | zero =>
    intro l x M' hl hx he hno
    have hm := (h.st hf hx).m he
    simp only [B198_54, false_imp_iff, true_imp_iff, not_false_eq_true, not_true_eq_false, true_and, and_true, implies_true, qn_self, rI_i, rJ_l, rV_n, okZ0, okZ1, o31 hn, exP (show P0 t e 31 13 = some 33 from rfl), x33 hn (show 0 < 8 by decide), hm.1, nI_le (show ln ≤ l by omega) (show l < 2 ^ 31 by omega)]
    simp only [B198_117, false_imp_iff, true_imp_iff, not_false_eq_true, not_true_eq_false, true_and, and_true, implies_true, qn_self, rI_i, rJ_l, rV_n, okZ0, okZ1, o31 hn, exP (show P0 t e 31 16 = some 36 from rfl), nI_add, x36 hn (show 6 + f < 89 by omega), eq_true nI_0, B198_136]
    exact hK0 _ (back x M' he) (fun ⟨l', h1, h2, h3⟩ => hno l' (by omega) ⟨h2, h3⟩)
  | succ m ih =>
    intro l x M' hl hx he hno
    have hm := (h.st hf hx).m he
    have he2 := he.st (w := nI l)
    have hm2 := (h.st hf (show l < ln by omega)).m he2
    simp only [B198_54, false_imp_iff, true_imp_iff, not_false_eq_true, not_true_eq_false, true_and, and_true, implies_true, qn_self, rI_i, rJ_l, rV_n, okZ0, okZ1, o31 hn, exP (show P0 t e 31 13 = some 33 from rfl), x33 hn (show 0 < 8 by decide), hm.1, nI_ge (show l < ln by omega) (show ln < 2 ^ 31 by omega)]
    simp only [B198_65, B198_70, false_imp_iff, true_imp_iff, not_false_eq_true, not_true_eq_false, true_and, and_true, implies_true, qn_self, rI_i, rJ_l, rV_n, okZ0, okZ1, eq_true nI_0, o31 hn, exP (show P0 t e 31 16 = some 36 from rfl), nI_add, x36 hn (show 6 + f < 89 by omega), nI_eq (show l < 2 ^ 31 by omega) (show row (6 + f) < 2 ^ 31 by omega)]
    have no : ∀ M3, eqM (uM M 36 (6 + f) (nI l)) M3 → ¬ (¬ l = row (6 + f) ∧ cN (nd k) is ln fc n (va_up row (6 + f) l) (f + 1)) → WP (aSem d) g0 198 nx (qn nx Q) 54 [(0, .ref 31), (1, .int (nI k)), (2, .int (nI (n + 1))), (4, .int (nI f)), (5, .int (nI (row (6 + f)))), (6, .int (nI 0)), (7, .int (nI (l + 1)))] [] M3 N (P0 t e) nx := by
      intro M3 he3 q
      refine ih (l + 1) l M3 (by omega) (by omega) he3 (fun l' hl' => ?_)
      by_cases z : l' = l
      · subst z; exact q
      · exact hno l' (by omega)
    refine ⟨fun q => ?_, fun q => ?_⟩
    · simp only [B198_108, B198_109, nI_add]
      exact no _ he2 (fun z => z.1 q)
    · have e1 : nI (n + 1) - nI 1 = nI n := by rw [nI_sub (by omega), Nat.add_sub_cancel]
      simp only [B198_89, false_imp_iff, true_imp_iff, not_false_eq_true, not_true_eq_false, true_and, and_true, implies_true, qn_self, rI_i, rJ_l, rV_n, okZ0, okZ1, o31 hn, e1, nI_add]
      refine IH _ _ _ hm2 (fun M3 he3 hc => ?_) (fun M3 he3 hc => ?_)
      · simp only [false_imp_iff, true_imp_iff, not_false_eq_true, not_true_eq_false, true_and, and_true, implies_true, qn_self, rI_i, rJ_l, rV_n, okZ0, okZ1, one0, B198_104, B198_109, nI_add]
        exact yes (l + 1) l M3 (by omega) (by omega) (he2.tr he3) ⟨l, by omega, q, hc⟩
      · simp only [false_imp_iff, true_imp_iff, not_false_eq_true, not_true_eq_false, true_and, and_true, implies_true, qn_self, rI_i, rJ_l, rV_n, okZ0, okZ1, eq_true nI_0, B198_108, B198_109, nI_add]
        exact no M3 (he2.tr he3) (fun z => hc z.2)
theorem m198 (hn : 44 ≤ nx) {k n : Nat} (hk : k < dn) (hn3 : n < 3)
    (IH : ∀ (row : Nat → Nat) (M : aM) (Q : aQ) (b : Nat), b ≤ fc → MT M ln is fc dn row nd → (∀ M', eqM M M' → cN (nd k) is ln fc n row b → Q (some (.int (nI 1))) M' N (P0 t e) nx) → (∀ M', eqM M M' → ¬ cN (nd k) is ln fc n row b → Q (some (.int (nI 0))) M' N (P0 t e) nx) → aSem d 198 [.ref 31, .int (nI k), .int (nI n), .int (nI b)] M N (P0 t e) nx Q)
    (h : MT M ln is fc dn row nd) {b : Nat} (hQ1 : ∀ M', eqM M M' → cN (nd k) is ln fc (n + 1) row b → Q (some (.int (nI 1))) M' N (P0 t e) nx) (hQ0 : ∀ M', eqM M M' → ¬ cN (nd k) is ln fc (n + 1) row b → Q (some (.int (nI 0))) M' N (P0 t e) nx) :
    ∀ m f M', f + m = fc → b ≤ f → eqM M M' → (∀ f', b ≤ f' → f' < f → ¬ ∃ l, l < ln ∧ ¬ l = row (6 + f') ∧ cN (nd k) is ln fc n (va_up row (6 + f') l) (f' + 1)) → WP (aSem d) g0 198 nx (qn nx Q) 25 [(0, .ref 31), (1, .int (nI k)), (2, .int (nI (n + 1))), (4, .int (nI f))] [] M' N (P0 t e) nx := by
  have c6 := h.2.2.2.2.2.2.1
  unfold wfC at c6
  intro m
  induction m with
  | zero =>
    intro f M' hf hb he hno
    simp only [B198_25, B198_142, false_imp_iff, true_imp_iff, not_false_eq_true, not_true_eq_false, true_and, and_true, implies_true, qn_self, rI_i, rJ_l, rV_n, okZ0, okZ1, okZ0, o31 hn, exP (show P0 t e 31 13 = some 33 from rfl), x33 hn (show 2 < 8 by decide), (h.m he).2.2.1, nI_le (show fc ≤ f by omega) (show f < 2 ^ 31 by omega)]
    refine hQ0 M' he (fun ⟨f', h1, h2, h3⟩ => hno f' h1 (by omega) h3)
  | succ m ih =>
    intro f M' hf hb he hno
    have h1 := h.m he
    have hf2 : f < fc := by omega
    have ho := h.2.2.2.2.2.2.2.1.2.1 f hf2
    simp only [B198_25, false_imp_iff, true_imp_iff, not_false_eq_true, not_true_eq_false, true_and, and_true, implies_true, qn_self, rI_i, rJ_l, rV_n, okZ0, okZ1, o31 hn, exP (show P0 t e 31 13 = some 33 from rfl), x33 hn (show 2 < 8 by decide), h1.2.2.1, nI_ge hf2 (show fc < 2 ^ 31 by omega)]
    simp only [B198_36, false_imp_iff, true_imp_iff, not_false_eq_true, not_true_eq_false, true_and, and_true, implies_true, qn_self, rI_i, rJ_l, rV_n, okZ0, okZ1, o31 hn, exP (show P0 t e 31 16 = some 36 from rfl), nI_add, x36 hn (show 6 + f < 89 by omega), h1.2.2.2.2.1 (6 + f) (show 6 + f < 89 by omega)]
    refine l198 hn h1 hk hf2 hn3 (fun row M Q hm a b => IH row M Q (f + 1) (by omega) hm a b) (fun M2 he2 hex => hQ1 M2 (he.tr he2) ⟨f, hb, hf2, hex⟩) (fun M2 he2 hne => ih (f + 1) M2 (by omega) (by omega) (he.tr he2) (fun f' a1 a2 => ?_)) ln 0 (row (6 + f)) M' (by omega) ho ?_ (fun l' hl' => by omega)
    · by_cases z : f' = f
      · subst z; exact hne
      · exact hno f' a1 (by omega)
    · rw [← h1.2.2.2.2.1 (6 + f) (by omega), eqM.i36]
      exact eqM.rf
theorem s198 (hn : 44 ≤ nx) {k : Nat} (hk : k < dn) : ∀ n, n < 4 → ∀ (row : Nat → Nat) (M : aM) (Q : aQ) (b : Nat), b ≤ fc → MT M ln is fc dn row nd → (∀ M', eqM M M' → cN (nd k) is ln fc n row b → Q (some (.int (nI 1))) M' N (P0 t e) nx) → (∀ M', eqM M M' → ¬ cN (nd k) is ln fc n row b → Q (some (.int (nI 0))) M' N (P0 t e) nx) → aSem (d + n + 10) 198 [.ref 31, .int (nI k), .int (nI n), .int (nI b)] M N (P0 t e) nx Q := by
  intro n
  induction n with
  | zero =>
    intro _ row M Q b hb h hQ1 hQ0
    have c6 := h.2.2.2.2.2.2.1
    unfold wfC at c6
    have hB := (whB_BS (row := row) (need := nd k) (is := is) c6.1).1
    have hA := (BS_all c6.1).1
    show aSem (d + 9 + 1) 198 [.ref 31, .int (nI k), .int (nI 0), .int (nI b)] M N (P0 t e) nx Q
    simp only [A198, B198_0, B198_4, false_imp_iff, true_imp_iff, not_false_eq_true, not_true_eq_false, true_and, and_true, implies_true, qn_self, rI_i, rJ_l, rV_n, okZ0, okZ1, eq_true nI_0, o31 hn]
    refine s191 hn h hk (fun M2 he2 => ?_)
    simp only [false_imp_iff, true_imp_iff, not_false_eq_true, not_true_eq_false, true_and, and_true, implies_true, qn_self, rI_i, rJ_l, rV_n, okZ0, okZ1, o31 hn, s192 hn (h.m he2), nI_eq (show whB row (nd k) is ln < 2 ^ 31 by omega) (show 2 ^ ln - 1 < 2 ^ 31 by omega), whA c6.1]
    refine ⟨fun q => ?_, fun q => ?_⟩
    · simp only [B198_20, B198_21, false_imp_iff, true_imp_iff, not_false_eq_true, not_true_eq_false, true_and, and_true, implies_true, qn_self, rI_i, rJ_l, rV_n, okZ0, okZ1, okZ0]
      exact hQ0 M2 he2 q
    · simp only [B198_16, B198_21, false_imp_iff, true_imp_iff, not_false_eq_true, not_true_eq_false, true_and, and_true, implies_true, qn_self, rI_i, rJ_l, rV_n, okZ0, okZ1, okZ1]
      exact hQ1 M2 he2 q
  | succ n ih =>
    intro hn4 row M Q b hb h hQ1 hQ0
    show aSem (d + n + 10 + 1) 198 [.ref 31, .int (nI k), .int (nI (n + 1)), .int (nI b)] M N (P0 t e) nx Q
    simp only [A198, B198_0, false_imp_iff, true_imp_iff, not_false_eq_true, not_true_eq_false, true_and, and_true, implies_true, qn_self, rI_i, rJ_l, rV_n, okZ0, okZ1, nI_z (show n + 1 < 2 ^ 31 by omega), show ¬ n + 1 = 0 by omega, B198_22]
    exact m198 hn hk (by omega) (fun row M Q b => ih (by omega) row M Q b) h hQ1 hQ0 (fc - b) b M (by omega) (Nat.le_refl _) eqM.rf (fun f' a1 a2 => by omega)
theorem s199 (hn : 44 ≤ nx) (h : MT M ln is fc dn row nd) {k : Nat} (hk : k < dn) (hQ : ∀ M' v, eqM M M' → feV row (nd k) is ln fc v → Q (some (.int v)) M' N (P0 t e) nx) : aSem (d + 13) 199 [.ref 31, .int (nI k)] M N (P0 t e) nx Q := by
  have c6 := h.2.2.2.2.2.2.1
  unfold wfC at c6
  have h2 := h.z (v := nI 0)
  have b2 : vB (nI k) dn = true := vB_t ((vl_nI (by omega)).mpr hk)
  have k2 : cN (nd k) is ln fc 2 row 0 ↔ c2 row (nd k) is ln fc := ⟨fun ⟨f, _, a, b⟩ => ⟨f, a, b⟩, fun ⟨f, a, b⟩ => ⟨f, Nat.zero_le _, a, b⟩⟩
  simp only [A199, B199_0, B199_15, false_imp_iff, true_imp_iff, not_false_eq_true, not_true_eq_false, true_and, and_true, implies_true, qn_self, rI_i, rJ_l, rV_n, okZ0, okZ1, o31 hn, s159 hn h2, b2, if_true, one0]
  simp only [B199_17, false_imp_iff, true_imp_iff, not_false_eq_true, not_true_eq_false, true_and, and_true, implies_true, qn_self, rI_i, rJ_l, rV_n, okZ0, okZ1, nI_ge (show 0 < 3 by decide) (show 3 < 2 ^ 31 by decide), B199_22, o31 hn]
  refine s198 (d := d + 2) hn hk 0 (by decide) row _ _ 0 (Nat.zero_le _) h2 (fun M1 he1 hc0 => ?_) (fun M1 he1 hc0 => ?_)
  · simp only [false_imp_iff, true_imp_iff, not_false_eq_true, not_true_eq_false, true_and, and_true, implies_true, qn_self, rI_i, rJ_l, rV_n, okZ0, okZ1, one0, B199_32]
    exact hQ M1 _ (eqM_z.tr he1) (Or.inl ⟨hc0, rfl⟩)
  · simp only [false_imp_iff, true_imp_iff, not_false_eq_true, not_true_eq_false, true_and, and_true, implies_true, qn_self, rI_i, rJ_l, rV_n, okZ0, okZ1, eq_true nI_0, B199_34, nI_add]
    simp only [B199_17, false_imp_iff, true_imp_iff, not_false_eq_true, not_true_eq_false, true_and, and_true, implies_true, qn_self, rI_i, rJ_l, rV_n, okZ0, okZ1, nI_ge (show 0 + 1 < 3 by decide) (show 3 < 2 ^ 31 by decide), B199_22, o31 hn]
    refine s198 (d := d + 1) hn hk 1 (by decide) row _ _ 0 (Nat.zero_le _) (h2.m he1) (fun M2 he2 hc1 => ?_) (fun M2 he2 hc1 => ?_)
    · simp only [false_imp_iff, true_imp_iff, not_false_eq_true, not_true_eq_false, true_and, and_true, implies_true, qn_self, rI_i, rJ_l, rV_n, okZ0, okZ1, one0, B199_32]
      exact hQ M2 _ (eqM_z.tr (he1.tr he2)) (Or.inr (Or.inl ⟨hc0, hc1, rfl⟩))
    · simp only [false_imp_iff, true_imp_iff, not_false_eq_true, not_true_eq_false, true_and, and_true, implies_true, qn_self, rI_i, rJ_l, rV_n, okZ0, okZ1, eq_true nI_0, B199_34, nI_add]
      simp only [B199_17, false_imp_iff, true_imp_iff, not_false_eq_true, not_true_eq_false, true_and, and_true, implies_true, qn_self, rI_i, rJ_l, rV_n, okZ0, okZ1, nI_ge (show 0 + 1 + 1 < 3 by decide) (show 3 < 2 ^ 31 by decide), B199_22, o31 hn]
      refine s198 (d := d) hn hk 2 (by decide) row _ _ 0 (Nat.zero_le _) (h2.m (he1.tr he2)) (fun M3 he3 hc2 => ?_) (fun M3 he3 hc2 => ?_)
      · simp only [false_imp_iff, true_imp_iff, not_false_eq_true, not_true_eq_false, true_and, and_true, implies_true, qn_self, rI_i, rJ_l, rV_n, okZ0, okZ1, one0, B199_32]
        exact hQ M3 _ (eqM_z.tr (he1.tr (he2.tr he3))) (Or.inr (Or.inr (Or.inl ⟨hc0, hc1, k2.mp hc2, rfl⟩)))
      · simp only [false_imp_iff, true_imp_iff, not_false_eq_true, not_true_eq_false, true_and, and_true, implies_true, qn_self, rI_i, rJ_l, rV_n, okZ0, okZ1, eq_true nI_0, B199_34, nI_add]
        simp only [B199_17, B199_40, false_imp_iff, true_imp_iff, not_false_eq_true, not_true_eq_false, true_and, and_true, implies_true, qn_self, rI_i, rJ_l, rV_n, okZ0, okZ1, nI_le (show 3 ≤ 0 + 1 + 1 + 1 by decide) (show 0 + 1 + 1 + 1 < 2 ^ 31 by decide)]
        exact hQ M3 _ (eqM_z.tr (he1.tr (he2.tr he3))) (Or.inr (Or.inr (Or.inr ⟨hc0, hc1, fun z => hc2 (k2.mpr z), rfl⟩)))
theorem s199n (hn : 44 ≤ nx) (h : MT M ln is fc dn row nd) {x : Int32} (hv : ¬ vl x dn) (hQ : ∀ M', eqM M M' → Q (some (.int ng1)) M' N (P0 t e) nx) : aSem (d + 13) 199 [.ref 31, .int x] M N (P0 t e) nx Q := by
  have h2 := h.z (v := nI 0)
  simp only [A199, B199_0, B199_13, false_imp_iff, true_imp_iff, not_false_eq_true, not_true_eq_false, true_and, and_true, implies_true, qn_self, rI_i, rJ_l, rV_n, okZ0, okZ1, o31 hn, s159 hn h2, vB_f hv, if_false, Bool.false_eq_true, eq_true nI_0]
  exact hQ _ eqM_z
end MBE
