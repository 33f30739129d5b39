/-! the least fixed point: monotone, unfolded, a stretch of instructions at once -/
def cMono (C : aC) : Prop := ∀ q as M N P nx (Q Q' : aQ), (∀ r M N P nx, Q r M N P nx → Q' r M N P nx) → C q as M N P nx Q → C q as M N P nx Q'
def lin : Instr → Bool
  | .goto _ | .ifCond _ _ | .if_icmp _ _ | .tableswitch _ _ _ _ | .lookupswitch _ _ => false
  | _ => true
theorem cm_b {b : Bool} {A B : Prop} (h : A → B) : (bif b then A else False) → (bif b then B else False) := by cases b <;> simp_all
theorem cm_b2 {b : Bool} {A B A' B' : Prop} (h : A → B) (h' : A' → B') : (bif b then A else A') → (bif b then B else B') := by cases b <;> simp_all
theorem s1i_m {st : List Value} {k k' : Int32 → List Value → Prop} (h : ∀ x r, k x r → k' x r) : s1i st k → s1i st k' := by
  unfold s1i; split <;> first | exact h _ _ | exact id
theorem s2i_m {st : List Value} {k k' : Int32 → Int32 → List Value → Prop} (h : ∀ x y r, k x y r → k' x y r) : s2i st k → s2i st k' := by
  unfold s2i; split <;> first | exact h _ _ _ | exact id
theorem s1l_m {st : List Value} {k k' : Int64 → List Value → Prop} (h : ∀ x r, k x r → k' x r) : s1l st k → s1l st k' := by
  unfold s1l; split <;> first | exact h _ _ | exact id
theorem s2l_m {st : List Value} {k k' : Int64 → Int64 → List Value → Prop} (h : ∀ x y r, k x y r → k' x y r) : s2l st k → s2l st k' := by
  unfold s2l; split <;> first | exact h _ _ _ | exact id
theorem sli_m {st : List Value} {k k' : Int64 → Int32 → List Value → Prop} (h : ∀ x y r, k x y r → k' x y r) : sli st k → sli st k' := by
  unfold sli; split <;> first | exact h _ _ _ | exact id
theorem s1r_m {st : List Value} {k k' : Nat → List Value → Prop} (h : ∀ x r, k x r → k' x r) : s1r st k → s1r st k' := by
  unfold s1r; split <;> first | exact h _ _ | exact id
theorem ldi_m {l : aL} {i : Nat} {k k' : Int32 → Prop} (h : ∀ x, k x → k' x) : ldi l i k → ldi l i k' := by
  unfold ldi; split <;> first | exact h _ | exact id
theorem ldl_m {l : aL} {i : Nat} {k k' : Int64 → Prop} (h : ∀ x, k x → k' x) : ldl l i k → ldl l i k' := by
  unfold ldl; split <;> first | exact h _ | exact id
theorem lda_m {l : aL} {i : Nat} {k k' : Value → Prop} (h : ∀ x, k x → k' x) : lda l i k → lda l i k' := by
  unfold lda; split <;> first | exact h _ | exact id
theorem jmp_m {pc : Nat} {off : Int} {k k' : Nat → Prop} (h : ∀ t, k t → k' t) : jmp pc off k → jmp pc off k' := by
  unfold jmp; split <;> first | exact h _ | exact id
theorem brc_m {c : ClassFile.Cond} {x y : Int32} {A B A' B' : Prop} (h : A → A') (h' : B → B') : brc c x y A B → brc c x y A' B' := by
  unfold brc; split <;> exact fun ⟨a, b⟩ => ⟨fun z => h (a z), fun z => h' (b z)⟩
theorem swT_m {x : Int32} {K K' : Int → Prop} {d : Int} (h : ∀ o, K o → K' o) : ∀ (l : List Int) (lo : Int), swT x K d lo l → swT x K' d lo l := by
  intro l
  induction l with
  | nil => intro lo; exact h d
  | cons o t ih => intro lo ⟨a, b⟩; exact ⟨fun z => h _ (a z), fun z => ih _ (b z)⟩
theorem swL_m {x : Int32} {K K' : Int → Prop} {d : Int} (h : ∀ o, K o → K' o) : ∀ (l : List (Int × Int)), swL x K d l → swL x K' d l := by
  intro l
  induction l with
  | nil => exact h d
  | cons o t ih => intro ⟨a, b⟩; exact ⟨fun z => h _ (a z), fun z => ih (b z)⟩
theorem rI_m {k k' : Int32 → aM → aN → aP → Nat → Prop} (h : ∀ x M N P nx, k x M N P nx → k' x M N P nx) : ∀ r M N P nx, rI k r M N P nx → rI k' r M N P nx := by
  intro r M N P nx; unfold rI; split <;> first | exact h _ _ _ _ _ | exact id
theorem rJ_m {k k' : Int64 → aM → aN → aP → Nat → Prop} (h : ∀ x M N P nx, k x M N P nx → k' x M N P nx) : ∀ r M N P nx, rJ k r M N P nx → rJ k' r M N P nx := by
  intro r M N P nx; unfold rJ; split <;> first | exact h _ _ _ _ _ | exact id
theorem rV_m {k k' : aM → aN → aP → Nat → Prop} (h : ∀ M N P nx, k M N P nx → k' M N P nx) : ∀ r M N P nx, rV k r M N P nx → rV k' r M N P nx := by
  intro r M N P nx; unfold rV; split <;> first | exact h _ _ _ _ | exact id
theorem postP_m {rt : Option FieldType} {rest : List Value} {K K' : List Value → aM → aN → aP → Nat → Prop} (h : ∀ st M N P nx, K st M N P nx → K' st M N P nx) : ∀ r M N P nx, postP rt rest K r M N P nx → postP rt rest K' r M N P nx := by
  cases rt with
  | none => exact rV_m (fun _ _ _ _ => h _ _ _ _ _)
  | some t => cases t <;> first | exact rJ_m (fun _ _ _ _ _ => h _ _ _ _ _) | exact rI_m (fun _ _ _ _ _ => h _ _ _ _ _)
theorem goP_m {C : aC} (hC : cMono C) {lim q : Nat} {K K' : List Value → aM → aN → aP → Nat → Prop} (h : ∀ st M N P nx, K st M N P nx → K' st M N P nx) {st : List Value} {M : aM} {N : aN} {P : aP} {nx : Nat} : goP C lim q K st M N P nx → goP C lim q K' st M N P nx :=
  cm_b (cm_b2 (hC _ _ _ _ _ _ _ _ (postP_m h)) (fun ⟨a, b⟩ => ⟨a, hC _ _ _ _ _ _ _ _ (postP_m h) b⟩))
theorem callP_m {C : aC} (hC : cMono C) {lim q : Nat} {K K' : List Value → aM → aN → aP → Nat → Prop} (h : ∀ st M N P nx, K st M N P nx → K' st M N P nx) {st : List Value} {M : aM} {N : aN} {P : aP} {nx : Nat} : callP C lim q K st M N P nx → callP C lim q K' st M N P nx := by
  unfold callP
  refine cm_b2 (goP_m hC h) ?_
  split
  · exact fun ⟨a, b⟩ => ⟨a, goP_m hC h b⟩
  · exact id
theorem getP_m {ty : FieldType} {o k : Nat} {K K' : Value → Prop} {M : aM} {N : aN} {P : aP} (h : ∀ v, K v → K' v) : getP ty o k K M N P → getP ty o k K' M N P := by
  unfold getP; split
  · exact h _
  · exact h _
  · exact fun ⟨a, b, c⟩ => ⟨a, b, h _ c⟩
theorem putP_m {ty : FieldType} {st : List Value} {k : Nat} {ok : Nat → Prop} {K K' : List Value → aM → aN → aP → Prop} {M : aM} {N : aN} {P : aP} (h : ∀ r M N P, K r M N P → K' r M N P) : putP ty st k ok K M N P → putP ty st k ok K' M N P := by
  unfold putP
  split
  · split
    · exact fun ⟨a, b⟩ => ⟨a, h _ _ _ _ b⟩
    · exact id
  · split
    · exact fun ⟨a, b⟩ => ⟨a, h _ _ _ _ b⟩
    · exact id
  · split
    · exact fun ⟨a, b⟩ => ⟨a, h _ _ _ _ b⟩
    · exact id
set_option maxHeartbeats 4000000 in
theorem stepI_m {C : aC} (hC : cMono C) {G : aG} {j lim : Nat} {Q Q' : aQ} (hQ : ∀ r M N P nx, Q r M N P nx → Q' r M N P nx) {X Y : aX} {pc len : Nat} {i : Instr} (h : ∀ t lv st M N P nx, (lin i = true → t = pc + len) → X t lv st M N P nx → Y t lv st M N P nx) {lv : aL} {st : List Value} {M : aM} {N : aN} {P : aP} {nx : Nat} :
    stepI C G j lim Q X pc len i lv st M N P nx → stepI C G j lim Q' Y pc len i lv st M N P nx := by
  cases i <;> unfold stepI <;> dsimp only <;> (try exact id)
  case iconst => exact h _ _ _ _ _ _ _ (fun _ => rfl)
  case bipush => exact h _ _ _ _ _ _ _ (fun _ => rfl)
  case sipush => exact h _ _ _ _ _ _ _ (fun _ => rfl)
  case lconst => exact h _ _ _ _ _ _ _ (fun _ => rfl)
  case ldc2_w => split; exact h _ _ _ _ _ _ _ (fun _ => rfl); exact id
  case ldc => split; exact h _ _ _ _ _ _ _ (fun _ => rfl); exact id
  case ldc_w => split; exact h _ _ _ _ _ _ _ (fun _ => rfl); exact id
  case iload => exact ldi_m fun _ => h _ _ _ _ _ _ _ (fun _ => rfl)
  case iload_n => exact ldi_m fun _ => h _ _ _ _ _ _ _ (fun _ => rfl)
  case lload => exact ldl_m fun _ => h _ _ _ _ _ _ _ (fun _ => rfl)
  case lload_n => exact ldl_m fun _ => h _ _ _ _ _ _ _ (fun _ => rfl)
  case aload => exact lda_m fun _ => h _ _ _ _ _ _ _ (fun _ => rfl)
  case aload_n => exact lda_m fun _ => h _ _ _ _ _ _ _ (fun _ => rfl)
  case istore => exact s1i_m fun _ _ => cm_b (h _ _ _ _ _ _ _ (fun _ => rfl))
  case istore_n => exact s1i_m fun _ _ => cm_b (h _ _ _ _ _ _ _ (fun _ => rfl))
  case lstore => exact s1l_m fun _ _ => cm_b (h _ _ _ _ _ _ _ (fun _ => rfl))
  case lstore_n => exact s1l_m fun _ _ => cm_b (h _ _ _ _ _ _ _ (fun _ => rfl))
  case astore => exact s1r_m fun _ _ => cm_b (h _ _ _ _ _ _ _ (fun _ => rfl))
  case astore_n => exact s1r_m fun _ _ => cm_b (h _ _ _ _ _ _ _ (fun _ => rfl))
  case iinc => exact ldi_m fun _ => cm_b (h _ _ _ _ _ _ _ (fun _ => rfl))
  case iadd => exact s2i_m fun _ _ _ => h _ _ _ _ _ _ _ (fun _ => rfl)
  case isub => exact s2i_m fun _ _ _ => h _ _ _ _ _ _ _ (fun _ => rfl)
  case imul => exact s2i_m fun _ _ _ => h _ _ _ _ _ _ _ (fun _ => rfl)
  case iand => exact s2i_m fun _ _ _ => h _ _ _ _ _ _ _ (fun _ => rfl)
  case ior => exact s2i_m fun _ _ _ => h _ _ _ _ _ _ _ (fun _ => rfl)
  case ishl => exact s2i_m fun _ _ _ => h _ _ _ _ _ _ _ (fun _ => rfl)
  case ishr => exact s2i_m fun _ _ _ => h _ _ _ _ _ _ _ (fun _ => rfl)
  case iushr => exact s2i_m fun _ _ _ => h _ _ _ _ _ _ _ (fun _ => rfl)
  case idiv => exact s2i_m fun _ _ _ ⟨a, b⟩ => ⟨a, h _ _ _ _ _ _ _ (fun _ => rfl) b⟩
  case irem => exact s2i_m fun _ _ _ ⟨a, b⟩ => ⟨a, h _ _ _ _ _ _ _ (fun _ => rfl) b⟩
  case i2l => exact s1i_m fun _ _ => h _ _ _ _ _ _ _ (fun _ => rfl)
  case l2i => exact s1l_m fun _ _ => h _ _ _ _ _ _ _ (fun _ => rfl)
  case i2b => exact s1i_m fun _ _ => h _ _ _ _ _ _ _ (fun _ => rfl)
  case ladd => exact s2l_m fun _ _ _ => h _ _ _ _ _ _ _ (fun _ => rfl)
  case lsub => exact s2l_m fun _ _ _ => h _ _ _ _ _ _ _ (fun _ => rfl)
  case land => exact s2l_m fun _ _ _ => h _ _ _ _ _ _ _ (fun _ => rfl)
  case lor => exact s2l_m fun _ _ _ => h _ _ _ _ _ _ _ (fun _ => rfl)
  case lshl => exact sli_m fun _ _ _ => h _ _ _ _ _ _ _ (fun _ => rfl)
  case lshr => exact sli_m fun _ _ _ => h _ _ _ _ _ _ _ (fun _ => rfl)
  case lushr => exact sli_m fun _ _ _ => h _ _ _ _ _ _ _ (fun _ => rfl)
  case lcmp => exact s2l_m fun _ _ _ => h _ _ _ _ _ _ _ (fun _ => rfl)
  case dup => split; exact cm_b (h _ _ _ _ _ _ _ (fun _ => rfl)); exact id
  case dup2 => split; exact cm_b (h _ _ _ _ _ _ _ (fun _ => rfl)); exact id
  case pop => split; exact cm_b (h _ _ _ _ _ _ _ (fun _ => rfl)); exact id
  case goto => exact jmp_m fun _ => h _ _ _ _ _ _ _ (fun z => by cases z)
  case ifCond => exact s1i_m fun _ _ => jmp_m fun _ => brc_m (h _ _ _ _ _ _ _ (fun z => by cases z)) (h _ _ _ _ _ _ _ (fun z => by cases z))
  case if_icmp => exact s2i_m fun _ _ _ => jmp_m fun _ => brc_m (h _ _ _ _ _ _ _ (fun z => by cases z)) (h _ _ _ _ _ _ _ (fun z => by cases z))
  case tableswitch => exact s1i_m fun _ _ => swT_m (fun _ => jmp_m fun _ => h _ _ _ _ _ _ _ (fun z => by cases z)) _ _
  case lookupswitch => exact s1i_m fun _ _ => swL_m (fun _ => jmp_m fun _ => h _ _ _ _ _ _ _ (fun z => by cases z)) _
  case getfield =>
    refine s1r_m fun _ _ => ?_
    split
    · exact fun ⟨a, b⟩ => ⟨a, getP_m (fun _ => h _ _ _ _ _ _ _ (fun _ => rfl)) b⟩
    · exact id
  case putfield =>
    split
    · exact cm_b2 id (putP_m fun _ _ _ _ => h _ _ _ _ _ _ _ (fun _ => rfl))
    · exact id
  case iaload =>
    split
    · exact fun ⟨k, a, b⟩ => ⟨k, a, h _ _ _ _ _ _ _ (fun _ => rfl) b⟩
    · exact cm_b fun ⟨k, a, c, b⟩ => ⟨k, a, c, h _ _ _ _ _ _ _ (fun _ => rfl) b⟩
    · exact id
  case baload =>
    split
    · exact fun ⟨k, a, b⟩ => ⟨k, a, h _ _ _ _ _ _ _ (fun _ => rfl) b⟩
    · exact id
  case laload =>
    split
    · exact fun ⟨k, a, b⟩ => ⟨k, a, h _ _ _ _ _ _ _ (fun _ => rfl) b⟩
    · exact id
  case iastore =>
    split
    · exact fun ⟨k, a, b⟩ => ⟨k, a, h _ _ _ _ _ _ _ (fun _ => rfl) b⟩
    · exact id
  case bastore =>
    split
    · exact fun ⟨k, y, a, b⟩ => ⟨k, y, a, h _ _ _ _ _ _ _ (fun _ => rfl) b⟩
    · exact id
  case lastore =>
    split
    · exact fun ⟨k, a, b⟩ => ⟨k, a, h _ _ _ _ _ _ _ (fun _ => rfl) b⟩
    · exact id
  case arraylength =>
    split
    · exact fun ⟨k, a, b⟩ => ⟨k, a, h _ _ _ _ _ _ _ (fun _ => rfl) b⟩
    · exact cm_b (h _ _ _ _ _ _ _ (fun _ => rfl))
    · exact id
  case new =>
    refine cm_b2 (cm_b (hQ _ _ _ _ _)) ?_
    split
    · exact fun ⟨k, a, b⟩ => ⟨k, a, h _ _ _ _ _ _ _ (fun _ => rfl) b⟩
    · exact id
  case newarray => exact s1i_m fun _ _ ⟨k, a, c, b⟩ => ⟨k, a, c, h _ _ _ _ _ _ _ (fun _ => rfl) b⟩
  case invokevirtual =>
    split
    · exact cm_b (callP_m hC fun _ _ _ _ _ => h _ _ _ _ _ _ _ (fun _ => rfl))
    · exact id
  case invokespecial =>
    split
    · exact cm_b2 (s1r_m fun _ _ => cm_b (h _ _ _ _ _ _ _ (fun _ => rfl))) (cm_b (callP_m hC fun _ _ _ _ _ => h _ _ _ _ _ _ _ (fun _ => rfl)))
    · exact id
  case invokestatic =>
    split
    · refine cm_b2 (s2i_m fun _ _ _ => cm_b (h _ _ _ _ _ _ _ (fun _ => rfl))) (cm_b2 (s2i_m fun _ _ _ => cm_b (h _ _ _ _ _ _ _ (fun _ => rfl))) (cm_b2 ?_ (cm_b (callP_m hC fun _ _ _ _ _ => h _ _ _ _ _ _ _ (fun _ => rfl)))))
      split
      · refine cm_b ?_
        exact fun ⟨a1, a2, a3, a4, s1, s2, s3, e1, e2, e3, e4, e5, b⟩ => ⟨a1, a2, a3, a4, s1, s2, s3, e1, e2, e3, e4, e5, h _ _ _ _ _ _ _ (fun _ => rfl) b⟩
      · exact id
    · exact id
  case ireturn =>
    split
    · split
      · exact hQ _ _ _ _ _
      · exact fun ⟨a, b⟩ => ⟨a, hQ _ _ _ _ _ b⟩
      · exact id
    · exact id
  case lreturn =>
    split
    · split
      · exact hQ _ _ _ _ _
      · exact id
    · exact id
  case return_ =>
    split
    · split
      · exact hQ _ _ _ _ _
      · exact id
    · exact id
theorem stepAt_m {C : aC} (hC : cMono C) {G : aG} {j lim : Nat} {Q Q' : aQ} (hQ : ∀ r M N P nx, Q r M N P nx → Q' r M N P nx) {X Y : aX} (h : ∀ t lv st M N P nx, X t lv st M N P nx → Y t lv st M N P nx) {pc : Nat} {lv : aL} {st : List Value} {M : aM} {N : aN} {P : aP} {nx : Nat} :
    stepAt C G j lim Q X pc lv st M N P nx → stepAt C G j lim Q' Y pc lv st M N P nx := fun ⟨i, len, a, b, c, d⟩ => ⟨i, len, a, b, c, stepI_m hC hQ (fun t lv st M N P nx _ => h t _ st M N P nx) d⟩
theorem WP_fold {C : aC} (hC : cMono C) {G : aG} {j lim : Nat} {Q : aQ} {pc : Nat} {lv : aL} {st : List Value} {M : aM} {N : aN} {P : aP} {nx : Nat} (h : stepAt C G j lim Q (WP C G j lim Q) pc lv st M N P nx) : WP C G j lim Q pc lv st M N P nx :=
  fun X hX => hX _ _ _ _ _ _ _ (stepAt_m hC (fun _ _ _ _ _ z => z) (fun t lv st M N P nx z => z X hX) h)
theorem WP_unfold {C : aC} (hC : cMono C) {G : aG} {j lim : Nat} {Q : aQ} {pc : Nat} {lv : aL} {st : List Value} {M : aM} {N : aN} {P : aP} {nx : Nat} (h : WP C G j lim Q pc lv st M N P nx) : stepAt C G j lim Q (WP C G j lim Q) pc lv st M N P nx :=
  h (stepAt C G j lim Q (WP C G j lim Q)) (fun _ _ _ _ _ _ _ z => stepAt_m hC (fun _ _ _ _ _ z => z) (fun _ _ _ _ _ _ _ => WP_fold hC) z)
theorem WP_m {C : aC} (hC : cMono C) {G : aG} {j lim : Nat} {Q Q' : aQ} (hQ : ∀ r M N P nx, Q r M N P nx → Q' r M N P nx) {pc : Nat} {lv : aL} {st : List Value} {M : aM} {N : aN} {P : aP} {nx : Nat} (h : WP C G j lim Q pc lv st M N P nx) : WP C G j lim Q' pc lv st M N P nx :=
  h (WP C G j lim Q') (fun _ _ _ _ _ _ _ z => WP_fold hC (stepAt_m hC hQ (fun _ _ _ _ _ _ _ z => z) z))
/-- a stretch -/
def seg (C : aC) (G : aG) (j lim : Nat) (Q : aQ) (X : aX) : List (Instr × Nat) → aX
  | [] => X
  | q :: t => fun pc => stepI C G j lim Q (nrX j (seg C G j lim Q X t)) pc q.2 q.1
def segOK (j : Nat) : List (Instr × Nat) → Nat → Bool
  | [], _ => true
  | q :: t, pc => decide (decode (mCode j) pc = .ok q) && (okLen q.1 q.2 && (okSw q.1 && ((lin q.1 || t.isEmpty) && segOK j t (pc + q.2))))
theorem WP_seg {C : aC} (hC : cMono C) {G : aG} {j lim : Nat} {Q : aQ} : ∀ (is : List (Instr × Nat)) {pc : Nat} (_ : segOK j is pc = true) {lv : aL} {st : List Value} {M : aM} {N : aN} {P : aP} {nx : Nat},
    WP C G j lim Q pc lv st M N P nx ↔ seg C G j lim Q (WP C G j lim Q) is pc lv st M N P nx := by
  intro is
  induction is with
  | nil => intro pc _ lv st M N P nx; exact Iff.rfl
  | cons q t ih =>
    intro pc h lv st M N P nx
    simp only [segOK, Bool.and_eq_true, decide_eq_true_eq, Bool.or_eq_true] at h
    obtain ⟨h1, h2, h3, h4, h5⟩ := h
    obtain ⟨i, len⟩ := q
    have key : ∀ (X Y : aX), (∀ lv st M N P nx, X (pc + len) lv st M N P nx → Y (pc + len) lv st M N P nx) → (∀ t' lv st M N P nx, t.isEmpty = true → X t' lv st M N P nx → Y t' lv st M N P nx) → stepI C G j lim Q (nrX j X) pc len i lv st M N P nx → stepI C G j lim Q (nrX j Y) pc len i lv st M N P nx := by
      intro X Y hX hY
      refine stepI_m hC (fun _ _ _ _ _ z => z) (fun t' lv st M N P nx hl hx => ?_)
      rcases h4 with h4 | h4
      · rw [hl h4] at hx ⊢
        exact hX _ _ _ _ _ _ hx
      · exact hY _ _ _ _ _ _ _ h4 hx
    constructor
    · intro hw
      obtain ⟨i', len', d1, -, -, d4⟩ := WP_unfold hC hw
      rw [h1] at d1
      cases d1
      refine key _ _ (fun lv st M N P nx hx => (ih h5).mp hx) (fun t' lv st M N P nx ht hx => ?_) d4
      cases t with
      | nil => exact hx
      | cons _ _ => cases ht
    · intro hs
      refine WP_fold hC ⟨i, len, h1, h2, h3, key _ _ (fun lv st M N P nx hx => (ih h5).mpr hx) (fun t' lv st M N P nx ht hx => ?_) hs⟩
      cases t with
      | nil => exact hx
      | cons _ _ => cases ht
/-- methods whose meaning is said outright: Reader.wordOf (14), RenvoiDeskModel.spelled (137), RenvoiDeskLaw.rule (216) -/
def wordI (k : Nat) : Int32 := [394692, 10079909, 197748, 136356, 611717, 12343, 24395141, 9910450].getD k 0
def wordL (k : Nat) : Int64 := [394692, 10079909, 197748, 136356, 611717, 12343, 24395141, 9910450].getD k 0
def semQ (C : aC) : aC := fun q as M N P nx Q =>
  bif q == 14 then (match as with
    | [.retAddr (k + 1)] => k < 8 ∧ Q (some (.int (wordI k))) M N P nx
    | _ => False)
  else bif q == 137 then (match as with
    | [.retAddr (k + 1)] => k < 8 ∧ Q (some (.long (wordL k))) M N P nx
    | _ => False)
  else bif q == 216 then (match as with
    | [.ref 0, .int x, .int y, .int z, .ref 43] => 44 ≤ nx ∧ WP C (0, fun _ => 0) 96 nx (fun r M' N' P' nx' => match r with
      | some (.int v) => Q (some (.int 0)) M' (uN N' 43 0 v.toInt64) P' (nx + 1)
      | none => Q (some (.int 1)) M' N' P' (nx + 1)
      | _ => False) 0 (lv_args 0 [.ref 0, .int x, .int y, .int z]) [] M N P nx
    | _ => False)
  else bif Nat.ble (catS as) (mMaxL q) then WP C (0, fun _ => 0) q (nx + mC q) (fun r M' N' P' nx' => nx' = nx + mC q ∧ Q r M' N' P' nx') 0 (lv_args 0 as) [] M N P nx else False
def aSem : Nat → aC
  | 0 => fun _ _ _ _ _ _ _ => False
  | d + 1 => semQ (aSem d)
theorem semQ_mono {C : aC} (hC : cMono C) : cMono (semQ C) := by
  intro q as M N P nx Q Q' hQ
  unfold semQ
  refine cm_b2 ?_ (cm_b2 ?_ (cm_b2 ?_ (cm_b (WP_m hC fun r M N P nx ⟨a, b⟩ => ⟨a, hQ _ _ _ _ _ b⟩))))
  · split
    · exact fun ⟨a, b⟩ => ⟨a, hQ _ _ _ _ _ b⟩
    · exact id
  · split
    · exact fun ⟨a, b⟩ => ⟨a, hQ _ _ _ _ _ b⟩
    · exact id
  · split
    · refine And.imp_right (WP_m hC fun r M N P nx => ?_)
      split
      · exact hQ _ _ _ _ _
      · exact hQ _ _ _ _ _
      · exact id
    · exact id
theorem aSem_mono : ∀ d, cMono (aSem d)
  | 0 => fun _ _ _ _ _ _ _ _ _ h => h
  | d + 1 => semQ_mono (aSem_mono d)
