/-! A BODY, and a call of any depth -/
section BDY
variable {p : Program} {l : Launch} {e : Env} {R : Room} {s : State} {m : MethodId} {args : Array Value} {below : List Frame} {meth : Method} {c : Code} {D : va_G} {cA : Nat → ClassId} {E : aE} {Ev : State → Heap → Prop} {G : aG} {j lim n0 d : Nat} {Z : State → Prop}
set_option maxHeartbeats 4000000 in
theorem am_body (hcx : cxA p R s m args meth c D cA E Ev G j lim n0 d) (hG31 : G.1 < 2 ^ 31) {C : aC} (hC : clA l D cA E Ev d C) {Q : aQ}
    (h216 : ∀ (X : aX), (∀ t lv st M N P nx, X t lv st M N P nx → mpA p l e R s m args below meth c D cA E j lim n0 Z t lv st M N P nx) → ∀ n pc lv st M N P nx, callOf (mOwn j) n = some 216 → callP C lim 216 (fun st M N P nx => X (pc + 3) lv st M N P nx) st M N P nx → decode (mCode j) pc = .ok (.invokestatic n, 3) → mpA p l e R s m args below meth c D cA E j lim n0 Z pc lv st M N P nx)
    (hri : ∀ x M N P nx pc H locs ls, Q (some (.int x)) M N P nx → (mRet j = some .int ∨ (mRet j = some .boolean ∧ okZ x)) → relH D cA E.1 M N P nx H → va_S (aA E.1) s.heap H locs → n0 ≤ nx → nx ≤ lim → decode (mCode j) pc = .ok (.ireturn, 1) → W p l e R s m args below meth c H locs (nx - n0) (1068 * (nx - n0)) Z (F0 m pc ls [.int x]))
    (hrl : ∀ x M N P nx pc H locs ls, Q (some (.long x)) M N P nx → mRet j = some .long → relH D cA E.1 M N P nx H → va_S (aA E.1) s.heap H locs → n0 ≤ nx → nx ≤ lim → decode (mCode j) pc = .ok (.lreturn, 1) → W p l e R s m args below meth c H locs (nx - n0) (1068 * (nx - n0)) Z (F0 m pc ls [.long x]))
    (hrv : ∀ M N P nx pc H locs ls, Q none M N P nx → mRet j = none → relH D cA E.1 M N P nx H → va_S (aA E.1) s.heap H locs → n0 ≤ nx → nx ≤ lim → decode (mCode j) pc = .ok (.return_, 1) → W p l e R s m args below meth c H locs (nx - n0) (1068 * (nx - n0)) Z (F0 m pc ls []))
    (hth : ∀ n pc lv st M N P nx, j = 96 → catS st ≤ 8 → decode (mCode j) pc = .ok (.new n, 3) → Q none M N P nx → mpA p l e R s m args below meth c D cA E j lim n0 Z pc lv st M N P nx) :
    ∀ pc lv st M N P nx, WP C G j lim Q pc lv st M N P nx → mpA p l e R s m args below meth c D cA E j lim n0 Z pc lv st M N P nx := by
  intro pc lv st M N P nx h
  refine h _ ?_
  clear h pc lv st M N P nx
  intro pc lv st M N P nx ⟨i, len, hd, hlen, hsw, h⟩
  have hX : ∀ t lv st M N P nx, nrX j (mpA p l e R s m args below meth c D cA E j lim n0 Z) t lv st M N P nx → mpA p l e R s m args below meth c D cA E j lim n0 Z t lv st M N P nx :=
    fun t lv st M N P nx h H locs ls hR hS hl h0 hlim => h H locs ls hR hS (lh_nrm hl) h0 hlim
  cases i <;> first | exact False.elim h | skip
  case iconst => exact am_iconst hcx hX hd hlen h
  case bipush => exact am_bipush hcx hX hd hlen h
  case sipush => exact am_sipush hcx hX hd hlen h
  case lconst => exact am_lconst hcx hX hd hlen h
  case ldc2_w => exact am_ldc2_w hcx hX hd hlen h
  case ldc_w => exact am_ldc_w hcx hX hd hlen h
  case ldc => exact am_ldc hcx hX hd hlen h
  case iload => exact am_iload hcx hX hd hlen h
  case iload_n => exact am_iload_n hcx hX hd hlen h
  case lload => exact am_lload hcx hX hd hlen h
  case lload_n => exact am_lload_n hcx hX hd hlen h
  case aload => exact am_aload hcx hX hd hlen h
  case aload_n => exact am_aload_n hcx hX hd hlen h
  case istore => exact am_istore hcx hX hd hlen h
  case istore_n => exact am_istore_n hcx hX hd hlen h
  case lstore => exact am_lstore hcx hX hd hlen h
  case lstore_n => exact am_lstore_n hcx hX hd hlen h
  case astore => exact am_astore hcx hX hd hlen h
  case astore_n => exact am_astore_n hcx hX hd hlen h
  case iinc => exact am_iinc hcx hX hd hlen h
  case iadd => exact am_iadd hcx hX hd hlen h
  case isub => exact am_isub hcx hX hd hlen h
  case imul => exact am_imul hcx hX hd hlen h
  case iand => exact am_iand hcx hX hd hlen h
  case ior => exact am_ior hcx hX hd hlen h
  case ishl => exact am_ishl hcx hX hd hlen h
  case ishr => exact am_ishr hcx hX hd hlen h
  case iushr => exact am_iushr hcx hX hd hlen h
  case idiv => exact am_idiv hcx hX hd hlen h
  case irem => exact am_irem hcx hX hd hlen h
  case i2l => exact am_i2l hcx hX hd hlen h
  case l2i => exact am_l2i hcx hX hd hlen h
  case i2b => exact am_i2b hcx hX hd hlen h
  case ladd => exact am_ladd hcx hX hd hlen h
  case lsub => exact am_lsub hcx hX hd hlen h
  case land => exact am_land hcx hX hd hlen h
  case lor => exact am_lor hcx hX hd hlen h
  case lshl => exact am_lshl hcx hX hd hlen h
  case lshr => exact am_lshr hcx hX hd hlen h
  case lushr => exact am_lushr hcx hX hd hlen h
  case lcmp => exact am_lcmp hcx hX hd hlen h
  case dup => exact am_dup hcx hX hd hlen h
  case dup2 => exact am_dup2 hcx hX hd hlen h
  case pop => exact am_pop hcx hX hd hlen h
  case goto => exact am_goto hcx hX hd hlen h
  case ifCond => exact am_ifCond hcx hX hd hlen h
  case if_icmp => exact am_if_icmp hcx hX hd hlen h
  case getfield => exact am_getfield hcx hX hd hlen h
  case putfield => exact am_putfield hcx hX hd hlen h
  case baload => exact am_baload hcx hX hd hlen h
  case laload => exact am_laload hcx hX hd hlen h
  case iastore => exact am_iastore hcx hX hd hlen h
  case bastore => exact am_bastore hcx hX hd hlen h
  case lastore => exact am_lastore hcx hX hd hlen h
  case arraylength => exact am_arraylength hcx hX hd hlen h
  case newarray => exact am_newarray hcx hX hd hlen h
  case tableswitch => exact am_tableswitch hcx hX hd hsw h
  case lookupswitch => exact am_lookupswitch hcx hX hd hsw h
  case iaload => exact am_iaload hcx hX hG31 hd hlen h
  case new n =>
    have hlen2 : len = 3 := by simpa [okLen] using hlen
    subst hlen2
    exact am_new hcx hX hd hlen (fun hj hc hq => hth n pc lv st M N P nx hj hc hd hq) h
  case invokespecial => exact am_invokespecial hcx hC hX hd hlen h
  case invokevirtual => exact am_invokevirtual hcx hC hX hd hlen h
  case invokestatic => exact am_invokestatic hcx hC hX hd hlen (h216 _ hX _ _ _ _ _ _ _ _) h
  case ireturn =>
    intro H locs ls hR hS hl h0 hlim
    have hlen2 : len = 1 := by simpa [okLen] using hlen
    subst hlen2
    unfold stepI at h
    dsimp only at h
    split at h
    case h_2 => exact h.elim
    case h_1 x =>
    split at h
    case h_1 hr => exact hri _ _ _ _ _ _ _ _ _ h (Or.inl hr) hR hS h0 hlim hd
    case h_2 hr => exact hri _ _ _ _ _ _ _ _ _ h.2 (Or.inr ⟨hr, h.1⟩) hR hS h0 hlim hd
    case h_3 => exact h.elim
  case lreturn =>
    intro H locs ls hR hS hl h0 hlim
    have hlen2 : len = 1 := by simpa [okLen] using hlen
    subst hlen2
    unfold stepI at h
    dsimp only at h
    split at h
    case h_2 => exact h.elim
    case h_1 x =>
    split at h
    case h_1 hr => exact hrl _ _ _ _ _ _ _ _ _ h hr hR hS h0 hlim hd
    case h_2 => exact h.elim
  case return_ =>
    intro H locs ls hR hS hl h0 hlim
    have hlen2 : len = 1 := by simpa [okLen] using hlen
    subst hlen2
    unfold stepI at h
    dsimp only at h
    split at h
    case h_2 => exact h.elim
    case h_1 =>
    split at h
    case h_1 hr => exact hrv _ _ _ _ _ _ _ _ h hr hR hS h0 hlim hd
    case h_2 => exact h.elim
end BDY
theorem lg_sl_len : ∀ (vs : List Value), (lg_sl vs).length = catS vs
  | [] => rfl
  | v :: t => by
    have h := lg_sl_len t
    have e : lg_sl (v :: t) = (if v.category = 2 then [.val v, .second] else [.val v]) ++ lg_sl t := rfl
    rw [e, List.length_append, h]
    show _ = v.category + catS t
    rcases lv_cat v with hv | hv <;> simp [hv]
theorem catS_rv {E : aE} : ∀ (vs : List Value), catS (vs.map (rv E)) = catS vs
  | [] => rfl
  | v :: t => by simp only [List.map_cons, catS, rv_cat, catS_rv t]
theorem no216 {j : Nat} (h : (j < 216 ∧ j ≠ 96) ∨ (217 < j ∧ j < 221)) {n : Nat} (hc : callOf (mOwn j) n = some 216) : False := by
  have h8 : mOwn j ≠ 8 := by
    have : ∀ j, j < 221 → j ≠ 216 → j ≠ 217 → mOwn j ≠ 8 := by decide +kernel
    exact this j (by omega) (by omega) (by omega)
  have key : ∀ o, o < 13 → o ≠ 8 → ∀ e ∈ callsL.getD o [], e.2 ≠ 216 := by decide +kernel
  have hm := lkN_mem hc
  have hlt : mOwn j < 13 := by
    have : ∀ j, j < 221 → mOwn j < 13 := by decide +kernel
    exact this j (by omega)
  exact key _ hlt h8 _ hm rfl
set_option maxHeartbeats 4000000 in
/-- THE MEANING IS THE MACHINE'S, at every depth -/
theorem am_sound {l : Launch} {D : va_G} {cA : Nat → ClassId} {E : aE} {Ev : State → Heap → Prop} (hE1 : evOK (aA E.1) Ev) (hE2 : evHas D cA E Ev)
    (h14 : ∀ (d k : Nat) (M : aM) (N : aN) (P : aP) (nx : Nat) (Q : aQ), k < 8 → Q (some (.int (wordI k))) M N P nx → metA l D cA E Ev (d + 1) 14 [.retAddr (k + 1)] M N P nx (fun r M' N' P' nx' => nx' = nx + mC 14 ∧ Q r M' N' P' nx'))
    (h137 : ∀ (d k : Nat) (M : aM) (N : aN) (P : aP) (nx : Nat) (Q : aQ), k < 8 → Q (some (.long (wordL k))) M N P nx → metA l D cA E Ev (d + 1) 137 [.retAddr (k + 1)] M N P nx (fun r M' N' P' nx' => nx' = nx + mC 137 ∧ Q r M' N' P' nx')) :
    ∀ d, clA l D cA E Ev d (aSem d) := by
  intro d
  induction d with
  | zero => intro q as M N P nx Q _ h; exact h.elim
  | succ d ih =>
    intro q as M N P nx Q hq h
    have h' : semQ (aSem d) q as M N P nx Q := h
    clear h
    unfold semQ at h'
    cases e1 : q == 14 with
    | true =>
      have : q = 14 := by simpa using e1
      subst this
      have h2 : match (generalizing := false) as with
        | [.retAddr (k + 1)] => k < 8 ∧ Q (some (.int (wordI k))) M N P nx
        | _ => False := h'
      split at h2
      case h_2 => exact h2.elim
      case h_1 k => exact h14 d k M N P nx Q h2.1 h2.2
    | false =>
    rw [e1] at h'
    cases e2 : q == 137 with
    | true =>
      have : q = 137 := by simpa using e2
      subst this
      have h2 : match (generalizing := false) as with
        | [.retAddr (k + 1)] => k < 8 ∧ Q (some (.long (wordL k))) M N P nx
        | _ => False := h'
      split at h2
      case h_2 => exact h2.elim
      case h_1 k => exact h137 d k M N P nx Q h2.1 h2.2
    | false =>
    rw [e2] at h'
    cases e3 : q == 216 with
    | true =>
      have : q = 216 := by simpa using e3
      omega
    | false =>
    rw [e3] at h'
    have h2 : bif Nat.ble (catS as) (mMaxL q) then WP (aSem d) (0, fun _ => 0) q (nx + mC q) (fun r M' N' P' nx' => nx' = nx + mC q ∧ Q r M' N' P' nx') 0 (lv_args 0 as) [] M N P nx else False := h'
    cases e4 : Nat.ble (catS as) (mMaxL q) with
    | false => rw [e4] at h2; exact h2.elim
    | true =>
    rw [e4] at h2
    have hcat : catS as ≤ mMaxL q := by simpa using e4
    have hwp : WP (aSem d) (0, fun _ => 0) q (nx + mC q) (fun r M' N' P' nx' => nx' = nx + mC q ∧ Q r M' N' P' nx') 0 (lv_args 0 as) [] M N P nx := h2
    have hM := mw_all q (by omega)
    obtain ⟨hcode, hcls, hini, hnm, hpl, hdesc, hk0, hk1, hk2, -⟩ := hM
    refine Met.ofW (cc := mCode q) (maxL := mMaxL q) (ret := mRet q) (by rw [hcls]; exact hpl) rfl ?_
    intro p e s m args below meth c s₁ B hml hv
    obtain ⟨rfl, hrel, hsz, hbs, hev⟩ := hv
    have hts0 := atoms_spec (ws := wsA q) B.pre
    have hown : s.vm.findClass (mName q).cls = some m.cls := findClass_of_methodNamed B.named
    rw [hcls] at hown
    have hcx : cxA p (rmA (d + 1) q) s m (as.map (rv E)).toArray meth c D cA E Ev (0, fun _ => 0) q (nx + mC q) nx d :=
      ⟨B.exec, B.bytes, hml, hown, fun w hw => hts0 w (List.mem_cons_of_mem _ hw), fun hk => by rw [(name_of_methodNamed B.named B.method).1]; exact (hk2 hk).2, hev, hE1, hE2, hbs, Nat.le_refl _, Nat.le_refl _, by show _ ≤ mC q; omega, by show _ ≤ 1068 * mC q; omega, hsz, fun z => by omega⟩
    have hlocks := B.notSynchronized
    have hl := lv_entry (as.map (rv E)) (n := mMaxL q) (by rw [lg_sl_len, catS_rv]; exact hcat)
    rw [rv_args] at hl
    rw [lg_entry_eq]
    generalize (lg_sl (as.map (rv E)) ++ List.replicate (mMaxL q - (lg_sl (as.map (rv E))).length) Slot.unset).toArray = ls at hl ⊢
    have K := am_body (Z := MQ below (qcA D cA E (fun r M' N' P' nx' => nx' = nx + mC q ∧ Q r M' N' P' nx')) (as.map (rv E)).toArray s (mC q) (1068 * mC q) (aA E.1)) (e := e) (below := below) hcx (by decide) ih (fun X hX n pc lv st M N P nx hc => (no216 hq hc).elim) ?_ ?_ ?_ ?_ 0 _ _ _ _ _ _ hwp s.heap [] ls hrel va_S.rf hl (Nat.le_refl _) (Nat.le_add_right _ _)
    · rw [Nat.sub_self] at K
      exact K
    · intro x M1 N1 P1 nx1 pc H locs ls hQ hr hR hS h0 hlim hd
      obtain ⟨hn, hQ⟩ := hQ
      subst hn
      rw [Nat.add_sub_cancel_left]
      rcases hr with hr | ⟨hr, hz⟩
      · exact W.iret (v := x) B.exec B.bytes (by rw [B.returns]; exact hr) (fun t ht hW => ⟨⟨some (.int x), M1, N1, P1, _, rfl, ⟨rfl, hQ⟩, by rw [ht]; exact hR⟩, hS.F ht⟩) hS.2.2 hd
      · exact W.zret (v := x) B.exec B.bytes (by rw [B.returns]; exact hr) (nar_Z hz) (fun t ht hW => ⟨⟨some (.int x), M1, N1, P1, _, rfl, ⟨rfl, hQ⟩, by rw [ht]; exact hR⟩, hS.F ht⟩) hS.2.2 hd
    · intro x M1 N1 P1 nx1 pc H locs ls hQ hr hR hS h0 hlim hd
      obtain ⟨hn, hQ⟩ := hQ
      subst hn
      rw [Nat.add_sub_cancel_left]
      exact W.lret (v := x) B.exec B.bytes (by rw [B.returns]; exact hr) (fun t ht hW => ⟨⟨some (.long x), M1, N1, P1, _, rfl, ⟨rfl, hQ⟩, by rw [ht]; exact hR⟩, hS.F ht⟩) hS.2.2 hd
    · intro M1 N1 P1 nx1 pc H locs ls hQ hr hR hS h0 hlim hd
      obtain ⟨hn, hQ⟩ := hQ
      subst hn
      rw [Nat.add_sub_cancel_left]
      exact W.vret B.exec B.bytes (by rw [B.returns]; exact hr) (fun t ht hW => ⟨⟨none, M1, N1, P1, _, rfl, ⟨rfl, hQ⟩, by rw [ht]; exact hR⟩, hS.F ht⟩) hS.2.2 hd
    · intro n pc lv st M N P nx hj
      omega
