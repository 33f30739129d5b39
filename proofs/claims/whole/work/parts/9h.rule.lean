/-! RenvoiDesk.rule (96), which may throw; RenvoiDeskLaw.rule (216), which catches; the law's call of it -/
def isNw : Except DecodeError (Instr × Nat) → Nat → Bool
  | .ok (.new k, _), pc => Nat.beq pc 21 && Nat.beq k 92
  | _, _ => true
theorem new96 {pc n : Nat} (h : decode (mCode 96) pc = .ok (.new n, 3)) : pc = 21 ∧ n = 92 := by
  rcases Nat.lt_or_ge pc 117 with q | q
  · have key : ∀ pc, pc < 117 → isNw (decode (mCode 96) pc) pc = true := by decide +kernel
    have := key pc q
    rw [h] at this
    simp only [isNw, Bool.and_eq_true, Nat.beq_eq] at this
    exact this
  · exact (dec_end (show (mCode 96).size ≤ pc from Nat.le_trans (by decide +kernel) q) h).elim
theorem xBad_on : ∀ w ∈ xBad, w.onTables = true := by decide +kernel
theorem no216x {n : Nat} (hc : callOf (mOwn 96) n = some 216) : False := by
  have key : ∀ e ∈ callsL.getD (mOwn 96) [], e.2 ≠ 216 := by decide +kernel
  exact key _ (lkN_mem hc) rfl
def rmX (d : Nat) : Room := { frames := d, cells := 1, slots := 1068, locals := 128 * d }
/-- what a throw needs of the start -/
def xEv (E : aE) (U : State) (H : Heap) : Prop := (∀ w ∈ xBad, va_Nw w U) ∧ vx_Zq Bundle.tN "UNASSIGNED_STACK" Bundle.steD (aA E.1) U H ∧ vx_Zq Bundle.tN "SUPPRESSED_SENTINEL" Bundle.listD (aA E.1) U H
abbrev sX : Type := aM × aN × aP
abbrev qR (D : va_G) (cA : Nat → ClassId) (E : aE) (Q : aQ) (nx : Nat) : Array Value → State → Outcome → State → Prop := va_Qi (fun r (u : sX) => Q (some (.int r)) u.1 u.2.1 u.2.2 nx) (fun u t => relH D cA E.1 u.1 u.2.1 u.2.2 nx t.heap) (aA E.1)
abbrev xR (D : va_G) (cA : Nat → ClassId) (E : aE) (Q : aQ) (nx : Nat) : String → State → State → Prop := vx_X (fun (u : sX) => Q none u.1 u.2.1 u.2.2 nx) (fun E9 u t => E9 = xN ∧ relH D cA E.1 u.1 u.2.1 u.2.2 nx t.heap) (aA E.1)
section RUL
variable {l : Launch} {D : va_G} {cA : Nat → ClassId} {E : aE} {Ev : State → Heap → Prop} {d0 : Nat} {C : aC} {x y z : Int32} {M : aM} {N : aN} {P : aP} {nx : Nat}
theorem c_96 (hst : l.stackTraces = false) (hE1 : evOK (aA E.1) Ev) (hE2 : evHas D cA E Ev) (hX : ∀ U H, Ev U H → xEv E U H) (hC : clA l D cA E Ev d0 C) (h6 : 6 ≤ d0) {Q : aQ} (h : WP C (0, fun _ => 0) 96 nx Q 0 (lv_args 0 [.ref 0, .int x, .int y, .int z]) [] M N P nx) :
    vx_Met l (mName 96) (wsA 96) (rmX (d0 + 1)) (pcA D cA E Ev [.ref 0, .int x, .int y, .int z] M N P nx) (qR D cA E Q nx) (xR D cA E Q nx) 1 1068 (aA E.1) := by
  refine vx_ofW (cc := mCode 96) (maxL := mMaxL 96) (ret := mRet 96) (by decide +kernel) rfl ?_
  intro p e s m args below meth c s₁ B hml hex hv
  obtain ⟨rfl, hrel, hsz, hbs, hev⟩ := hv
  have hts0 := atoms_spec (ws := wsA 96) B.pre
  have hown : s.vm.findClass (oName (mOwn 96)) = some m.cls := findClass_of_methodNamed B.named
  have hts : ∀ w ∈ gtbl, w.before _ s = true := fun w hw => hts0 w (List.mem_cons_of_mem _ hw)
  have hcx : cxA p (rmX (d0 + 1)) s m (([.ref 0, .int x, .int y, .int z] : List Value).map (rv E)).toArray meth c D cA E Ev (0, fun _ => 0) 96 nx nx d0 :=
    ⟨B.exec, B.bytes, hml, hown, hts, fun hk => absurd hk (by decide +kernel), hev, hE1, hE2, hbs, Nat.le_refl _, Nat.le_refl _, by show _ ≤ 1; omega, by show _ ≤ 1068; omega, hsz, fun z => absurd z (by decide)⟩
  have hl0 := lv_entry (([.ref 0, .int x, .int y, .int z] : List Value).map (rv E)) (n := mMaxL 96) (Nat.le_of_ble_eq_true rfl)
  rw [rv_args] at hl0
  rw [lg_entry_eq]
  generalize (lg_sl (([.ref 0, .int x, .int y, .int z] : List Value).map (rv E)) ++ List.replicate (mMaxL 96 - (lg_sl (([.ref 0, .int x, .int y, .int z] : List Value).map (rv E))).length) Slot.unset).toArray = ls at hl0 ⊢
  have K := am_body (Z := vx_MQ below (qR D cA E Q nx) (xR D cA E Q nx) (([.ref 0, .int x, .int y, .int z] : List Value).map (rv E)).toArray s 1 1068 (aA E.1)) (e := e) (below := below) hcx (by decide) hC (fun X hX n pc lv st M N P nx hc => (no216x hc).elim) ?_ ?_ ?_ ?_ 0 _ _ _ _ _ _ h s.heap [] ls hrel va_S.rf hl0 (Nat.le_refl _) (Nat.le_refl _)
  · rw [Nat.sub_self] at K
    exact K
  · intro x1 M1 N1 P1 nx1 pc H locs ls hQ hr hR hS h0 hlim hd
    have hn : nx1 = nx := by omega
    subst hn
    rw [Nat.sub_self]
    refine W.widen (k := 1) (n := 1068) (by omega) (by omega) (vx_ret ?_)
    exact W.iret (v := x1) B.exec B.bytes (by rw [B.returns]; rfl) (fun t ht hW => ⟨⟨x1, (M1, N1, P1), rfl, hQ, (show relH D cA E.1 M1 N1 P1 nx1 t.heap by rw [ht]; exact hR)⟩, hS.F ht⟩) hS.2.2 hd
  · intro x1 M1 N1 P1 nx1 pc H locs ls hQ hr
    exact absurd hr (by decide)
  · intro M1 N1 P1 nx1 pc H locs ls hQ hr
    exact absurd hr (by decide)
  · intro n pc lv st M1 N1 P1 nx1 _ hcat hd hq H locs ls hR hS hl h0 hlim
    obtain ⟨rfl, rfl⟩ := new96 hd
    have hn : nx1 = nx := by omega
    subst hn
    rw [Nat.sub_self]
    have hev' := hX _ _ hev
    refine vx_throwX (cc := mCode 96) (pc := 21) B.exec B.bytes hst (text := sTexts.getD 8 "") (ik := 92) (is := 94) (sa := E.2.2 8) (A := aA E.1) hown (hts _ (tb4 110 rfl rfl)) (hts _ (tb1 18 rfl rfl)) ((hE2 s s.heap hev).2.2 6 94 8 rfl)
      (vx_hat (B := xBad) (fun w hw => hts w (List.mem_filter.mpr ⟨atX_good w hw, (List.mem_filter.mp hw).2⟩)) atX_bad (fun w hw => va_Nw.use (xBad_on w hw) (hev'.1 w hw)))
      (List.forall_mem_cons.mpr ⟨rfl, List.forall_mem_cons.mpr ⟨rfl, atX_ot⟩⟩) hev'.2.1 hev'.2.2 hS (hl.1.trans hml.symm) hd (by decide +kernel) (by decide +kernel) (by decide +kernel) (by decide +kernel)
      (fun x hx => (hex x hx).elim) (show 2 + 3 < d0 + 1 by omega) ?_ (show 0 + 1 ≤ 1 by omega) (show 1068 * 0 + 6 ≤ 1068 by omega) B.notSynchronized ?_ hS.2.2 (by omega) (by omega)
    · rw [catS_eq]
      show catS st + _ ≤ 128 * (d0 + 1)
      omega
    · intro t ht hz hk
      exact ⟨(M1, N1, P1), hq, ⟨rfl, hR.kept (fun k q hk' => hk q.1 (hR k q hk').lt)⟩, ⟨Nat.le_trans hS.1 hz, fun q h1 h2 => (hk q (Nat.lt_of_lt_of_le h1 hS.1)).trans (hS.2.1 q h1 h2)⟩⟩
theorem rel44 {H : Heap} (hn : 44 ≤ nx) (h : relH D cA E.1 M N P nx H) : relH D cA E.1 M N P (nx + 1) H := by
  unfold relH wsW at h ⊢
  rw [Nat.min_eq_right (by omega)] at h ⊢
  exact h
def ws216 : List Cond := Cond.codeWith (mName 216) (mCode 216) 6 (some .int) [(0, 12, 15, 13)] :: gtbl
theorem c_216 (hst : l.stackTraces = false) (hE1 : evOK (aA E.1) Ev) (hE2 : evHas D cA E Ev) (hX : ∀ U H, Ev U H → xEv E U H) (hC : clA l D cA E Ev d0 C) (h6 : 6 ≤ d0) {Q0 : aQ} (hn : 44 ≤ nx) (h : WP C (0, fun _ => 0) 96 nx (fun r M' N' P' nx' => match r with
      | some (.int v) => Q0 (some (.int 0)) M' (uN N' 43 0 v.toInt64) P' (nx + 1)
      | none => Q0 (some (.int 1)) M' N' P' (nx + 1)
      | _ => False) 0 (lv_args 0 [.ref 0, .int x, .int y, .int z]) [] M N P nx) :
    Met l (mName 216) ws216 (rmX (d0 + 2)) (pcA D cA E Ev [.ref 0, .int x, .int y, .int z, .ref 43] M N P nx) (qcA D cA E (fun r M' N' P' nx' => nx' = nx + 1 ∧ Q0 r M' N' P' nx')) 1 1068 (aA E.1) := by
  refine va_MetW (cc := mCode 216) (maxL := 6) (ret := some .int) (hh := [(0, 12, 15, 13)]) (by decide +kernel) rfl ?_
  intro p e s m args below meth c s₁ B hml hv
  obtain ⟨rfl, hrel, hsz, hbs, hev⟩ := hv
  have hx := B.exec
  have hb := B.bytes
  have hr := B.returns
  have hts0 := atoms_spec (ws := ws216) B.pre
  have hown : s.vm.findClass "RenvoiDeskLaw" = some m.cls := findClass_of_methodNamed B.named
  have hts : ∀ w ∈ gtbl, w.before _ s = true := fun w hw => hts0 w (List.mem_cons_of_mem _ hw)
  have htab : c.exceptionTable.toList = tableOf [(0, 12, 15, 13)] := vx_table (x := mName 216) B (hts0 _ List.mem_cons_self)
  have hl := lv_entry (([.ref 0, .int x, .int y, .int z, .ref 43] : List Value).map (rv E)) (n := 6) (Nat.le_of_ble_eq_true rfl)
  rw [lg_entry_eq]
  generalize (lg_sl (([.ref 0, .int x, .int y, .int z, .ref 43] : List Value).map (rv E)) ++ List.replicate (6 - (lg_sl (([.ref 0, .int x, .int y, .int z, .ref 43] : List Value).map (rv E))).length) Slot.unset).toArray = ls at hl ⊢
  have hl : lv_has ls 6 [(0, .ref (E.1 + 0)), (1, .int x), (2, .int y), (3, .int z), (4, .ref (E.1 + 43))] := hl
  have hS : va_S (aA E.1) s.heap s.heap [] := va_S.rf
  have hK := (hE2 s s.heap hev).1
  refine lv_aload hx hb (i := 4) (by decide +kernel) (lv_at hl 4 rfl) ?_
  refine lv_iconst (n := 0) (v := 0) hx hb (by decide +kernel) (by decide) ?_
  refine lv_aload_n hx hb (k := 0) (by decide +kernel) rfl (lv_at hl 0 rfl) ?_
  refine lv_iload_n hx hb (k := 1) (by decide +kernel) rfl (lv_at hl 1 rfl) ?_
  refine lv_iload_n hx hb (k := 2) (by decide +kernel) rfl (lv_at hl 2 rfl) ?_
  refine lv_iload_n hx hb (k := 3) (by decide +kernel) rfl (lv_at hl 3 rfl) ?_
  have hrecv : ∃ cell : Cell, s.heap[E.1 + 0]? = some cell ∧ cell.vm.isStatics = false ∧ s.vm.findClass "RenvoiDesk" = some cell.cls :=
    va_recv hK hrel (ci := 6) (q0 := 0) rfl (by rw [wsW_get (show 0 < nx by omega) (by omega), ceW_obj (show kindOf 0 = (0, 6) from rfl)])
  refine vx_calli (vx_runV (Ts := gtbl) (C := "RenvoiDesk") (As := [.int x, .int y, .int z]) (rest := [.int 0, .ref (E.1 + 43)]) ⟨hx, hb, hml, hown, hts⟩ (c_96 hst hE1 hE2 hX hC h6 h)
      (cwV (C := "RenvoiDesk") 3 hts (good_A (fun w h => h) (fun w hw => (List.mem_append.mp hw).elim (mm4 (tb4 106 rfl rfl) (tb4 107 rfl rfl) (tb4 108 rfl rfl) (tb1 1 rfl rfl) w) (wsA_in mw_96 w))) rfl rfl rfl (by decide +kernel) ⟨show d0 + 1 + 1 ≤ d0 + 2 by omega, show 8 + (mMaxL 96 + 11) + 128 * (d0 + 1) ≤ 128 * (d0 + 2) by have := mMaxL_le 96; omega⟩)
      ⟨pcA_blind hE1, hrecv, fun U hU hW => ⟨rfl, by rw [hU]; exact hrel, by rw [hU]; exact hsz, by rw [hU]; exact hbs, by rw [hU]; exact hE1.1 s U _ hW hev⟩⟩ rfl rfl hl.1 rfl (lv_room (Nat.le_of_ble_eq_true rfl)) (show decode (mCode 216) 7 = .ok (.invokevirtual 7, 3) by decide +kernel) ⟨show 0 + 1 ≤ 1 by omega, show 0 + 1068 ≤ 1068 by omega⟩)
    hS (fun _ _ h => h) (fun _ h => h) (fun _ _ h => h) ?_ ?_
  · intro E9 ce q9 u t H1 locs1 ht hvm hp hb9 hz1 hk1 hS1 hcell hvn hcl
    obtain ⟨rfl, hR1⟩ := hb9
    refine vx_catch (own := "RenvoiDeskLaw") (name := xN) (E := xN) hown [] ⟨0, 12, 15, 13⟩ [] (by rw [htab]; rfl) (fun z hz => nomatch hz) (by decide) (by decide) (hts (.classLink "RenvoiDeskLaw" 13 xN) (tb4 105 rfl rfl)) (va_Nw.use rfl ((hX _ _ hev).1 (.castable xN xN) (by decide +kernel))) hcell hvn hcl ?_
    refine lv_astore (lv' := [(5, .ref q9), (0, .ref (E.1 + 0)), (1, .int x), (2, .int y), (3, .int z), (4, .ref (E.1 + 43))]) hx hb (i := 5) (by decide +kernel) hl (by decide) rfl (fun ls hl => ?_)
    refine lv_iconst (n := 1) (v := 1) hx hb (by decide +kernel) (by decide) ?_
    exact W.iret (v := 1) hx hb hr (fun t2 ht2 hW => ⟨⟨some (.int 1), u.1, u.2.1, u.2.2, nx + 1, rfl, ⟨rfl, hp⟩, by rw [ht2, ← ht]; exact rel44 hn hR1⟩, hS1.F ht2⟩) hS1.2.2 (by decide +kernel)
  · intro r u t H1 locs1 ht hvm hp hR1 hz1 hk1 hS1
    rw [ht] at hR1
    refine lv_i2l (v := r.toInt64) hx hb (by decide +kernel) rfl ?_
    obtain ⟨hin1, hcl⟩ := in_A (i := 0) (k := 0) (n := 1) (show (0 : Int32) = nI 0 by decide) (by decide) (by decide)
    have hget := wsW_get (cA := cA) (bs := E.1) (M := u.1) (N := u.2.1) (P := u.2.2) (nx := nx) (k := 43) (by omega) (by omega)
    rw [ceW_long (show (kindOf 43).1 = 4 from rfl)] at hget
    refine va_last hx hb hK hR1 wsW_D hS1 43 3 hget rfl hin1 (by decide +kernel) (fun H2 locs2 hP2 _ hS2 => ?_)
    have hset : (wsW cA E.1 u.1 u.2.1 u.2.2 nx).set 43 (E.1 + 43, .inl (cA 4, (kindOf 43).2, .inr (.inl (vp_updL (u.2.1 43) 0 r.toInt64)))) = wsW cA E.1 u.1 (uN u.2.1 43 0 r.toInt64) u.2.2 nx := wsW_set (by rw [ceW_long (show (kindOf 43).1 = 4 from rfl), uN_eq]; rfl) (fun i hi => ceW_eq rfl (uN_ne hi) rfl)
    rw [hcl, hset] at hP2
    refine lv_goto (tgt := 19) hx hb (off := 7) (by decide +kernel) (by decide) ?_
    refine lv_iconst (n := 0) (v := 0) hx hb (by decide +kernel) (by decide) ?_
    exact W.iret (v := 0) hx hb hr (fun t2 ht2 hW => ⟨⟨some (.int 0), u.1, uN u.2.1 43 0 r.toInt64, u.2.2, nx + 1, rfl, ⟨rfl, hp⟩, by rw [ht2]; exact rel44 hn hP2⟩, hS2.F ht2⟩) hS2.2.2 (by decide +kernel)
end RUL
