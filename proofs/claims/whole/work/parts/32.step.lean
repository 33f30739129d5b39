/-! one instruction: the machine follows stepI -/
theorem ca_no217 : ∀ l ∈ callsL, ∀ e ∈ l, e.2 ≠ 217 := by decide +kernel
theorem ca_217 {own idx : Nat} (h : callOf own idx = some 217) : False := by
  have hm := lkN_mem h
  rw [List.getD_eq_getElem?_getD] at hm
  cases hg : callsL[own]? with
  | none => rw [hg] at hm; exact absurd hm List.not_mem_nil
  | some l => rw [hg] at hm; exact ca_no217 l (List.mem_of_getElem? hg) _ hm rfl
theorem oName_cl : ∀ (ci : Nat) (q : vw_C), vwCl[ci]? = some q → q.1 = oName ci := by
  intro ci q h
  match ci, h with
  | 0, h => cases h; rfl
  | 1, h => cases h; rfl
  | 2, h => cases h; rfl
  | 3, h => cases h; rfl
  | 4, h => cases h; rfl
  | 5, h => cases h; rfl
  | 6, h => cases h; rfl
  | 7, h => cases h; rfl
  | k + 8, h => simp [vwCl] at h
theorem mMaxL_le : ∀ q, mMaxL q ≤ 20 := by
  intro q
  unfold mMaxL
  rw [List.getD_eq_getElem?_getD]
  cases h : mMaxLs[q]? with
  | none => decide
  | some v =>
    have : ∀ v ∈ mMaxLs, v ≤ 20 := by decide +kernel
    exact this v (List.mem_of_getElem? h)
theorem cl_some {ci : Nat} (h : ci < 8) : ∃ q, vwCl[ci]? = some q := ⟨vwCl[ci], List.getElem?_eq_getElem (by simpa using h)⟩
theorem okO_cl {nx o ci : Nat} (h : okO nx o ci) : ∃ q, vwCl[ci]? = some q := by
  have h4 := kind_lt h.1 (by decide)
  have := kind_cl o h4 (by rw [h.1])
  rw [h.1] at this
  exact cl_some this
/-- what holds all through a body -/
def cxA (p : Program) (R : Room) (s : State) (m : MethodId) (args : Array Value) (meth : Method) (c : Code) (D : va_G) (cA : Nat → ClassId) (E : aE) (Ev : State → Heap → Prop) (G : aG) (j lim n0 d : Nat) : Prop :=
  p.tables.exec = Jvm.exec ∧ c.code = mCode j ∧ c.maxLocals = mMaxL j ∧ s.vm.findClass (oName (mOwn j)) = some m.cls ∧ (∀ w ∈ gtbl, w.before args s = true) ∧ (mKind j = 2 → meth.name = "<init>") ∧ Ev s s.heap ∧ evOK (aA E.1) Ev ∧ evHas D cA E Ev ∧ E.1 ≤ s.heap.size ∧ d + 1 ≤ R.frames ∧ 128 * (d + 1) ≤ R.locals ∧ lim - n0 ≤ R.cells ∧ 1068 * (lim - n0) ≤ R.slots ∧ (n0 ≤ 44 → s.heap.size = E.1 + n0) ∧ (j = 217 → va_X E.2.1 G.1 G.2 s s.heap ∧ E.2.1 < s.heap.size ∧ ¬ aA E.1 E.2.1)
section STP
variable {p : Program} {l : Launch} {e : Env} {R : Room} {s : State} {m : MethodId} {args : Array Value} {below : List Frame} {meth : Method} {c : Code} {D : va_G} {cA : Nat → ClassId} {E : aE} {Ev : State → Heap → Prop} {G : aG} {j lim n0 d : Nat} {Z : State → Prop}
/-- a callee's contract -/
def clA (l : Launch) (D : va_G) (cA : Nat → ClassId) (E : aE) (Ev : State → Heap → Prop) (d : Nat) (C : aC) : Prop := ∀ q as M N P nx Q, (q < 216 ∧ q ≠ 96) ∨ (217 < q ∧ q < 221) → C q as M N P nx Q → metA l D cA E Ev d q as M N P nx (fun r M' N' P' nx' => nx' = nx + mC q ∧ Q r M' N' P' nx')
theorem ev_at (hcx : cxA p R s m args meth c D cA E Ev G j lim n0 d) {H : Heap} {locs : List Loc} (hS : va_S (aA E.1) s.heap H locs) : Ev s H := by
  obtain ⟨-, -, -, -, -, -, h1, h2, -⟩ := hcx
  exact h2.2 s _ _ hS.1 hS.2.1 h1
theorem size_at (hcx : cxA p R s m args meth c D cA E Ev G j lim n0 d) {H : Heap} {locs : List Loc} (hS : va_S (aA E.1) s.heap H locs) {M : aM} {N : aN} {P : aP} {nx : Nat} (hR : relH D cA E.1 M N P nx H) (h0 : n0 ≤ nx) (hsz : H.size ≤ s.heap.size + (nx - n0)) : nx ≤ 44 → H.size = E.1 + nx := by
  intro h4
  obtain ⟨-, -, -, -, -, -, -, -, -, q, -, -, -, -, hz, -⟩ := id hcx
  have h1 := hz (by omega)
  have h2 : E.1 + nx ≤ H.size := by
    cases nx with
    | zero => exact Nat.le_trans q hS.1
    | succ k =>
      have := (hR k _ (wsW_get (by omega) (by omega))).lt
      show E.1 + (k + 1) ≤ H.size
      omega
  omega
theorem pre_at (hcx : cxA p R s m args meth c D cA E Ev G j lim n0 d) {H : Heap} {locs : List Loc} (hS : va_S (aA E.1) s.heap H locs) {as : List Value} {M : aM} {N : aN} {P : aP} {nx : Nat} (hR : relH D cA E.1 M N P nx H) (h0 : n0 ≤ nx) (hsz : H.size ≤ s.heap.size + (nx - n0)) : ∀ U : State, U.heap = H → s.WarmedH U.vm → pcA D cA E Ev as M N P nx (as.map (rv E)).toArray U := by
  intro U hU hW
  have hs := size_at hcx hS hR h0 hsz
  refine ⟨rfl, by rw [hU]; exact hR, by rw [hU]; exact hs, by rw [hU]; obtain ⟨-, -, -, -, -, -, -, -, -, q, -⟩ := id hcx; exact Nat.le_trans q hS.1, ?_⟩
  rw [hU]
  obtain ⟨-, -, -, -, -, -, h1, h2, -⟩ := id hcx
  exact h2.1 s U H hW (ev_at hcx hS)
theorem room_A {q : Nat} (hcx : cxA p R s m args meth c D cA E Ev G j lim n0 d) : (rmA d q).frames + 1 ≤ R.frames ∧ 8 + (mMaxL q + 11) + (rmA d q).locals ≤ R.locals := by
  obtain ⟨-, -, -, -, -, -, -, -, -, -, h1, h2, -⟩ := hcx
  refine ⟨h1, ?_⟩
  have := mMaxL_le q
  show 8 + (mMaxL q + 11) + 128 * d ≤ _
  omega
theorem goP_el {C : aC} {lim q : Nat} {K : List Value → aM → aN → aP → Nat → Prop} {st : List Value} {M : aM} {N : aN} {P : aP} {nx : Nat} (h : goP C lim q K st M N P nx) :
    ∃ as rest, st = as.reverse ++ rest ∧ as.length = mTake q ∧ catS rest ≤ 8 ∧ (mC q = 0 ∨ nx + mC q ≤ lim) ∧ C q as M N P nx (postP (mRet q) rest K) ∧ (st.take (mTake q)).reverse = as := by
  unfold goP at h
  cases hb : (Nat.ble (mTake q) st.length && Nat.ble (catS (st.drop (mTake q))) 8) with
  | false => rw [hb] at h; exact h.elim
  | true =>
    rw [hb] at h
    simp only [Bool.and_eq_true, Nat.ble_eq] at hb
    refine ⟨(st.take (mTake q)).reverse, st.drop (mTake q), by rw [List.reverse_reverse, List.take_append_drop], by rw [List.length_reverse, List.length_take]; omega, hb.2, ?_, ?_, rfl⟩
    · cases hc : mC q == 0 with
      | true => exact Or.inl (by simpa using hc)
      | false => rw [hc] at h; exact Or.inr h.1
    · cases hc : mC q == 0 with
      | true => rw [hc] at h; exact h
      | false => rw [hc] at h; exact h.2
/-- the call's end: the abstract machine goes on with what came -/
theorem am_back {q : Nat} {pc : Nat} {lv : aL} {ls : Array Slot} {rest : List Value} {st0 : List Value} {a : Array Value} {H : Heap} {locs : List Loc} {nx mc : Nat} {X : aX} (hX : ∀ t lv st M N P nx, X t lv st M N P nx → mpA p l e R s m args below meth c D cA E j lim n0 Z t lv st M N P nx)
    (hr : va_Run p l e R s m args below meth c H locs (nx - n0) (1068 * (nx - n0)) mc (1068 * mc) (F0 m pc ls st0) (rest.map (rv E)) (qcA D cA E (fun r M' N' P' nx' => nx' = nx + mc ∧ postP (mRet q) rest (fun st M N P nx => X (pc + 3) lv st M N P nx) r M' N' P' nx') a) (aA E.1)) (hS : va_S (aA E.1) s.heap H locs) (hl : lv_has ls (mMaxL j) (rl E lv)) (h0 : n0 ≤ nx) (h1 : nx + mc ≤ lim) : W p l e R s m args below meth c H locs (nx - n0) (1068 * (nx - n0)) Z (F0 m pc ls st0) := by
  refine am_call hr hS fun r M N P nx' H1 locs1 ⟨hn, hq⟩ hR hS1 => ?_
  subst hn
  rw [show nx - n0 + mc = nx + mc - n0 by omega, show 1068 * (nx - n0) + 1068 * mc = 1068 * (nx + mc - n0) by omega]
  cases hrt : mRet q with
  | none =>
    rw [hrt] at hq
    cases r with
    | none => exact hX _ _ _ _ _ _ _ hq H1 locs1 ls hR hS1 hl (by omega) h1
    | some v => exact False.elim (by cases v <;> exact hq)
  | some t =>
    rw [hrt] at hq
    cases r with
    | none => exact False.elim (by cases t <;> exact hq)
    | some v => cases t <;> cases v <;> first | exact False.elim hq | exact hX _ _ _ _ _ _ _ hq H1 locs1 ls hR hS1 hl (by omega) h1
theorem am_virt {C : aC} (hcx : cxA p R s m args meth c D cA E Ev G j lim n0 d) (hC : clA l D cA E Ev d C) {X : aX} (hX : ∀ t lv st M N P nx, X t lv st M N P nx → mpA p l e R s m args below meth c D cA E j lim n0 Z t lv st M N P nx) {q idx pc : Nat} {lv : aL} {st : List Value} {M : aM} {N : aN} {P : aP} {nx : Nat} (hca : callOf (mOwn j) idx = some q) (hq : q < 1000) (hk : mKind q = 0) (h96 : q ≠ 96)
    (h : callP C lim q (fun st M N P nx => X (pc + 3) lv st M N P nx) st M N P nx) (hd : decode (mCode j) pc = .ok (.invokevirtual idx, 3)) : mpA p l e R s m args below meth c D cA E j lim n0 Z pc lv st M N P nx := by
  intro H locs ls hR hS hl h0 hlim
  refine W_size fun hsz => ?_
  unfold callP at h
  rw [hk] at h
  have hT : mTake q = mArg q + 1 := by unfold mTake; rw [hk]; rfl
  have hq6 : q < 216 ∨ (217 < q ∧ q < 221) := by
    rcases ca_all hca with z | z | z | z | z | z
    · rcases (show q < 216 ∨ q = 216 ∨ q = 217 ∨ (217 < q ∧ q < 221) by omega) with y | y | y | y
      · exact Or.inl y
      · subst y; exact absurd hk (by decide)
      · subst y; exact (ca_217 hca).elim
      · exact Or.inr y
    · exact Or.inl z.1
    all_goals (exact absurd z.1 (by omega))
  have hM := mw_all q hq6
  have hlink : Cond.methodLink (oName (mOwn j)) idx (mName q) ∈ gtbl := by
    rcases ca_all hca with z | z | z | z | z | z
    · exact z.2
    · rw [hk] at z; exact absurd z.2.1 (by decide)
    all_goals (exact absurd z.1 (by omega))
  have h' : match (st.take (mTake q)).reverse with
    | .ref a :: _ => okO nx a (mOwn q) ∧ goP C lim q (fun st M N P nx => X (pc + 3) lv st M N P nx) st M N P nx
    | _ => False := h
  clear h
  split at h'
  case h_2 => exact h'.elim
  case h_1 o as' heq =>
  obtain ⟨hO, hgo⟩ := h'
  obtain ⟨as, rest, hst, hlen, hcat, hmc, hCq, has⟩ := goP_el hgo
  rw [heq] at has
  subst has
  have hmet := hC q _ _ _ _ _ _ (hq6.imp (fun z => ⟨z, h96⟩) id) hCq
  obtain ⟨hx, hb, hml, hown, hts, hin, hEv, hE1, hE2, hbs, hRf, hRl, hRc, hRs, hz0, -⟩ := id hcx
  obtain ⟨hcode, hcls, hini, hnm, hpl, hdesc, hk0, -⟩ := hM
  obtain ⟨him, hsel⟩ := hk0 hk
  obtain ⟨r, hr⟩ := okO_cl hO
  have hK := (hE2 s H (ev_at hcx hS)).1
  have hget := wsW_get (cA := cA) (bs := E.1) (M := M) (N := N) (P := P) hO.2 (kind_lt hO.1 (by decide))
  rw [ceW_obj hO.1] at hget
  have hstk : st.map (rv E) = (as'.map (rv E)).reverse ++ .ref (E.1 + o) :: rest.map (rv E) := by
    rw [hst]
    simp [rv]
  refine am_back (q := q) (a := (Value.ref (E.1 + o) :: as'.map (rv E)).toArray) (mc := mC q) (rest := rest) hX ?_ hS hl h0 (by rcases hmc with z | z <;> omega)
  refine va_runV (Ts := gtbl) (own := oName (mOwn j)) (C := oName (mOwn q)) (index := idx) (n := mArg q) (nL := mMaxL j) (As := as'.map (rv E)) (b := E.1 + o) ⟨hx, hb, hml, hown, hts⟩ hmet (cwV (mArg q) hts (good_A (fun w h => h) ?_) rfl rfl rfl ⟨hcls, by rw [hcls]; exact hnm.1, by rw [hcls]; exact hnm.2, hdesc⟩ (room_A hcx)) ⟨pcA_blind hE1, ?_, pre_at hcx hS hR h0 hsz⟩ rfl ?_ hl.1 hstk ?_ hd ⟨by rcases hmc with z | z <;> omega, by rcases hmc with z | z <;> omega⟩
  · intro w hw
    simp only [wsV, List.cons_append, List.nil_append, List.mem_cons] at hw
    rcases hw with rfl | rfl | rfl | rfl | hw
    · exact hlink
    · exact him
    · exact hsel
    · exact hini
    · exact wsA_in (mw_all q hq6) w hw
  · have := va_recv hK hR hr hget
    rw [oName_cl _ _ hr] at this
    exact this
  · rw [List.length_map]
    rw [List.length_cons] at hlen
    omega
  · exact lv_room (by rw [catS_eq]; exact hcat)
theorem am_stat {C : aC} (hcx : cxA p R s m args meth c D cA E Ev G j lim n0 d) (hC : clA l D cA E Ev d C) {X : aX} (hX : ∀ t lv st M N P nx, X t lv st M N P nx → mpA p l e R s m args below meth c D cA E j lim n0 Z t lv st M N P nx) {q idx pc : Nat} {lv : aL} {st : List Value} {M : aM} {N : aN} {P : aP} {nx : Nat} (hca : callOf (mOwn j) idx = some q) (hq : q < 1000) (hk : mKind q = 1) (h6 : q ≠ 216)
    (h : callP C lim q (fun st M N P nx => X (pc + 3) lv st M N P nx) st M N P nx) (hd : decode (mCode j) pc = .ok (.invokestatic idx, 3)) : mpA p l e R s m args below meth c D cA E j lim n0 Z pc lv st M N P nx := by
  intro H locs ls hR hS hl h0 hlim
  refine W_size fun hsz => ?_
  unfold callP at h
  rw [hk] at h
  have hT : mTake q = mArg q := by unfold mTake; rw [hk]; rfl
  have hq6 : q < 216 ∨ (217 < q ∧ q < 221) := by
    rcases ca_all hca with z | z | z | z | z | z
    · rcases (show q < 216 ∨ q = 216 ∨ q = 217 ∨ (217 < q ∧ q < 221) by omega) with y | y | y | y
      · exact Or.inl y
      · exact absurd y h6
      · subst y; exact (ca_217 hca).elim
      · exact Or.inr y
    · exact Or.inl z.1
    all_goals (exact absurd z.1 (by omega))
  have hM := mw_all q hq6
  have hlink : Cond.methodLink (oName (mOwn j)) idx (mName q) ∈ gtbl := by
    rcases ca_all hca with z | z | z | z | z | z
    · exact z.2
    · rw [hk] at z; exact absurd z.2.1 (by decide)
    all_goals (exact absurd z.1 (by omega))
  have hgo : goP C lim q (fun st M N P nx => X (pc + 3) lv st M N P nx) st M N P nx := h
  obtain ⟨as, rest, hst, hlen, hcat, hmc, hCq, -⟩ := goP_el hgo
  have hmet := hC q _ _ _ _ _ _ (hq6.imp (fun z => ⟨z, fun y => by subst y; exact absurd hk (by decide)⟩) id) hCq
  obtain ⟨hx, hb, hml, hown, hts, hin, hEv, hE1, hE2, hbs, hRf, hRl, hRc, hRs, hz0, -⟩ := id hcx
  obtain ⟨hcode, hcls, hini, hnm, hpl, hdesc, -, hk1, -⟩ := hM
  have hstt := hk1 hk
  have hstk : st.map (rv E) = (as.map (rv E)).reverse ++ rest.map (rv E) := by
    rw [hst]
    simp
  refine am_back (q := q) (a := (as.map (rv E)).toArray) (mc := mC q) (rest := rest) hX ?_ hS hl h0 (by rcases hmc with z | z <;> omega)
  refine va_runS (Ts := gtbl) (own := oName (mOwn j)) (index := idx) (n := mArg q) (nL := mMaxL j) (As := as.map (rv E)) ⟨hx, hb, hml, hown, hts⟩ hmet (va_cwS (mArg q) hts (good_A (fun w h => h) ?_) rfl rfl rfl ⟨by rw [hcls]; exact hnm.1, by rw [hcls]; exact hnm.2, hdesc⟩ (room_A hcx)) ⟨pcA_blind hE1, pre_at hcx hS hR h0 hsz⟩ rfl ?_ hl.1 hstk ?_ hd ⟨by rcases hmc with z | z <;> omega, by rcases hmc with z | z <;> omega⟩
  · intro w hw
    simp only [va_wsS, List.cons_append, List.nil_append, List.mem_cons] at hw
    rcases hw with rfl | rfl | rfl | hw
    · exact hlink
    · exact hstt
    · rw [hcls]; exact hini
    · exact wsA_in (mw_all q hq6) w hw
  · rw [List.length_map]
    omega
  · exact lv_room (by rw [catS_eq]; exact hcat)
theorem am_spec {C : aC} (hcx : cxA p R s m args meth c D cA E Ev G j lim n0 d) (hC : clA l D cA E Ev d C) {X : aX} (hX : ∀ t lv st M N P nx, X t lv st M N P nx → mpA p l e R s m args below meth c D cA E j lim n0 Z t lv st M N P nx) {q idx pc : Nat} {lv : aL} {st : List Value} {M : aM} {N : aN} {P : aP} {nx : Nat} (hca : callOf (mOwn j) idx = some q) (hq : q < 1000) (hk : mKind q = 2)
    (h : callP C lim q (fun st M N P nx => X (pc + 3) lv st M N P nx) st M N P nx) (hd : decode (mCode j) pc = .ok (.invokespecial idx, 3)) : mpA p l e R s m args below meth c D cA E j lim n0 Z pc lv st M N P nx := by
  intro H locs ls hR hS hl h0 hlim
  refine W_size fun hsz => ?_
  unfold callP at h
  rw [hk] at h
  have hT : mTake q = mArg q + 1 := by unfold mTake; rw [hk]; rfl
  have hq6 : q < 216 ∨ (217 < q ∧ q < 221) := by
    rcases ca_all hca with z | z | z | z | z | z
    · rcases (show q < 216 ∨ q = 216 ∨ q = 217 ∨ (217 < q ∧ q < 221) by omega) with y | y | y | y
      · exact Or.inl y
      · subst y; exact absurd hk (by decide)
      · subst y; exact (ca_217 hca).elim
      · exact Or.inr y
    · exact Or.inl z.1
    all_goals (exact absurd z.1 (by omega))
  have hM := mw_all q hq6
  have h' : match (st.take (mTake q)).reverse with
    | .ref a :: _ => okO nx a (mOwn q) ∧ goP C lim q (fun st M N P nx => X (pc + 3) lv st M N P nx) st M N P nx
    | _ => False := h
  clear h
  split at h'
  case h_2 => exact h'.elim
  case h_1 o as' heq =>
  obtain ⟨hO, hgo⟩ := h'
  obtain ⟨as, rest, hst, hlen, hcat, hmc, hCq, has⟩ := goP_el hgo
  rw [heq] at has
  subst has
  have hmet := hC q _ _ _ _ _ _ (hq6.imp (fun z => ⟨z, fun y => by subst y; exact absurd hk (by decide)⟩) id) hCq
  obtain ⟨hx, hb, hml, hown, hts, hin, hEv, hE1, hE2, hbs, hRf, hRl, hRc, hRs, hz0, -⟩ := id hcx
  obtain ⟨hcode, hcls, hini, hnm, hpl, hdesc, -, -, hk2, -⟩ := hM
  obtain ⟨him, hname⟩ := hk2 hk
  have hret : mRet q = none := by
    have : ∀ q, q < 221 → mKind q = 2 → mRet q = none := by decide +kernel
    exact this q (by omega) hk
  have hstk : st.map (rv E) = (as'.map (rv E)).reverse ++ .ref (E.1 + o) :: rest.map (rv E) := by
    rw [hst]
    simp [rv]
  have hlen' : (as'.map (rv E)).length = mArg q := by
    rw [List.length_map]
    rw [List.length_cons] at hlen
    omega
  refine am_back (q := q) (a := (Value.ref (E.1 + o) :: as'.map (rv E)).toArray) (mc := mC q) (rest := rest) hX ?_ hS hl h0 (by rcases hmc with z | z <;> omega)
  have hf : nx - n0 + mC q ≤ R.cells ∧ 1068 * (nx - n0) + 1068 * mC q ≤ R.slots := ⟨by rcases hmc with z | z <;> omega, by rcases hmc with z | z <;> omega⟩
  have hw : wsA q = Cond.code (mName q) (mCode q) (mMaxL q) none :: gtbl := by unfold wsA; rw [hret]
  have hG : GoodIn gtbl (wsA q) := good_A (fun w h => h) (wsA_in (mw_all q hq6))
  have hini' : (Cond.initialized (mName q).cls).before args s = true := by rw [hcls]; exact hts _ hini
  rcases ca_all hca with z | z | z | z | z | z
  · exact va_runI (Ts := gtbl) (own := oName (mOwn j)) (index := idx) (n := mArg q) (nL := mMaxL j) (As := as'.map (rv E)) (b := E.1 + o) ⟨hx, hb, hml, hown, hts⟩ hmet (cwI (mArg q) hts hG hw rfl rfl hini' (hts _ z.2) (hts _ him) hname ⟨by rw [hcls]; exact hnm.1, by rw [hcls]; exact hnm.2, hdesc⟩ (room_A hcx)) ⟨pcA_blind hE1, pre_at hcx hS hR h0 hsz⟩ rfl hlen' hl.1 hstk (lv_room (by rw [catS_eq]; exact hcat)) hd hf
  · exact va_runIN (Ts := gtbl) (own := oName (mOwn j)) (index := idx) (n := mArg q) (nL := mMaxL j) (host := "RenvoiDesk") (As := as'.map (rv E)) (b := E.1 + o) ⟨hx, hb, hml, hown, hts⟩ hmet ⟨va_cnB (mArg q) hts hG hw rfl rfl ((hE2 s H (ev_at hcx hS)).2.1 _ z.2.2) hini' ⟨by rw [hcls]; exact hnm.1, by rw [hcls]; exact hnm.2, hdesc⟩ (room_A hcx), hname, hts _ him⟩ ⟨pcA_blind hE1, pre_at hcx hS hR h0 hsz⟩ rfl hlen' hl.1 hstk (lv_room (by rw [catS_eq]; exact hcat)) hd hf
  all_goals (exact absurd z.1 (by omega))
end STP
