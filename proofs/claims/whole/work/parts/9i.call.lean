/-! the law's call of its own rule -/
set_option maxRecDepth 4000 in
theorem le_216 {d L : Nat} (h : 128 * (d + 3) ≤ L) : 8 + (6 + 11) + 128 * (d + 2) ≤ L := by omega
section CAL
variable {p : Program} {l : Launch} {e : Env} {R : Room} {s : State} {m : MethodId} {args : Array Value} {below : List Frame} {meth : Method} {c : Code} {D : va_G} {cA : Nat → ClassId} {E : aE} {Ev : State → Heap → Prop} {G : aG} {lim n0 d d0 k0 : Nat} {Z : State → Prop}
theorem am_216 (hcx : cxA p R s m args meth c D cA E Ev G 217 lim n0 d) (hst : l.stackTraces = false) (hXe : ∀ U H, Ev U H → xEv E U H) (hC : clA l D cA E Ev d0 (aSem k0)) (h6 : 6 ≤ d0) (hRf : d0 + 3 ≤ R.frames) (hRl : 128 * (d0 + 3) ≤ R.locals)
    (X : aX) (hX : ∀ t lv st M N P nx, X t lv st M N P nx → mpA p l e R s m args below meth c D cA E 217 lim n0 Z t lv st M N P nx) (n pc : Nat) (lv : aL) (st : List Value) (M : aM) (N : aN) (P : aP) (nx : Nat) (hca : callOf (mOwn 217) n = some 216)
    (h : callP (aSem (k0 + 1)) lim 216 (fun st M N P nx => X (pc + 3) lv st M N P nx) st M N P nx) (hd : decode (mCode 217) pc = .ok (.invokestatic n, 3)) : mpA p l e R s m args below meth c D cA E 217 lim n0 Z pc lv st M N P nx := by
  intro H locs ls hR hS hl h0 hlim
  refine W_size fun hsz => ?_
  have hgo : goP (aSem (k0 + 1)) lim 216 (fun st M N P nx => X (pc + 3) lv st M N P nx) st M N P nx := h
  obtain ⟨as, rest, hst2, hlen, hcat, hmc, hCq, -⟩ := goP_el hgo
  have hC2 : semQ (aSem k0) 216 as M N P nx (postP (mRet 216) rest (fun st M N P nx => X (pc + 3) lv st M N P nx)) := hCq
  have h3 : match (generalizing := false) as with
    | [.ref 0, .int x, .int y, .int z, .ref 43] => 44 ≤ nx ∧ WP (aSem k0) (0, fun _ => 0) 96 nx (fun r M' N' P' nx' => match r with
      | some (.int v) => postP (mRet 216) rest (fun st M N P nx => X (pc + 3) lv st M N P nx) (some (.int 0)) M' (uN N' 43 0 v.toInt64) P' (nx + 1)
      | none => postP (mRet 216) rest (fun st M N P nx => X (pc + 3) lv st M N P nx) (some (.int 1)) M' N' P' (nx + 1)
      | _ => False) 0 (lv_args 0 [.ref 0, .int x, .int y, .int z]) [] M N P nx
    | _ => False := hC2
  split at h3
  case h_2 => exact h3.elim
  case h_1 x y z =>
  obtain ⟨h44, hwp⟩ := h3
  have hlink : Cond.methodLink (oName (mOwn 217)) n (mName 216) ∈ gtbl := by
    rcases ca_all hca with z | z | z | z | z | z
    · exact z.2
    · exact absurd z.2.1 (by decide)
    all_goals (exact absurd z.1 (by omega))
  obtain ⟨hx, hb, hml, hown, hts, hin, hEv, hE1, hE2, hbs, -, -, hRc, hRs, hz0, -⟩ := id hcx
  have hm1 : nx + 1 ≤ lim := by
    rcases hmc with z | z
    · exact absurd z (by decide)
    · exact z
  have hstk : st.map (rv E) = (([.ref 0, .int x, .int y, .int z, .ref 43] : List Value).map (rv E)).reverse ++ rest.map (rv E) := by
    rw [hst2]
    simp
  refine am_back (q := 216) (a := (([.ref 0, .int x, .int y, .int z, .ref 43] : List Value).map (rv E)).toArray) (mc := 1) (rest := rest) hX ?_ hS hl h0 hm1
  have hmet := c_216 hst hE1 hE2 hXe hC h6 h44 hwp
  have hpre : PreS s H (pcA D cA E Ev [.ref 0, .int x, .int y, .int z, .ref 43] M N P nx) (([.ref 0, .int x, .int y, .int z, .ref 43] : List Value).map (rv E)) := ⟨pcA_blind hE1, pre_at hcx hS hR h0 hsz⟩
  have hcw : vx_CSW R s args (oName (mOwn 217)) n (mName 216) (mCode 216) 6 (some .int) [(0, 12, 15, 13)] ws216 (rmX (d0 + 2)) 1 1068 5 := by
    have hR2 : 8 + (6 + 11) + (rmX (d0 + 2)).locals ≤ R.locals := le_216 hRl
    refine vx_cwSW 5 hts (good_A (fun w h => h) ?_) rfl rfl rfl (by decide +kernel) ⟨show d0 + 2 + 1 ≤ R.frames by omega, hR2⟩
    intro w hw
    simp only [va_wsS, List.cons_append, List.nil_append, List.mem_cons] at hw
    rcases hw with rfl | rfl | rfl | hw
    · exact hlink
    · exact tb4 103 rfl rfl
    · exact tb1 0 rfl rfl
    · rcases List.mem_cons.mp hw with hw | hw
      · rw [hw]; exact tb4 104 rfl rfl
      · exact hw
  have h5 : (([.ref 0, .int x, .int y, .int z, .ref 43] : List Value).map (rv E)).length = 5 := by simp
  have hroom : 2 * (F0 m pc ls (st.map (rv E))).monitorRoom + ((rest.map (rv E)).map fun v => v.category).sum ≤ 8 := lv_room (by rw [catS_eq]; exact hcat)
  have hf : nx - n0 + 1 ≤ R.cells ∧ 1068 * (nx - n0) + 1068 ≤ R.slots := ⟨by omega, by omega⟩
  exact vx_runSW (Ts := gtbl) (nL := mMaxL 217) (cc := mCode 217) ⟨hx, hb, hml, hown, hts⟩ hmet hcw hpre rfl h5 hl.1 hstk hroom hd hf
end CAL
