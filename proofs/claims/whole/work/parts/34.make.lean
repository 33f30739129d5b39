/-! new cells, library calls, and all instructions together -/
theorem def_fv {bs : Nat} {ty : FieldType} {M : aM} {N : aN} {P : aP} {k i : Nat} (h : tyOK ty = true) : defaultValue ty = fvW bs ty (zM M k) (zN N k) (zP P k) k i := by
  have e1 : zM M k k i = 0 := by unfold zM; rw [up_eq]
  have e2 : zN N k k i = 0 := by unfold zN; rw [up_eq]
  have e3 : zP P k k i = none := by unfold zP; rw [up_eq]
  cases ty <;> first | (exact absurd h (by decide)) | skip
  case int => show Value.int 0 = Value.int _; rw [e1]
  case long => show Value.long 0 = Value.long _; rw [e2]
  all_goals (show Value.null = match zP P k k i with | none => Value.null | some a => .ref (bs + a); rw [e3])
section MAK
variable {p : Program} {l : Launch} {e : Env} {R : Room} {s : State} {m : MethodId} {args : Array Value} {below : List Frame} {meth : Method} {c : Code} {D : va_G} {cA : Nat → ClassId} {E : aE} {Ev : State → Heap → Prop} {G : aG} {j lim n0 d : Nat} {Z : State → Prop}
theorem am_new (hcx : cxA p R s m args meth c D cA E Ev G j lim n0 d) {C : aC} {Q : aQ} {X : aX} (hX : ∀ t lv st M N P nx, X t lv st M N P nx → mpA p l e R s m args below meth c D cA E j lim n0 Z t lv st M N P nx) {pc len : Nat} {lv : aL} {st : List Value} {M : aM} {N : aN} {P : aP} {nx : Nat} {n : Nat} (hd : decode (mCode j) pc = .ok (.new n, len)) (hlen : okLen (.new n) len = true) (hth : j = 96 → catS st ≤ 8 → Q none M N P nx → mpA p l e R s m args below meth c D cA E j lim n0 Z pc lv st M N P nx) (h : stepI C G j lim Q X pc len (.new n) lv st M N P nx) : mpA p l e R s m args below meth c D cA E j lim n0 Z pc lv st M N P nx := by
  intro H locs ls hR hS hl h0 hlim
  refine W_size fun hsz => ?_
  obtain ⟨hx, hb, hml, hown, hts, hin, hEv, hE1, hE2, hbs, hRf, hRl, hRc, hRs, hz0, hG⟩ := id hcx
  have hlen2 : len = 3 := by simpa [okLen] using hlen
  subst hlen2
  unfold stepI at h
  dsimp only at h
  cases hj : j == 96 with
  | true =>
    rw [hj] at h
    have h2 : bif Nat.ble (catS st) 8 then Q none M N P nx else False := h
    cases hc : Nat.ble (catS st) 8 with
    | false => rw [hc] at h2; exact h2.elim
    | true =>
    rw [hc] at h2
    exact hth (by simpa using hj) (by simpa using hc) h2 H locs ls hR hS hl h0 hlim
  | false =>
  rw [hj] at h
  have h' : match newOf (mOwn j) n with
    | some ci => kindOf nx = (0, ci) ∧ nx + 1 ≤ lim ∧ X (pc + 3) lv (.ref nx :: st) (zM M nx) (zN N nx) (zP P nx) (nx + 1)
    | none => False := h
  clear h
  split at h'
  case h_2 => exact h'.elim
  case h_1 ci hn =>
  obtain ⟨k1, k2, h⟩ := h'
  have h44 := kind_lt k1 (by decide)
  have hs := size_at hcx hS hR h0 hsz (by omega)
  obtain ⟨q, hq, hlink⟩ := na_all hn
  obtain ⟨c1, c2, c3, c4, c5, c6⟩ := cx_all ci q hq
  have hci8 : ci < 8 := by have := (List.getElem?_eq_some_iff.mp hq).1; simpa using this
  have hK := (hE2 s H (ev_at hcx hS)).1
  have hKn := hK.1 ci q hq
  have hN : q.2.2 ≤ 1068 := by rw [← nF_eq hq]; have : ∀ ci, ci < 8 → nF ci ≤ 1068 := by decide +kernel
                               exact this ci hci8
  refine W.newcK hx hb hown (hts _ hlink) (hts _ c4) (hts _ c5) rfl hd (by omega) (by omega) hKn.2.1 (h := E.1 + nx) hs (fun H1 kC hkC e1 z1 o1 => ?_)
  refine W.widen (k := nx + 1 - n0) (n := 1068 * (nx + 1 - n0)) (by omega) (by omega) ?_
  have hk : ∀ (k : Nat) (x : Nat × va_E), (wsW cA E.1 M N P nx)[k]? = some x → H1[x.1]? = H[x.1]? := fun k x hx => o1 x.1 (by rw [← hs]; exact (hR k x hx).lt)
  have hP1 : relH D cA E.1 (zM M nx) (zN N nx) (zP P nx) (nx + 1) H1 := by
    unfold relH
    rw [← wsW_push (M := M) (N := N) (P := P) (e := .inr (ci, fsW E.1 ci (zM M nx) (zN N nx) (zP P nx) nx)) h44 (ceW_obj k1).symm (fun i hi => ceW_eq (up_ne (by omega)) (up_ne (by omega)) (up_ne (by omega)))]
    refine (hR.kept hk).app (fun k x hx => ?_)
    have hz : k < 1 := (List.getElem?_eq_some_iff.mp hx).1
    rw [show k = 0 by omega] at hx
    cases hx
    refine ⟨q, hq, (u_born (cTy ci) hts c1 hKn hkC e1 c2).to (fun i hi => ?_)⟩
    show defaultValue (cTy ci i) = (fsW E.1 ci (zM M nx) (zN N nx) (zP P nx) nx).getD i .null
    rw [List.getD_eq_getElem?_getD, fsW_get (by rw [nF_eq hq]; exact hi)]
    exact def_fv (ty_all ci hci8 i (by rw [nF_eq hq]; exact hi))
  have hS1 : va_S (aA E.1) s.heap H1 locs := ⟨Nat.le_trans hS.1 (by omega), fun x h1 h2 => (o1 x (by have := hS.1; omega)).trans (hS.2.1 x h1 h2), hS.2.2⟩
  exact hX _ _ _ _ _ _ _ h H1 locs ls hP1 hS1 hl (by omega) k2
theorem am_newarray (hcx : cxA p R s m args meth c D cA E Ev G j lim n0 d) {C : aC} {Q : aQ} {X : aX} (hX : ∀ t lv st M N P nx, X t lv st M N P nx → mpA p l e R s m args below meth c D cA E j lim n0 Z t lv st M N P nx) {pc len : Nat} {lv : aL} {st : List Value} {M : aM} {N : aN} {P : aP} {nx : Nat} {at_ : ArrayType} (hd : decode (mCode j) pc = .ok (.newarray at_, len)) (hlen : okLen (.newarray at_) len = true) (h : stepI C G j lim Q X pc len (.newarray at_) lv st M N P nx) : mpA p l e R s m args below meth c D cA E j lim n0 Z pc lv st M N P nx := by
  intro H locs ls hR hS hl h0 hlim
  refine W_size fun hsz => ?_
  obtain ⟨hx, hb, hml, hown, hts, hin, hEv, hE1, hE2, hbs, hRf, hRl, hRc, hRs, hz0, hG⟩ := id hcx
  have hlen2 : len = 2 := by simpa [okLen] using hlen
  subst hlen2
  unfold stepI s1i at h
  dsimp only at h
  split at h
  case h_2 => exact h.elim
  case h_1 n r =>
  obtain ⟨k1, k0, k2, h⟩ := h
  have h9 : aKind at_ ≠ 9 := by cases at_ <;> decide
  have h44 := kind_lt' k1 h9
  have hs := size_at hcx hS hR h0 hsz (by omega)
  have hN := kind_sz nx h44
  have hK := (hE2 s H (ev_at hcx hS)).1
  have hcl : n.toNatClampNeg = (kindOf nx).2 := by rw [k0]; exact nI_clamp (by omega)
  have hn0 : ¬ n < 0 := by rw [k0]; exact nI_pos (by omega)
  have key : ∀ (H1 : Heap) (e2 : va_E), e2 = ceW cA E.1 (zM M nx) (zN N nx) (zP P nx) nx → va_at D vwCl (E.1 + nx, e2) H1 → H1.size = E.1 + nx + 1 → (∀ q, q < E.1 + nx → H1[q]? = H[q]?) → W p l e R s m args below meth c H1 locs (nx - n0 + 1) (1068 * (nx - n0) + (kindOf nx).2) Z (F0 m (pc + 2) ls (.ref (E.1 + nx) :: r.map (rv E))) := by
    intro H1 e2 he2 hat z1 o1
    refine W.widen (k := nx + 1 - n0) (n := 1068 * (nx + 1 - n0)) (by omega) (by omega) ?_
    have hk : ∀ (k : Nat) (x : Nat × va_E), (wsW cA E.1 M N P nx)[k]? = some x → H1[x.1]? = H[x.1]? := fun k x hx => o1 x.1 (by rw [← hs]; exact (hR k x hx).lt)
    have hP1 : relH D cA E.1 (zM M nx) (zN N nx) (zP P nx) (nx + 1) H1 := by
      unfold relH
      rw [← wsW_push (M := M) (N := N) (P := P) h44 he2 (fun i hi => ceW_eq (up_ne (by omega)) (up_ne (by omega)) (up_ne (by omega)))]
      refine (hR.kept hk).app (fun k x hx => ?_)
      have hz : k < 1 := (List.getElem?_eq_some_iff.mp hx).1
      rw [show k = 0 by omega] at hx
      cases hx
      exact hat
    have hS1 : va_S (aA E.1) s.heap H1 locs := ⟨Nat.le_trans hS.1 (by omega), fun x h1 h2 => (o1 x (by have := hS.1; omega)).trans (hS.2.1 x h1 h2), hS.2.2⟩
    exact hX _ _ _ _ _ _ _ h H1 locs ls hP1 hS1 hl (by omega) k2
  have z1 : zM M nx nx = fun _ => 0 := up_eq
  have z2 : zN N nx nx = fun _ => 0 := up_eq
  cases at_ <;> first | (exact absurd h44 (by have h7 := kind_lt' (a := nx) (t := 7) k1 (by decide); have : ∀ a, a < 44 → (kindOf a).1 ≠ 7 := by decide +kernel
                                              exact absurd k1 (this nx h7))) | skip
  case int =>
    refine va_newaK (atype := .int) hx hb (hts _ lb_int) rfl hd rfl hn0 hcl (by show _ * 4 ≤ _; omega) (by omega) (by omega) (h := E.1 + nx) hs (fun H1 cB e1 z3 o1 hAr hNm => ?_)
    have hc : cB = cA 1 := Option.some.inj (hNm.symm.trans (hK.2 0 _ rfl).2)
    refine key H1 (.inl (cA 1, (kindOf nx).2, .inl (fun _ => 0))) (by rw [ceW_row k1 (by decide) (by decide), z1]; rfl) ?_ z3 o1
    rw [hc] at e1
    exact e1
  case byte =>
    refine va_newaK (atype := .byte) hx hb (hts _ lb_byte) rfl hd rfl hn0 hcl (by show _ * 1 ≤ _; omega) (by omega) (by omega) (h := E.1 + nx) hs (fun H1 cB e1 z3 o1 hAr hNm => ?_)
    have hc : cB = cA 2 := Option.some.inj (hNm.symm.trans (hK.2 1 _ rfl).2)
    refine key H1 (.inl (cA 2, (kindOf nx).2, .inl (fun _ => 0))) (by rw [ceW_row k1 (by decide) (by decide), z1]; rfl) ?_ z3 o1
    rw [hc] at e1
    exact e1
  case boolean =>
    refine va_newaK (atype := .boolean) hx hb (hts _ lb_boolean) rfl hd rfl hn0 hcl (by show _ * 1 ≤ _; omega) (by omega) (by omega) (h := E.1 + nx) hs (fun H1 cB e1 z3 o1 hAr hNm => ?_)
    have hc : cB = cA 3 := Option.some.inj (hNm.symm.trans (hK.2 2 _ rfl).2)
    refine key H1 (.inl (cA 3, (kindOf nx).2, .inl (fun _ => 0))) (by rw [ceW_row k1 (by decide) (by decide), z1]; rfl) ?_ z3 o1
    rw [hc] at e1
    exact e1
  case long =>
    refine va_newaK (atype := .long) hx hb (hts _ lb_long) rfl hd rfl hn0 hcl (by show _ * 8 ≤ _; omega) (by omega) (by omega) (h := E.1 + nx) hs (fun H1 cB e1 z3 o1 hAr hNm => ?_)
    have hc : cB = cA 4 := Option.some.inj (hNm.symm.trans (hK.2 3 _ rfl).2)
    refine key H1 (.inl (cA 4, (kindOf nx).2, .inr (.inl (fun _ => 0)))) (by rw [ceW_long k1, z2]) ?_ z3 o1
    rw [hc] at e1
    exact e1
theorem am_invokespecial (hcx : cxA p R s m args meth c D cA E Ev G j lim n0 d) {C : aC} (hC : clA l D cA E Ev d C) {Q : aQ} {X : aX} (hX : ∀ t lv st M N P nx, X t lv st M N P nx → mpA p l e R s m args below meth c D cA E j lim n0 Z t lv st M N P nx) {pc len : Nat} {lv : aL} {st : List Value} {M : aM} {N : aN} {P : aP} {nx : Nat} {n : Nat} (hd : decode (mCode j) pc = .ok (.invokespecial n, len)) (hlen : okLen (.invokespecial n) len = true) (h : stepI C G j lim Q X pc len (.invokespecial n) lv st M N P nx) : mpA p l e R s m args below meth c D cA E j lim n0 Z pc lv st M N P nx := by
  have hlen2 : len = 3 := by simpa [okLen] using hlen
  subst hlen2
  unfold stepI at h
  dsimp only at h
  split at h
  case h_2 => exact h.elim
  case h_1 q hq =>
  cases h1 : q == 1000 with
  | true =>
    rw [h1] at h
    have hq1 : q = 1000 := by simpa using h1
    subst hq1
    intro H locs ls hR hS hl h0 hlim
    obtain ⟨hx, hb, hml, hown, hts, hin, hEv, hE1, hE2, hbs, hRf, hRl, hRc, hRs, hz0, hG⟩ := id hcx
    have h' : s1r st fun _ r => bif Nat.ble (catS r) 8 then X (pc + 3) lv r M N P nx else False := h
    clear h
    unfold s1r at h'
    split at h'
    case h_2 => exact h'.elim
    case h_1 a r =>
    cases hc : Nat.ble (catS r) 8 with
    | false => rw [hc] at h'; exact h'.elim
    | true =>
      rw [hc] at h'
      have hc' : catS r ≤ 8 := by simpa using hc
      have hlk : Cond.methodLink (oName (mOwn j)) n objectInit ∈ gtbl := by
        rcases ca_all hq with z | z | z | z | z | z
        · exact absurd z.1 (by decide)
        · exact absurd z.1 (by decide)
        · exact z.2
        all_goals (exact absurd z.1 (by decide))
      exact W.objInit hx hb hown (hts _ hlk) (hts _ lb_obj.1) (hts _ lb_obj.2) rfl (by rw [hml]; exact hl.1) rfl hd (by omega) (by rw [catS_eq]; show 2 * 0 + _ + _ ≤ _; omega) (hX _ _ _ _ _ _ _ h' H locs ls hR hS hl h0 hlim)
  | false =>
    rw [h1] at h
    have h' : bif Nat.blt q 1000 && mKind q == 2 then callP C lim q (fun st M N P nx => X (pc + 3) lv st M N P nx) st M N P nx else False := h
    cases h2 : (Nat.blt q 1000 && mKind q == 2) with
    | false => rw [h2] at h'; exact h'.elim
    | true =>
      rw [h2] at h'
      simp only [Bool.and_eq_true, Nat.blt_eq, beq_iff_eq] at h2
      exact am_spec hcx hC hX hq h2.1 h2.2 h' hd
theorem am_invokevirtual (hcx : cxA p R s m args meth c D cA E Ev G j lim n0 d) {C : aC} (hC : clA l D cA E Ev d C) {Q : aQ} {X : aX} (hX : ∀ t lv st M N P nx, X t lv st M N P nx → mpA p l e R s m args below meth c D cA E j lim n0 Z t lv st M N P nx) {pc len : Nat} {lv : aL} {st : List Value} {M : aM} {N : aN} {P : aP} {nx : Nat} {n : Nat} (hd : decode (mCode j) pc = .ok (.invokevirtual n, len)) (hlen : okLen (.invokevirtual n) len = true) (h : stepI C G j lim Q X pc len (.invokevirtual n) lv st M N P nx) : mpA p l e R s m args below meth c D cA E j lim n0 Z pc lv st M N P nx := by
  have hlen2 : len = 3 := by simpa [okLen] using hlen
  subst hlen2
  unfold stepI at h
  dsimp only at h
  split at h
  case h_2 => exact h.elim
  case h_1 q hq =>
  cases h2 : (Nat.blt q 1000 && (mKind q == 0 && !(q == 96))) with
  | false => rw [h2] at h; exact h.elim
  | true =>
    rw [h2] at h
    simp only [Bool.and_eq_true, Nat.blt_eq, beq_iff_eq, Bool.not_eq_true', beq_eq_false_iff_ne] at h2
    exact am_virt hcx hC hX hq h2.1 h2.2.1 h2.2.2 h hd
theorem am_invokestatic (hcx : cxA p R s m args meth c D cA E Ev G j lim n0 d) {C : aC} (hC : clA l D cA E Ev d C) {Q : aQ} {X : aX} (hX : ∀ t lv st M N P nx, X t lv st M N P nx → mpA p l e R s m args below meth c D cA E j lim n0 Z t lv st M N P nx) {pc len : Nat} {lv : aL} {st : List Value} {M : aM} {N : aN} {P : aP} {nx : Nat} {n : Nat} (hd : decode (mCode j) pc = .ok (.invokestatic n, len)) (hlen : okLen (.invokestatic n) len = true)
    (h216 : callOf (mOwn j) n = some 216 → callP C lim 216 (fun st M N P nx => X (pc + 3) lv st M N P nx) st M N P nx → decode (mCode j) pc = .ok (.invokestatic n, 3) → mpA p l e R s m args below meth c D cA E j lim n0 Z pc lv st M N P nx)
    (h : stepI C G j lim Q X pc len (.invokestatic n) lv st M N P nx) : mpA p l e R s m args below meth c D cA E j lim n0 Z pc lv st M N P nx := by
  have hlen2 : len = 3 := by simpa [okLen] using hlen
  subst hlen2
  unfold stepI at h
  dsimp only at h
  split at h
  case h_2 => exact h.elim
  case h_1 q hq =>
  obtain ⟨hx, hb, hml, hown, hts, hin, hEv, hE1, hE2, hbs, hRf, hRl, hRc, hRs, hz0, hG⟩ := id hcx
  cases h1 : q == 1001 with
  | true =>
    rw [h1] at h
    have hq1 : q = 1001 := by simpa using h1
    subst hq1
    have h' : s2i st fun x y r => bif Nat.ble (catS r) 8 then X (pc + 3) lv (.int (if x < y then y else x) :: r) M N P nx else False := h
    intro H locs ls hR hS hl h0 hlim
    unfold s2i at h'
    split at h'
    case h_2 => exact h'.elim
    case h_1 y x r =>
    cases hc : Nat.ble (catS r) 8 with
    | false => rw [hc] at h'; exact h'.elim
    | true =>
      rw [hc] at h'
      have hc' : catS r ≤ 8 := by simpa using hc
      have hlk : Cond.methodLink (oName (mOwn j)) n Lib.Math.max.name ∈ gtbl := by
        rcases ca_all hq with z | z | z | z | z | z
        case inr.inr.inr.inl => exact z.2
        all_goals (exact absurd z.1 (by decide))
      exact va_mmax hx hb (by rw [hml]; exact hl.1.symm) hown (hts _ hlk) (hts _ lb_max.1) (hts _ lb_max.2.1) (hts _ lb_max.2.2) (by omega) (by rw [catS_eq]; omega) (by omega) (by omega) hd (hX _ _ _ _ _ _ _ h' H locs ls hR hS hl h0 hlim)
  | false =>
  rw [h1] at h
  cases h2 : q == 1002 with
  | true =>
    rw [h2] at h
    have hq1 : q = 1002 := by simpa using h2
    subst hq1
    have h' : s2i st fun x y r => bif Nat.ble (catS r) 8 then X (pc + 3) lv (.int (if y < x then y else x) :: r) M N P nx else False := h
    intro H locs ls hR hS hl h0 hlim
    unfold s2i at h'
    split at h'
    case h_2 => exact h'.elim
    case h_1 y x r =>
    cases hc : Nat.ble (catS r) 8 with
    | false => rw [hc] at h'; exact h'.elim
    | true =>
      rw [hc] at h'
      have hc' : catS r ≤ 8 := by simpa using hc
      have hlk : Cond.methodLink (oName (mOwn j)) n Lib.Math.min.name ∈ gtbl := by
        rcases ca_all hq with z | z | z | z | z | z
        case inr.inr.inr.inr.inl => exact z.2
        all_goals (exact absurd z.1 (by decide))
      exact va_mmin hx hb (by rw [hml]; exact hl.1.symm) hown (hts _ hlk) (hts _ lb_min.1) (hts _ lb_min.2.1) (hts _ lb_min.2.2) (by omega) (by rw [catS_eq]; omega) (by omega) (by omega) hd (hX _ _ _ _ _ _ _ h' H locs ls hR hS hl h0 hlim)
  | false =>
  rw [h2] at h
  cases h3 : q == 1003 with
  | true =>
    rw [h3] at h
    have hq1 : q = 1003 := by simpa using h3
    subst hq1
    have h' : match (generalizing := false) st with
        | .int n :: .int dp :: .ref b :: .int sp :: .ref a :: r => bif Nat.ble (catS r) 8 then ((kindOf a).1 = 1 ∧ a < nx ∧ (kindOf b).1 = 1 ∧ b < nx ∧ ∃ sp' dp' n' : Nat, sp = nI sp' ∧ dp = nI dp' ∧ n = nI n' ∧ sp' + n' ≤ (kindOf a).2 ∧ dp' + n' ≤ (kindOf b).2 ∧ X (pc + 3) lv r (va_up M b (va_cpy (M a) (M b) sp' dp' n')) N P nx) else False
        | _ => False := h
    clear h
    intro H locs ls hR hS hl h0 hlim
    split at h'
    case h_2 => exact h'.elim
    case h_1 n' dp b sp a r =>
    cases hc : Nat.ble (catS r) 8 with
    | false => rw [hc] at h'; exact h'.elim
    | true =>
      rw [hc] at h'
      obtain ⟨a1, a2, b1, b2, s1, s2, s3, e1, e2, e3, e4, e5, h'⟩ := h'
      have hc' : catS r ≤ 8 := by simpa using hc
      have hlk : Cond.methodLink (oName (mOwn j)) n arraycopyName ∈ gtbl := by
        rcases ca_all hq with z | z | z | z | z | z
        case inr.inr.inr.inr.inr => exact z.2
        all_goals (exact absurd z.1 (by decide))
      have ha44 := kind_lt' a1 (by decide)
      have hb44 := kind_lt' b1 (by decide)
      have hsa := kind_sz a ha44
      have hsb := kind_sz b hb44
      have g1 := wsW_get (cA := cA) (bs := E.1) (M := M) (N := N) (P := P) a2 ha44
      have g2 := wsW_get (cA := cA) (bs := E.1) (M := M) (N := N) (P := P) b2 hb44
      rw [ceW_row a1 (by decide) (by decide)] at g1
      rw [ceW_row b1 (by decide) (by decide)] at g2
      subst e1; subst e2; subst e3
      have hset : (wsW cA E.1 M N P nx).set b (E.1 + b, .inl (cA 1, (kindOf b).2, .inl (va_cpy (M a) (M b) s1 s2 s3))) = wsW cA E.1 (va_up M b (va_cpy (M a) (M b) s1 s2 s3)) N P nx := wsW_set (by rw [ceW_row b1 (by decide) (by decide), up_eq]) (fun i hi => ceW_eq (up_ne hi) rfl rfl)
      refine va_copyi hx hb (by rw [hml]; exact hl.1.symm) hown (hts _ hlk) (hts _ lb_copy.1) (hts _ lb_copy.2.1) (hts _ lb_copy.2.2) (hE2 s H (ev_at hcx hS)).1 hR wsW_D hS a b 0 0 g1 g2 rfl rfl rfl (nI_pos (by omega)) (nI_pos (by omega)) (nI_pos (by omega)) (by rw [nI_clamp (by omega), nI_clamp (by omega)]; exact e4) (by rw [nI_clamp (by omega), nI_clamp (by omega)]; exact e5) (fun _ _ => rfl) (by omega) (by rw [catS_eq]; show _ + 18 ≤ _; omega) hd (fun H1 locs1 hP1 _ hS1 => ?_)
      rw [nI_clamp (by omega), nI_clamp (by omega), nI_clamp (by omega), hset] at hP1
      exact hX _ _ _ _ _ _ _ h' H1 locs1 ls hP1 hS1 hl h0 hlim
  | false =>
  rw [h3] at h
  have h' : bif Nat.blt q 1000 && mKind q == 1 then callP C lim q (fun st M N P nx => X (pc + 3) lv st M N P nx) st M N P nx else False := h
  cases h4 : (Nat.blt q 1000 && mKind q == 1) with
  | false => rw [h4] at h'; exact h'.elim
  | true =>
    rw [h4] at h'
    simp only [Bool.and_eq_true, Nat.blt_eq, beq_iff_eq] at h4
    by_cases h6 : q = 216
    · subst h6
      exact h216 hq h' hd
    · exact am_stat hcx hC hX hq h4.1 h4.2 h6 h' hd
end MAK
