/-! THE MEANING IS THE MACHINE'S, eight frames deeper than it says: room for the texts' methods -/
set_option maxHeartbeats 4000000 in
theorem am_sound8 {l : Launch} {D : va_G} {cA : Nat → ClassId} {E : aE} {Ev : State → Heap → Prop} {adV : Nat → Nat} (hE1 : evOK (aA E.1) Ev) (hE2 : evHas D cA E Ev) (hJ : ∀ U H, Ev U H → jS (aA E.1) E.2.2 adV U H) :
    ∀ d, clA l D cA E Ev (d + 8) (aSem d) := by
  intro d
  induction d with
  | zero => intro q as M N P nx Q _ h; exact h.elim
  | succ d ih =>
    intro q as M N P nx Q hq h
    have h' : semQ (aSem d) q as M N P nx Q := h
    clear h
    unfold semQ at h'
    cases e1 : q == 14 with
    | true =>
      have : q = 14 := by simpa using e1
      subst this
      have h2 : match (generalizing := false) as with
        | [.retAddr (k + 1)] => k < 8 ∧ Q (some (.int (wordI k))) M N P nx
        | _ => False := h'
      split at h2
      case h_2 => exact h2.elim
      case h_1 k => exact c_14 hJ (by omega) h2.1 h2.2
    | false =>
    rw [e1] at h'
    cases e2 : q == 137 with
    | true =>
      have : q = 137 := by simpa using e2
      subst this
      have h2 : match (generalizing := false) as with
        | [.retAddr (k + 1)] => k < 8 ∧ Q (some (.long (wordL k))) M N P nx
        | _ => False := h'
      split at h2
      case h_2 => exact h2.elim
      case h_1 k => exact c_137 hJ (by omega) h2.1 h2.2
    | false =>
    rw [e2] at h'
    cases e3 : q == 216 with
    | true =>
      have : q = 216 := by simpa using e3
      omega
    | false =>
    rw [e3] at h'
    have h2 : bif Nat.ble (catS as) (mMaxL q) then WP (aSem d) (0, fun _ => 0) q (nx + mC q) (fun r M' N' P' nx' => nx' = nx + mC q ∧ Q r M' N' P' nx') 0 (lv_args 0 as) [] M N P nx else False := h'
    cases e4 : Nat.ble (catS as) (mMaxL q) with
    | false => rw [e4] at h2; exact h2.elim
    | true =>
    rw [e4] at h2
    have hcat : catS as ≤ mMaxL q := by simpa using e4
    have hwp : WP (aSem d) (0, fun _ => 0) q (nx + mC q) (fun r M' N' P' nx' => nx' = nx + mC q ∧ Q r M' N' P' nx') 0 (lv_args 0 as) [] M N P nx := h2
    have hM := mw_all q (by omega)
    obtain ⟨hcode, hcls, hini, hnm, hpl, hdesc, hk0, hk1, hk2, -⟩ := hM
    refine Met.ofW (cc := mCode q) (maxL := mMaxL q) (ret := mRet q) (by rw [hcls]; exact hpl) rfl ?_
    intro p e s m args below meth c s₁ B hml hv
    obtain ⟨rfl, hrel, hsz, hbs, hev⟩ := hv
    have hts0 := atoms_spec (ws := wsA q) B.pre
    have hown : s.vm.findClass (mName q).cls = some m.cls := findClass_of_methodNamed B.named
    rw [hcls] at hown
    have hcx : cxA p (rmA (d + 1 + 8) q) s m (as.map (rv E)).toArray meth c D cA E Ev (0, fun _ => 0) q (nx + mC q) nx (d + 8) :=
      ⟨B.exec, B.bytes, hml, hown, fun w hw => hts0 w (List.mem_cons_of_mem _ hw), fun hk => by rw [(name_of_methodNamed B.named B.method).1]; exact (hk2 hk).2, hev, hE1, hE2, hbs, Nat.le_refl _, Nat.le_refl _, by show _ ≤ mC q; omega, by show _ ≤ 1068 * mC q; omega, hsz, fun z => by omega⟩
    have hlocks := B.notSynchronized
    have hl := lv_entry (as.map (rv E)) (n := mMaxL q) (by rw [lg_sl_len, catS_rv]; exact hcat)
    rw [rv_args] at hl
    rw [lg_entry_eq]
    generalize (lg_sl (as.map (rv E)) ++ List.replicate (mMaxL q - (lg_sl (as.map (rv E))).length) Slot.unset).toArray = ls at hl ⊢
    have K := am_body (Z := MQ below (qcA D cA E (fun r M' N' P' nx' => nx' = nx + mC q ∧ Q r M' N' P' nx')) (as.map (rv E)).toArray s (mC q) (1068 * mC q) (aA E.1)) (e := e) (below := below) hcx (by decide) ih (fun X hX n pc lv st M N P nx hc => (no216 hq hc).elim) ?_ ?_ ?_ ?_ 0 _ _ _ _ _ _ hwp s.heap [] ls hrel va_S.rf hl (Nat.le_refl _) (Nat.le_add_right _ _)
    · rw [Nat.sub_self] at K
      exact K
    · intro x M1 N1 P1 nx1 pc H locs ls hQ hr hR hS h0 hlim hd
      obtain ⟨hn, hQ⟩ := hQ
      subst hn
      rw [Nat.add_sub_cancel_left]
      rcases hr with hr | ⟨hr, hz⟩
      · exact W.iret (v := x) B.exec B.bytes (by rw [B.returns]; exact hr) (fun t ht hW => ⟨⟨some (.int x), M1, N1, P1, _, rfl, ⟨rfl, hQ⟩, by rw [ht]; exact hR⟩, hS.F ht⟩) hS.2.2 hd
      · exact W.zret (v := x) B.exec B.bytes (by rw [B.returns]; exact hr) (nar_Z hz) (fun t ht hW => ⟨⟨some (.int x), M1, N1, P1, _, rfl, ⟨rfl, hQ⟩, by rw [ht]; exact hR⟩, hS.F ht⟩) hS.2.2 hd
    · intro x M1 N1 P1 nx1 pc H locs ls hQ hr hR hS h0 hlim hd
      obtain ⟨hn, hQ⟩ := hQ
      subst hn
      rw [Nat.add_sub_cancel_left]
      exact W.lret (v := x) B.exec B.bytes (by rw [B.returns]; exact hr) (fun t ht hW => ⟨⟨some (.long x), M1, N1, P1, _, rfl, ⟨rfl, hQ⟩, by rw [ht]; exact hR⟩, hS.F ht⟩) hS.2.2 hd
    · intro M1 N1 P1 nx1 pc H locs ls hQ hr hR hS h0 hlim hd
      obtain ⟨hn, hQ⟩ := hQ
      subst hn
      rw [Nat.add_sub_cancel_left]
      exact W.vret B.exec B.bytes (by rw [B.returns]; exact hr) (fun t ht hW => ⟨⟨none, M1, N1, P1, _, rfl, ⟨rfl, hQ⟩, by rw [ht]; exact hR⟩, hS.F ht⟩) hS.2.2 hd
    · intro n pc lv st M N P nx hj
      omega
