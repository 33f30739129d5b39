/-! THE MACHINE FOLLOWS stepI (by wip/whole/tools/gen33.py) -/
def tyOK : FieldType → Bool
  | .int | .long | .object _ | .array _ => true
  | _ => false
theorem ty_all : ∀ ci, ci < 8 → ∀ k, k < nF ci → tyOK (cTy ci k) = true := by decide +kernel
theorem swT_el {x : Int32} {K : Int → Prop} {d : Int} : ∀ (l : List Int) (lo : Int), -1000 ≤ lo → lo + (l.length : Int) ≤ 1001 → swT x K d lo l → (∀ k : Nat, x.toInt = lo + k → k < l.length → ∃ off, l[k]? = some off ∧ K off) ∧ ((x.toInt < lo ∨ lo + (l.length : Int) ≤ x.toInt) → K d)
  | [], lo, _, _, h => ⟨fun k _ hk => by simp at hk, fun _ => h⟩
  | o :: t, lo, h1, h2, h => by
    rw [List.length_cons] at h2
    by_cases hx : x = kI lo
    · have hxi : x.toInt = lo := by rw [hx]; exact kI_toInt h1 (by omega)
      refine ⟨fun k hk _ => ?_, fun hk => ?_⟩
      · have : k = 0 := by omega
        subst this
        exact ⟨o, rfl, h.1 hx⟩
      · rw [List.length_cons] at hk
        omega
    · have hne : ¬ x.toInt = lo := fun q => hx (Int32.toInt_inj.mp (by rw [kI_toInt h1 (by omega)]; exact q))
      obtain ⟨a, b⟩ := swT_el t (lo + 1) (by omega) (by omega) (h.2 hx)
      refine ⟨fun k hk hl => ?_, fun hk => b ?_⟩
      · cases k with
        | zero => exact absurd (by simpa using hk) hne
        | succ k =>
          rw [List.length_cons] at hl
          obtain ⟨off, e1, e2⟩ := a k (by omega) (by omega)
          exact ⟨off, e1, e2⟩
      · rw [List.length_cons] at hk
        omega
theorem swL_el {x : Int32} {K : Int → Prop} {d : Int} : ∀ (l : List (Int × Int)), (l.all (fun q => decide (-1000 ≤ q.1) && decide (q.1 ≤ 1000))) = true → swL x K d l → K (Op.lookupswitch.offset l d x.toInt)
  | [], _, h => h
  | (a, o) :: t, hb, h => by
    rw [List.all_cons, Bool.and_eq_true, Bool.and_eq_true, decide_eq_true_eq, decide_eq_true_eq] at hb
    by_cases hx : x = kI a
    · rw [Op.lookupswitch.offset_cons, if_pos (by rw [hx]; exact (kI_toInt hb.1.1 hb.1.2).symm)]
      exact h.1 hx
    · rw [lv_osw hx (kI_toInt hb.1.1 hb.1.2)]
      exact swL_el t hb.2 (h.2 hx)
section INS
variable {p : Program} {l : Launch} {e : Env} {R : Room} {s : State} {m : MethodId} {args : Array Value} {below : List Frame} {meth : Method} {c : Code} {D : va_G} {cA : Nat → ClassId} {E : aE} {Ev : State → Heap → Prop} {G : aG} {j lim n0 d : Nat} {Z : State → Prop}
theorem am_iconst (hcx : cxA p R s m args meth c D cA E Ev G j lim n0 d) {C : aC} {Q : aQ} {X : aX} (hX : ∀ t lv st M N P nx, X t lv st M N P nx → mpA p l e R s m args below meth c D cA E j lim n0 Z t lv st M N P nx) {pc len : Nat} {lv : aL} {st : List Value} {M : aM} {N : aN} {P : aP} {nx : Nat} {n : Int} (hd : decode (mCode j) pc = .ok (.iconst n, len)) (hlen : okLen (.iconst n) len = true) (h : stepI C G j lim Q X pc len (.iconst n) lv st M N P nx) : mpA p l e R s m args below meth c D cA E j lim n0 Z pc lv st M N P nx := by
  intro H locs ls hR hS hl h0 hlim
  obtain ⟨hx, hb, hml, hown, hts, hin, hEv, hE1, hE2, hbs, hRf, hRl, hRc, hRs, hz0, hG⟩ := id hcx
  have hlen2 : len = 1 := by simpa [okLen] using hlen
  subst hlen2
  exact lv_iconst hx hb hd (kI_eq n).symm (hX _ _ _ _ _ _ _ h H locs ls hR hS hl h0 hlim)
theorem am_bipush (hcx : cxA p R s m args meth c D cA E Ev G j lim n0 d) {C : aC} {Q : aQ} {X : aX} (hX : ∀ t lv st M N P nx, X t lv st M N P nx → mpA p l e R s m args below meth c D cA E j lim n0 Z t lv st M N P nx) {pc len : Nat} {lv : aL} {st : List Value} {M : aM} {N : aN} {P : aP} {nx : Nat} {n : Int} (hd : decode (mCode j) pc = .ok (.bipush n, len)) (hlen : okLen (.bipush n) len = true) (h : stepI C G j lim Q X pc len (.bipush n) lv st M N P nx) : mpA p l e R s m args below meth c D cA E j lim n0 Z pc lv st M N P nx := by
  intro H locs ls hR hS hl h0 hlim
  obtain ⟨hx, hb, hml, hown, hts, hin, hEv, hE1, hE2, hbs, hRf, hRl, hRc, hRs, hz0, hG⟩ := id hcx
  have hlen2 : len = 2 := by simpa [okLen] using hlen
  subst hlen2
  exact lv_bipush hx hb hd (k8_eq n).symm (hX _ _ _ _ _ _ _ h H locs ls hR hS hl h0 hlim)
theorem am_sipush (hcx : cxA p R s m args meth c D cA E Ev G j lim n0 d) {C : aC} {Q : aQ} {X : aX} (hX : ∀ t lv st M N P nx, X t lv st M N P nx → mpA p l e R s m args below meth c D cA E j lim n0 Z t lv st M N P nx) {pc len : Nat} {lv : aL} {st : List Value} {M : aM} {N : aN} {P : aP} {nx : Nat} {n : Int} (hd : decode (mCode j) pc = .ok (.sipush n, len)) (hlen : okLen (.sipush n) len = true) (h : stepI C G j lim Q X pc len (.sipush n) lv st M N P nx) : mpA p l e R s m args below meth c D cA E j lim n0 Z pc lv st M N P nx := by
  intro H locs ls hR hS hl h0 hlim
  obtain ⟨hx, hb, hml, hown, hts, hin, hEv, hE1, hE2, hbs, hRf, hRl, hRc, hRs, hz0, hG⟩ := id hcx
  have hlen2 : len = 3 := by simpa [okLen] using hlen
  subst hlen2
  exact lv_sipush hx hb hd (k16_eq n).symm (hX _ _ _ _ _ _ _ h H locs ls hR hS hl h0 hlim)
theorem am_lconst (hcx : cxA p R s m args meth c D cA E Ev G j lim n0 d) {C : aC} {Q : aQ} {X : aX} (hX : ∀ t lv st M N P nx, X t lv st M N P nx → mpA p l e R s m args below meth c D cA E j lim n0 Z t lv st M N P nx) {pc len : Nat} {lv : aL} {st : List Value} {M : aM} {N : aN} {P : aP} {nx : Nat} {n : Fin 2} (hd : decode (mCode j) pc = .ok (.lconst n, len)) (hlen : okLen (.lconst n) len = true) (h : stepI C G j lim Q X pc len (.lconst n) lv st M N P nx) : mpA p l e R s m args below meth c D cA E j lim n0 Z pc lv st M N P nx := by
  intro H locs ls hR hS hl h0 hlim
  obtain ⟨hx, hb, hml, hown, hts, hin, hEv, hE1, hE2, hbs, hRf, hRl, hRc, hRs, hz0, hG⟩ := id hcx
  have hlen2 : len = 1 := by simpa [okLen] using hlen
  subst hlen2
  exact lv_lconst hx hb hd rfl (hX _ _ _ _ _ _ _ h H locs ls hR hS hl h0 hlim)
theorem am_ldc2_w (hcx : cxA p R s m args meth c D cA E Ev G j lim n0 d) {C : aC} {Q : aQ} {X : aX} (hX : ∀ t lv st M N P nx, X t lv st M N P nx → mpA p l e R s m args below meth c D cA E j lim n0 Z t lv st M N P nx) {pc len : Nat} {lv : aL} {st : List Value} {M : aM} {N : aN} {P : aP} {nx : Nat} {n : Nat} (hd : decode (mCode j) pc = .ok (.ldc2_w n, len)) (hlen : okLen (.ldc2_w n) len = true) (h : stepI C G j lim Q X pc len (.ldc2_w n) lv st M N P nx) : mpA p l e R s m args below meth c D cA E j lim n0 Z pc lv st M N P nx := by
  intro H locs ls hR hS hl h0 hlim
  obtain ⟨hx, hb, hml, hown, hts, hin, hEv, hE1, hE2, hbs, hRf, hRl, hRc, hRs, hz0, hG⟩ := id hcx
  have hlen2 : len = 3 := by simpa [okLen] using hlen
  subst hlen2
  unfold stepI at h
  dsimp only at h
  split at h
  case h_1 v hv => exact lv_ldc2 hx hb hown (hts _ (la_all hv)) hd (hX _ _ _ _ _ _ _ h H locs ls hR hS hl h0 hlim)
  case h_2 => exact h.elim
theorem am_ldc_w (hcx : cxA p R s m args meth c D cA E Ev G j lim n0 d) {C : aC} {Q : aQ} {X : aX} (hX : ∀ t lv st M N P nx, X t lv st M N P nx → mpA p l e R s m args below meth c D cA E j lim n0 Z t lv st M N P nx) {pc len : Nat} {lv : aL} {st : List Value} {M : aM} {N : aN} {P : aP} {nx : Nat} {n : Nat} (hd : decode (mCode j) pc = .ok (.ldc_w n, len)) (hlen : okLen (.ldc_w n) len = true) (h : stepI C G j lim Q X pc len (.ldc_w n) lv st M N P nx) : mpA p l e R s m args below meth c D cA E j lim n0 Z pc lv st M N P nx := by
  intro H locs ls hR hS hl h0 hlim
  obtain ⟨hx, hb, hml, hown, hts, hin, hEv, hE1, hE2, hbs, hRf, hRl, hRc, hRs, hz0, hG⟩ := id hcx
  have hlen2 : len = 3 := by simpa [okLen] using hlen
  subst hlen2
  unfold stepI at h
  dsimp only at h
  split at h
  case h_1 v hv => exact lv_ldcw hx hb hown (hts _ (ia_all hv)) hd (hX _ _ _ _ _ _ _ h H locs ls hR hS hl h0 hlim)
  case h_2 => exact h.elim
theorem am_ldc (hcx : cxA p R s m args meth c D cA E Ev G j lim n0 d) {C : aC} {Q : aQ} {X : aX} (hX : ∀ t lv st M N P nx, X t lv st M N P nx → mpA p l e R s m args below meth c D cA E j lim n0 Z t lv st M N P nx) {pc len : Nat} {lv : aL} {st : List Value} {M : aM} {N : aN} {P : aP} {nx : Nat} {n : Nat} (hd : decode (mCode j) pc = .ok (.ldc n, len)) (hlen : okLen (.ldc n) len = true) (h : stepI C G j lim Q X pc len (.ldc n) lv st M N P nx) : mpA p l e R s m args below meth c D cA E j lim n0 Z pc lv st M N P nx := by
  intro H locs ls hR hS hl h0 hlim
  obtain ⟨hx, hb, hml, hown, hts, hin, hEv, hE1, hE2, hbs, hRf, hRl, hRc, hRs, hz0, hG⟩ := id hcx
  have hlen2 : len = 2 := by simpa [okLen] using hlen
  subst hlen2
  unfold stepI at h
  dsimp only at h
  split at h
  case h_1 k hk => exact va_ldcS hx hb hown ((hE2 s H (ev_at hcx hS)).2.2 _ _ _ hk) hd (hX _ _ _ _ _ _ _ h H locs ls hR hS hl h0 hlim)
  case h_2 => exact h.elim
theorem am_iload (hcx : cxA p R s m args meth c D cA E Ev G j lim n0 d) {C : aC} {Q : aQ} {X : aX} (hX : ∀ t lv st M N P nx, X t lv st M N P nx → mpA p l e R s m args below meth c D cA E j lim n0 Z t lv st M N P nx) {pc len : Nat} {lv : aL} {st : List Value} {M : aM} {N : aN} {P : aP} {nx : Nat} {n : Nat} (hd : decode (mCode j) pc = .ok (.iload n, len)) (hlen : okLen (.iload n) len = true) (h : stepI C G j lim Q X pc len (.iload n) lv st M N P nx) : mpA p l e R s m args below meth c D cA E j lim n0 Z pc lv st M N P nx := by
  intro H locs ls hR hS hl h0 hlim
  obtain ⟨hx, hb, hml, hown, hts, hin, hEv, hE1, hE2, hbs, hRf, hRl, hRc, hRs, hz0, hG⟩ := id hcx
  have hlen2 : len = 2 := by simpa [okLen] using hlen
  subst hlen2
  unfold stepI ldi at h
  dsimp only at h
  split at h
  case h_1 x hg => exact lv_iload hx hb hd (lh_get hl hg) (hX _ _ _ _ _ _ _ h H locs ls hR hS hl h0 hlim)
  case h_2 => exact h.elim
theorem am_iload_n (hcx : cxA p R s m args meth c D cA E Ev G j lim n0 d) {C : aC} {Q : aQ} {X : aX} (hX : ∀ t lv st M N P nx, X t lv st M N P nx → mpA p l e R s m args below meth c D cA E j lim n0 Z t lv st M N P nx) {pc len : Nat} {lv : aL} {st : List Value} {M : aM} {N : aN} {P : aP} {nx : Nat} {n : Fin 4} (hd : decode (mCode j) pc = .ok (.iload_n n, len)) (hlen : okLen (.iload_n n) len = true) (h : stepI C G j lim Q X pc len (.iload_n n) lv st M N P nx) : mpA p l e R s m args below meth c D cA E j lim n0 Z pc lv st M N P nx := by
  intro H locs ls hR hS hl h0 hlim
  obtain ⟨hx, hb, hml, hown, hts, hin, hEv, hE1, hE2, hbs, hRf, hRl, hRc, hRs, hz0, hG⟩ := id hcx
  have hlen2 : len = 1 := by simpa [okLen] using hlen
  subst hlen2
  unfold stepI ldi at h
  dsimp only at h
  split at h
  case h_1 x hg => exact lv_iload_n hx hb hd rfl (lh_get hl hg) (hX _ _ _ _ _ _ _ h H locs ls hR hS hl h0 hlim)
  case h_2 => exact h.elim
theorem am_lload (hcx : cxA p R s m args meth c D cA E Ev G j lim n0 d) {C : aC} {Q : aQ} {X : aX} (hX : ∀ t lv st M N P nx, X t lv st M N P nx → mpA p l e R s m args below meth c D cA E j lim n0 Z t lv st M N P nx) {pc len : Nat} {lv : aL} {st : List Value} {M : aM} {N : aN} {P : aP} {nx : Nat} {n : Nat} (hd : decode (mCode j) pc = .ok (.lload n, len)) (hlen : okLen (.lload n) len = true) (h : stepI C G j lim Q X pc len (.lload n) lv st M N P nx) : mpA p l e R s m args below meth c D cA E j lim n0 Z pc lv st M N P nx := by
  intro H locs ls hR hS hl h0 hlim
  obtain ⟨hx, hb, hml, hown, hts, hin, hEv, hE1, hE2, hbs, hRf, hRl, hRc, hRs, hz0, hG⟩ := id hcx
  have hlen2 : len = 2 := by simpa [okLen] using hlen
  subst hlen2
  unfold stepI ldl at h
  dsimp only at h
  split at h
  case h_1 x hg => exact lv_lload hx hb hd (lh_get hl hg) (hX _ _ _ _ _ _ _ h H locs ls hR hS hl h0 hlim)
  case h_2 => exact h.elim
theorem am_lload_n (hcx : cxA p R s m args meth c D cA E Ev G j lim n0 d) {C : aC} {Q : aQ} {X : aX} (hX : ∀ t lv st M N P nx, X t lv st M N P nx → mpA p l e R s m args below meth c D cA E j lim n0 Z t lv st M N P nx) {pc len : Nat} {lv : aL} {st : List Value} {M : aM} {N : aN} {P : aP} {nx : Nat} {n : Fin 4} (hd : decode (mCode j) pc = .ok (.lload_n n, len)) (hlen : okLen (.lload_n n) len = true) (h : stepI C G j lim Q X pc len (.lload_n n) lv st M N P nx) : mpA p l e R s m args below meth c D cA E j lim n0 Z pc lv st M N P nx := by
  intro H locs ls hR hS hl h0 hlim
  obtain ⟨hx, hb, hml, hown, hts, hin, hEv, hE1, hE2, hbs, hRf, hRl, hRc, hRs, hz0, hG⟩ := id hcx
  have hlen2 : len = 1 := by simpa [okLen] using hlen
  subst hlen2
  unfold stepI ldl at h
  dsimp only at h
  split at h
  case h_1 x hg => exact lv_lload_n hx hb hd rfl (lh_get hl hg) (hX _ _ _ _ _ _ _ h H locs ls hR hS hl h0 hlim)
  case h_2 => exact h.elim
theorem am_aload (hcx : cxA p R s m args meth c D cA E Ev G j lim n0 d) {C : aC} {Q : aQ} {X : aX} (hX : ∀ t lv st M N P nx, X t lv st M N P nx → mpA p l e R s m args below meth c D cA E j lim n0 Z t lv st M N P nx) {pc len : Nat} {lv : aL} {st : List Value} {M : aM} {N : aN} {P : aP} {nx : Nat} {n : Nat} (hd : decode (mCode j) pc = .ok (.aload n, len)) (hlen : okLen (.aload n) len = true) (h : stepI C G j lim Q X pc len (.aload n) lv st M N P nx) : mpA p l e R s m args below meth c D cA E j lim n0 Z pc lv st M N P nx := by
  intro H locs ls hR hS hl h0 hlim
  obtain ⟨hx, hb, hml, hown, hts, hin, hEv, hE1, hE2, hbs, hRf, hRl, hRc, hRs, hz0, hG⟩ := id hcx
  have hlen2 : len = 2 := by simpa [okLen] using hlen
  subst hlen2
  unfold stepI lda at h
  dsimp only at h
  split at h
  case h_1 x hg => exact lv_aload hx hb hd (lh_get hl hg) (hX _ _ _ _ _ _ _ h H locs ls hR hS hl h0 hlim)
  case h_2 x hg =>
    cases x with
    | zero => exact lv_aload hx hb hd (lh_get hl hg) (hX _ _ _ _ _ _ _ h H locs ls hR hS hl h0 hlim)
    | succ k => exact lv_aload hx hb hd (lh_get hl hg) (hX _ _ _ _ _ _ _ h H locs ls hR hS hl h0 hlim)
  case h_3 => exact h.elim
theorem am_aload_n (hcx : cxA p R s m args meth c D cA E Ev G j lim n0 d) {C : aC} {Q : aQ} {X : aX} (hX : ∀ t lv st M N P nx, X t lv st M N P nx → mpA p l e R s m args below meth c D cA E j lim n0 Z t lv st M N P nx) {pc len : Nat} {lv : aL} {st : List Value} {M : aM} {N : aN} {P : aP} {nx : Nat} {n : Fin 4} (hd : decode (mCode j) pc = .ok (.aload_n n, len)) (hlen : okLen (.aload_n n) len = true) (h : stepI C G j lim Q X pc len (.aload_n n) lv st M N P nx) : mpA p l e R s m args below meth c D cA E j lim n0 Z pc lv st M N P nx := by
  intro H locs ls hR hS hl h0 hlim
  obtain ⟨hx, hb, hml, hown, hts, hin, hEv, hE1, hE2, hbs, hRf, hRl, hRc, hRs, hz0, hG⟩ := id hcx
  have hlen2 : len = 1 := by simpa [okLen] using hlen
  subst hlen2
  unfold stepI lda at h
  dsimp only at h
  split at h
  case h_1 x hg => exact lv_aload_n hx hb hd rfl (lh_get hl hg) (hX _ _ _ _ _ _ _ h H locs ls hR hS hl h0 hlim)
  case h_2 x hg =>
    cases x with
    | zero => exact lv_aload_n hx hb hd rfl (lh_get hl hg) (hX _ _ _ _ _ _ _ h H locs ls hR hS hl h0 hlim)
    | succ k => exact lv_aload_n hx hb hd rfl (lh_get hl hg) (hX _ _ _ _ _ _ _ h H locs ls hR hS hl h0 hlim)
  case h_3 => exact h.elim
theorem am_istore (hcx : cxA p R s m args meth c D cA E Ev G j lim n0 d) {C : aC} {Q : aQ} {X : aX} (hX : ∀ t lv st M N P nx, X t lv st M N P nx → mpA p l e R s m args below meth c D cA E j lim n0 Z t lv st M N P nx) {pc len : Nat} {lv : aL} {st : List Value} {M : aM} {N : aN} {P : aP} {nx : Nat} {n : Nat} (hd : decode (mCode j) pc = .ok (.istore n, len)) (hlen : okLen (.istore n) len = true) (h : stepI C G j lim Q X pc len (.istore n) lv st M N P nx) : mpA p l e R s m args below meth c D cA E j lim n0 Z pc lv st M N P nx := by
  intro H locs ls hR hS hl h0 hlim
  obtain ⟨hx, hb, hml, hown, hts, hin, hEv, hE1, hE2, hbs, hRf, hRl, hRc, hRs, hz0, hG⟩ := id hcx
  have hlen2 : len = 2 := by simpa [okLen] using hlen
  subst hlen2
  unfold stepI s1i at h
  dsimp only at h
  split at h
  case h_1 x r =>
    cases hn : Nat.blt n (mMaxL j) with
    | false => rw [hn] at h; exact h.elim
    | true =>
      rw [hn] at h
      exact lv_istore hx hb hd hl (by simpa using hn) (rl_lst1 (v := .int x)) (fun ls hl => hX _ _ _ _ _ _ _ h H locs ls hR hS hl h0 hlim)
  case h_2 => exact h.elim
theorem am_istore_n (hcx : cxA p R s m args meth c D cA E Ev G j lim n0 d) {C : aC} {Q : aQ} {X : aX} (hX : ∀ t lv st M N P nx, X t lv st M N P nx → mpA p l e R s m args below meth c D cA E j lim n0 Z t lv st M N P nx) {pc len : Nat} {lv : aL} {st : List Value} {M : aM} {N : aN} {P : aP} {nx : Nat} {n : Fin 4} (hd : decode (mCode j) pc = .ok (.istore_n n, len)) (hlen : okLen (.istore_n n) len = true) (h : stepI C G j lim Q X pc len (.istore_n n) lv st M N P nx) : mpA p l e R s m args below meth c D cA E j lim n0 Z pc lv st M N P nx := by
  intro H locs ls hR hS hl h0 hlim
  obtain ⟨hx, hb, hml, hown, hts, hin, hEv, hE1, hE2, hbs, hRf, hRl, hRc, hRs, hz0, hG⟩ := id hcx
  have hlen2 : len = 1 := by simpa [okLen] using hlen
  subst hlen2
  unfold stepI s1i at h
  dsimp only at h
  split at h
  case h_1 x r =>
    cases hn : Nat.blt n.val (mMaxL j) with
    | false => rw [hn] at h; exact h.elim
    | true =>
      rw [hn] at h
      exact lv_istore_n hx hb hd rfl hl (by simpa using hn) (rl_lst1 (v := .int x)) (fun ls hl => hX _ _ _ _ _ _ _ h H locs ls hR hS hl h0 hlim)
  case h_2 => exact h.elim
theorem am_lstore (hcx : cxA p R s m args meth c D cA E Ev G j lim n0 d) {C : aC} {Q : aQ} {X : aX} (hX : ∀ t lv st M N P nx, X t lv st M N P nx → mpA p l e R s m args below meth c D cA E j lim n0 Z t lv st M N P nx) {pc len : Nat} {lv : aL} {st : List Value} {M : aM} {N : aN} {P : aP} {nx : Nat} {n : Nat} (hd : decode (mCode j) pc = .ok (.lstore n, len)) (hlen : okLen (.lstore n) len = true) (h : stepI C G j lim Q X pc len (.lstore n) lv st M N P nx) : mpA p l e R s m args below meth c D cA E j lim n0 Z pc lv st M N P nx := by
  intro H locs ls hR hS hl h0 hlim
  obtain ⟨hx, hb, hml, hown, hts, hin, hEv, hE1, hE2, hbs, hRf, hRl, hRc, hRs, hz0, hG⟩ := id hcx
  have hlen2 : len = 2 := by simpa [okLen] using hlen
  subst hlen2
  unfold stepI s1l at h
  dsimp only at h
  split at h
  case h_1 x r =>
    cases hn : Nat.blt (n + 1) (mMaxL j) with
    | false => rw [hn] at h; exact h.elim
    | true =>
      rw [hn] at h
      exact lv_lstore hx hb hd hl (by simpa using hn) (rl_lst2 (v := .long x)) (fun ls hl => hX _ _ _ _ _ _ _ h H locs ls hR hS hl h0 hlim)
  case h_2 => exact h.elim
theorem am_lstore_n (hcx : cxA p R s m args meth c D cA E Ev G j lim n0 d) {C : aC} {Q : aQ} {X : aX} (hX : ∀ t lv st M N P nx, X t lv st M N P nx → mpA p l e R s m args below meth c D cA E j lim n0 Z t lv st M N P nx) {pc len : Nat} {lv : aL} {st : List Value} {M : aM} {N : aN} {P : aP} {nx : Nat} {n : Fin 4} (hd : decode (mCode j) pc = .ok (.lstore_n n, len)) (hlen : okLen (.lstore_n n) len = true) (h : stepI C G j lim Q X pc len (.lstore_n n) lv st M N P nx) : mpA p l e R s m args below meth c D cA E j lim n0 Z pc lv st M N P nx := by
  intro H locs ls hR hS hl h0 hlim
  obtain ⟨hx, hb, hml, hown, hts, hin, hEv, hE1, hE2, hbs, hRf, hRl, hRc, hRs, hz0, hG⟩ := id hcx
  have hlen2 : len = 1 := by simpa [okLen] using hlen
  subst hlen2
  unfold stepI s1l at h
  dsimp only at h
  split at h
  case h_1 x r =>
    cases hn : Nat.blt (n.val + 1) (mMaxL j) with
    | false => rw [hn] at h; exact h.elim
    | true =>
      rw [hn] at h
      exact lv_lstore_n hx hb hd rfl hl (by simpa using hn) (rl_lst2 (v := .long x)) (fun ls hl => hX _ _ _ _ _ _ _ h H locs ls hR hS hl h0 hlim)
  case h_2 => exact h.elim
theorem am_astore (hcx : cxA p R s m args meth c D cA E Ev G j lim n0 d) {C : aC} {Q : aQ} {X : aX} (hX : ∀ t lv st M N P nx, X t lv st M N P nx → mpA p l e R s m args below meth c D cA E j lim n0 Z t lv st M N P nx) {pc len : Nat} {lv : aL} {st : List Value} {M : aM} {N : aN} {P : aP} {nx : Nat} {n : Nat} (hd : decode (mCode j) pc = .ok (.astore n, len)) (hlen : okLen (.astore n) len = true) (h : stepI C G j lim Q X pc len (.astore n) lv st M N P nx) : mpA p l e R s m args below meth c D cA E j lim n0 Z pc lv st M N P nx := by
  intro H locs ls hR hS hl h0 hlim
  obtain ⟨hx, hb, hml, hown, hts, hin, hEv, hE1, hE2, hbs, hRf, hRl, hRc, hRs, hz0, hG⟩ := id hcx
  have hlen2 : len = 2 := by simpa [okLen] using hlen
  subst hlen2
  unfold stepI s1r at h
  dsimp only at h
  split at h
  case h_1 x r =>
    cases hn : Nat.blt n (mMaxL j) with
    | false => rw [hn] at h; exact h.elim
    | true =>
      rw [hn] at h
      exact lv_astore hx hb hd hl (by simpa using hn) (rl_lst1 (v := .ref x)) (fun ls hl => hX _ _ _ _ _ _ _ h H locs ls hR hS hl h0 hlim)
  case h_2 => exact h.elim
theorem am_astore_n (hcx : cxA p R s m args meth c D cA E Ev G j lim n0 d) {C : aC} {Q : aQ} {X : aX} (hX : ∀ t lv st M N P nx, X t lv st M N P nx → mpA p l e R s m args below meth c D cA E j lim n0 Z t lv st M N P nx) {pc len : Nat} {lv : aL} {st : List Value} {M : aM} {N : aN} {P : aP} {nx : Nat} {n : Fin 4} (hd : decode (mCode j) pc = .ok (.astore_n n, len)) (hlen : okLen (.astore_n n) len = true) (h : stepI C G j lim Q X pc len (.astore_n n) lv st M N P nx) : mpA p l e R s m args below meth c D cA E j lim n0 Z pc lv st M N P nx := by
  intro H locs ls hR hS hl h0 hlim
  obtain ⟨hx, hb, hml, hown, hts, hin, hEv, hE1, hE2, hbs, hRf, hRl, hRc, hRs, hz0, hG⟩ := id hcx
  have hlen2 : len = 1 := by simpa [okLen] using hlen
  subst hlen2
  unfold stepI s1r at h
  dsimp only at h
  split at h
  case h_1 x r =>
    cases hn : Nat.blt n.val (mMaxL j) with
    | false => rw [hn] at h; exact h.elim
    | true =>
      rw [hn] at h
      exact lv_astore_n hx hb hd rfl hl (by simpa using hn) (rl_lst1 (v := .ref x)) (fun ls hl => hX _ _ _ _ _ _ _ h H locs ls hR hS hl h0 hlim)
  case h_2 => exact h.elim
theorem am_iinc (hcx : cxA p R s m args meth c D cA E Ev G j lim n0 d) {C : aC} {Q : aQ} {X : aX} (hX : ∀ t lv st M N P nx, X t lv st M N P nx → mpA p l e R s m args below meth c D cA E j lim n0 Z t lv st M N P nx) {pc len : Nat} {lv : aL} {st : List Value} {M : aM} {N : aN} {P : aP} {nx : Nat} {n : Nat} {z : Int} (hd : decode (mCode j) pc = .ok (.iinc n z, len)) (hlen : okLen (.iinc n z) len = true) (h : stepI C G j lim Q X pc len (.iinc n z) lv st M N P nx) : mpA p l e R s m args below meth c D cA E j lim n0 Z pc lv st M N P nx := by
  intro H locs ls hR hS hl h0 hlim
  obtain ⟨hx, hb, hml, hown, hts, hin, hEv, hE1, hE2, hbs, hRf, hRl, hRc, hRs, hz0, hG⟩ := id hcx
  have hlen2 : len = 3 := by simpa [okLen] using hlen
  subst hlen2
  unfold stepI ldi at h
  dsimp only at h
  split at h
  case h_1 x hg =>
    cases hn : Nat.blt n (mMaxL j) with
    | false => rw [hn] at h; exact h.elim
    | true =>
      rw [hn] at h
      obtain ⟨k, hk⟩ := List.getElem?_of_mem (List.mem_map.mpr ⟨(n, .int x), lget_mem hg, rfl⟩ : (n, rv E (.int x)) ∈ rl E lv)
      exact lv_iinc (v := x + kI z) hx hb hd hl hk (by rw [kI_eq]) (by simpa using hn) (rl_lst1 (v := .int (x + kI z))) (fun ls hl => hX _ _ _ _ _ _ _ h H locs ls hR hS hl h0 hlim)
  case h_2 => exact h.elim
theorem am_iadd (hcx : cxA p R s m args meth c D cA E Ev G j lim n0 d) {C : aC} {Q : aQ} {X : aX} (hX : ∀ t lv st M N P nx, X t lv st M N P nx → mpA p l e R s m args below meth c D cA E j lim n0 Z t lv st M N P nx) {pc len : Nat} {lv : aL} {st : List Value} {M : aM} {N : aN} {P : aP} {nx : Nat}  (hd : decode (mCode j) pc = .ok (.iadd, len)) (hlen : okLen (.iadd) len = true) (h : stepI C G j lim Q X pc len (.iadd) lv st M N P nx) : mpA p l e R s m args below meth c D cA E j lim n0 Z pc lv st M N P nx := by
  intro H locs ls hR hS hl h0 hlim
  obtain ⟨hx, hb, hml, hown, hts, hin, hEv, hE1, hE2, hbs, hRf, hRl, hRc, hRs, hz0, hG⟩ := id hcx
  have hlen2 : len = 1 := by simpa [okLen] using hlen
  subst hlen2
  unfold stepI s2i at h
  dsimp only at h
  split at h
  case h_1 y x r => exact lv_iadd hx hb hd (hX _ _ _ _ _ _ _ h H locs ls hR hS hl h0 hlim)
  case h_2 => exact h.elim
theorem am_isub (hcx : cxA p R s m args meth c D cA E Ev G j lim n0 d) {C : aC} {Q : aQ} {X : aX} (hX : ∀ t lv st M N P nx, X t lv st M N P nx → mpA p l e R s m args below meth c D cA E j lim n0 Z t lv st M N P nx) {pc len : Nat} {lv : aL} {st : List Value} {M : aM} {N : aN} {P : aP} {nx : Nat}  (hd : decode (mCode j) pc = .ok (.isub, len)) (hlen : okLen (.isub) len = true) (h : stepI C G j lim Q X pc len (.isub) lv st M N P nx) : mpA p l e R s m args below meth c D cA E j lim n0 Z pc lv st M N P nx := by
  intro H locs ls hR hS hl h0 hlim
  obtain ⟨hx, hb, hml, hown, hts, hin, hEv, hE1, hE2, hbs, hRf, hRl, hRc, hRs, hz0, hG⟩ := id hcx
  have hlen2 : len = 1 := by simpa [okLen] using hlen
  subst hlen2
  unfold stepI s2i at h
  dsimp only at h
  split at h
  case h_1 y x r => exact lv_isub hx hb hd (hX _ _ _ _ _ _ _ h H locs ls hR hS hl h0 hlim)
  case h_2 => exact h.elim
theorem am_imul (hcx : cxA p R s m args meth c D cA E Ev G j lim n0 d) {C : aC} {Q : aQ} {X : aX} (hX : ∀ t lv st M N P nx, X t lv st M N P nx → mpA p l e R s m args below meth c D cA E j lim n0 Z t lv st M N P nx) {pc len : Nat} {lv : aL} {st : List Value} {M : aM} {N : aN} {P : aP} {nx : Nat}  (hd : decode (mCode j) pc = .ok (.imul, len)) (hlen : okLen (.imul) len = true) (h : stepI C G j lim Q X pc len (.imul) lv st M N P nx) : mpA p l e R s m args below meth c D cA E j lim n0 Z pc lv st M N P nx := by
  intro H locs ls hR hS hl h0 hlim
  obtain ⟨hx, hb, hml, hown, hts, hin, hEv, hE1, hE2, hbs, hRf, hRl, hRc, hRs, hz0, hG⟩ := id hcx
  have hlen2 : len = 1 := by simpa [okLen] using hlen
  subst hlen2
  unfold stepI s2i at h
  dsimp only at h
  split at h
  case h_1 y x r => exact lv_imul hx hb hd (hX _ _ _ _ _ _ _ h H locs ls hR hS hl h0 hlim)
  case h_2 => exact h.elim
theorem am_iand (hcx : cxA p R s m args meth c D cA E Ev G j lim n0 d) {C : aC} {Q : aQ} {X : aX} (hX : ∀ t lv st M N P nx, X t lv st M N P nx → mpA p l e R s m args below meth c D cA E j lim n0 Z t lv st M N P nx) {pc len : Nat} {lv : aL} {st : List Value} {M : aM} {N : aN} {P : aP} {nx : Nat}  (hd : decode (mCode j) pc = .ok (.iand, len)) (hlen : okLen (.iand) len = true) (h : stepI C G j lim Q X pc len (.iand) lv st M N P nx) : mpA p l e R s m args below meth c D cA E j lim n0 Z pc lv st M N P nx := by
  intro H locs ls hR hS hl h0 hlim
  obtain ⟨hx, hb, hml, hown, hts, hin, hEv, hE1, hE2, hbs, hRf, hRl, hRc, hRs, hz0, hG⟩ := id hcx
  have hlen2 : len = 1 := by simpa [okLen] using hlen
  subst hlen2
  unfold stepI s2i at h
  dsimp only at h
  split at h
  case h_1 y x r => exact lv_iand hx hb hd (hX _ _ _ _ _ _ _ h H locs ls hR hS hl h0 hlim)
  case h_2 => exact h.elim
theorem am_ior (hcx : cxA p R s m args meth c D cA E Ev G j lim n0 d) {C : aC} {Q : aQ} {X : aX} (hX : ∀ t lv st M N P nx, X t lv st M N P nx → mpA p l e R s m args below meth c D cA E j lim n0 Z t lv st M N P nx) {pc len : Nat} {lv : aL} {st : List Value} {M : aM} {N : aN} {P : aP} {nx : Nat}  (hd : decode (mCode j) pc = .ok (.ior, len)) (hlen : okLen (.ior) len = true) (h : stepI C G j lim Q X pc len (.ior) lv st M N P nx) : mpA p l e R s m args below meth c D cA E j lim n0 Z pc lv st M N P nx := by
  intro H locs ls hR hS hl h0 hlim
  obtain ⟨hx, hb, hml, hown, hts, hin, hEv, hE1, hE2, hbs, hRf, hRl, hRc, hRs, hz0, hG⟩ := id hcx
  have hlen2 : len = 1 := by simpa [okLen] using hlen
  subst hlen2
  unfold stepI s2i at h
  dsimp only at h
  split at h
  case h_1 y x r => exact lv_ior hx hb hd (hX _ _ _ _ _ _ _ h H locs ls hR hS hl h0 hlim)
  case h_2 => exact h.elim
theorem am_ishl (hcx : cxA p R s m args meth c D cA E Ev G j lim n0 d) {C : aC} {Q : aQ} {X : aX} (hX : ∀ t lv st M N P nx, X t lv st M N P nx → mpA p l e R s m args below meth c D cA E j lim n0 Z t lv st M N P nx) {pc len : Nat} {lv : aL} {st : List Value} {M : aM} {N : aN} {P : aP} {nx : Nat}  (hd : decode (mCode j) pc = .ok (.ishl, len)) (hlen : okLen (.ishl) len = true) (h : stepI C G j lim Q X pc len (.ishl) lv st M N P nx) : mpA p l e R s m args below meth c D cA E j lim n0 Z pc lv st M N P nx := by
  intro H locs ls hR hS hl h0 hlim
  obtain ⟨hx, hb, hml, hown, hts, hin, hEv, hE1, hE2, hbs, hRf, hRl, hRc, hRs, hz0, hG⟩ := id hcx
  have hlen2 : len = 1 := by simpa [okLen] using hlen
  subst hlen2
  unfold stepI s2i at h
  dsimp only at h
  split at h
  case h_1 y x r => exact lv_ishl hx hb hd (hX _ _ _ _ _ _ _ h H locs ls hR hS hl h0 hlim)
  case h_2 => exact h.elim
theorem am_ishr (hcx : cxA p R s m args meth c D cA E Ev G j lim n0 d) {C : aC} {Q : aQ} {X : aX} (hX : ∀ t lv st M N P nx, X t lv st M N P nx → mpA p l e R s m args below meth c D cA E j lim n0 Z t lv st M N P nx) {pc len : Nat} {lv : aL} {st : List Value} {M : aM} {N : aN} {P : aP} {nx : Nat}  (hd : decode (mCode j) pc = .ok (.ishr, len)) (hlen : okLen (.ishr) len = true) (h : stepI C G j lim Q X pc len (.ishr) lv st M N P nx) : mpA p l e R s m args below meth c D cA E j lim n0 Z pc lv st M N P nx := by
  intro H locs ls hR hS hl h0 hlim
  obtain ⟨hx, hb, hml, hown, hts, hin, hEv, hE1, hE2, hbs, hRf, hRl, hRc, hRs, hz0, hG⟩ := id hcx
  have hlen2 : len = 1 := by simpa [okLen] using hlen
  subst hlen2
  unfold stepI s2i at h
  dsimp only at h
  split at h
  case h_1 y x r => exact lv_ishr hx hb hd (hX _ _ _ _ _ _ _ h H locs ls hR hS hl h0 hlim)
  case h_2 => exact h.elim
theorem am_iushr (hcx : cxA p R s m args meth c D cA E Ev G j lim n0 d) {C : aC} {Q : aQ} {X : aX} (hX : ∀ t lv st M N P nx, X t lv st M N P nx → mpA p l e R s m args below meth c D cA E j lim n0 Z t lv st M N P nx) {pc len : Nat} {lv : aL} {st : List Value} {M : aM} {N : aN} {P : aP} {nx : Nat}  (hd : decode (mCode j) pc = .ok (.iushr, len)) (hlen : okLen (.iushr) len = true) (h : stepI C G j lim Q X pc len (.iushr) lv st M N P nx) : mpA p l e R s m args below meth c D cA E j lim n0 Z pc lv st M N P nx := by
  intro H locs ls hR hS hl h0 hlim
  obtain ⟨hx, hb, hml, hown, hts, hin, hEv, hE1, hE2, hbs, hRf, hRl, hRc, hRs, hz0, hG⟩ := id hcx
  have hlen2 : len = 1 := by simpa [okLen] using hlen
  subst hlen2
  unfold stepI s2i at h
  dsimp only at h
  split at h
  case h_1 y x r => exact lv_iushr hx hb hd rfl (hX _ _ _ _ _ _ _ h H locs ls hR hS hl h0 hlim)
  case h_2 => exact h.elim
theorem am_idiv (hcx : cxA p R s m args meth c D cA E Ev G j lim n0 d) {C : aC} {Q : aQ} {X : aX} (hX : ∀ t lv st M N P nx, X t lv st M N P nx → mpA p l e R s m args below meth c D cA E j lim n0 Z t lv st M N P nx) {pc len : Nat} {lv : aL} {st : List Value} {M : aM} {N : aN} {P : aP} {nx : Nat}  (hd : decode (mCode j) pc = .ok (.idiv, len)) (hlen : okLen (.idiv) len = true) (h : stepI C G j lim Q X pc len (.idiv) lv st M N P nx) : mpA p l e R s m args below meth c D cA E j lim n0 Z pc lv st M N P nx := by
  intro H locs ls hR hS hl h0 hlim
  obtain ⟨hx, hb, hml, hown, hts, hin, hEv, hE1, hE2, hbs, hRf, hRl, hRc, hRs, hz0, hG⟩ := id hcx
  have hlen2 : len = 1 := by simpa [okLen] using hlen
  subst hlen2
  unfold stepI s2i at h
  dsimp only at h
  split at h
  case h_1 y x r => exact lv_idiv hx hb hd h.1 (hX _ _ _ _ _ _ _ h.2 H locs ls hR hS hl h0 hlim)
  case h_2 => exact h.elim
theorem am_irem (hcx : cxA p R s m args meth c D cA E Ev G j lim n0 d) {C : aC} {Q : aQ} {X : aX} (hX : ∀ t lv st M N P nx, X t lv st M N P nx → mpA p l e R s m args below meth c D cA E j lim n0 Z t lv st M N P nx) {pc len : Nat} {lv : aL} {st : List Value} {M : aM} {N : aN} {P : aP} {nx : Nat}  (hd : decode (mCode j) pc = .ok (.irem, len)) (hlen : okLen (.irem) len = true) (h : stepI C G j lim Q X pc len (.irem) lv st M N P nx) : mpA p l e R s m args below meth c D cA E j lim n0 Z pc lv st M N P nx := by
  intro H locs ls hR hS hl h0 hlim
  obtain ⟨hx, hb, hml, hown, hts, hin, hEv, hE1, hE2, hbs, hRf, hRl, hRc, hRs, hz0, hG⟩ := id hcx
  have hlen2 : len = 1 := by simpa [okLen] using hlen
  subst hlen2
  unfold stepI s2i at h
  dsimp only at h
  split at h
  case h_1 y x r => exact lv_irem hx hb hd h.1 (hX _ _ _ _ _ _ _ h.2 H locs ls hR hS hl h0 hlim)
  case h_2 => exact h.elim
theorem am_i2l (hcx : cxA p R s m args meth c D cA E Ev G j lim n0 d) {C : aC} {Q : aQ} {X : aX} (hX : ∀ t lv st M N P nx, X t lv st M N P nx → mpA p l e R s m args below meth c D cA E j lim n0 Z t lv st M N P nx) {pc len : Nat} {lv : aL} {st : List Value} {M : aM} {N : aN} {P : aP} {nx : Nat}  (hd : decode (mCode j) pc = .ok (.i2l, len)) (hlen : okLen (.i2l) len = true) (h : stepI C G j lim Q X pc len (.i2l) lv st M N P nx) : mpA p l e R s m args below meth c D cA E j lim n0 Z pc lv st M N P nx := by
  intro H locs ls hR hS hl h0 hlim
  obtain ⟨hx, hb, hml, hown, hts, hin, hEv, hE1, hE2, hbs, hRf, hRl, hRc, hRs, hz0, hG⟩ := id hcx
  have hlen2 : len = 1 := by simpa [okLen] using hlen
  subst hlen2
  unfold stepI s1i at h
  dsimp only at h
  split at h
  case h_1 x r => exact lv_i2l hx hb hd rfl (hX _ _ _ _ _ _ _ h H locs ls hR hS hl h0 hlim)
  case h_2 => exact h.elim
theorem am_l2i (hcx : cxA p R s m args meth c D cA E Ev G j lim n0 d) {C : aC} {Q : aQ} {X : aX} (hX : ∀ t lv st M N P nx, X t lv st M N P nx → mpA p l e R s m args below meth c D cA E j lim n0 Z t lv st M N P nx) {pc len : Nat} {lv : aL} {st : List Value} {M : aM} {N : aN} {P : aP} {nx : Nat}  (hd : decode (mCode j) pc = .ok (.l2i, len)) (hlen : okLen (.l2i) len = true) (h : stepI C G j lim Q X pc len (.l2i) lv st M N P nx) : mpA p l e R s m args below meth c D cA E j lim n0 Z pc lv st M N P nx := by
  intro H locs ls hR hS hl h0 hlim
  obtain ⟨hx, hb, hml, hown, hts, hin, hEv, hE1, hE2, hbs, hRf, hRl, hRc, hRs, hz0, hG⟩ := id hcx
  have hlen2 : len = 1 := by simpa [okLen] using hlen
  subst hlen2
  unfold stepI s1l at h
  dsimp only at h
  split at h
  case h_1 x r => exact lv_l2i hx hb hd rfl (hX _ _ _ _ _ _ _ h H locs ls hR hS hl h0 hlim)
  case h_2 => exact h.elim
theorem am_i2b (hcx : cxA p R s m args meth c D cA E Ev G j lim n0 d) {C : aC} {Q : aQ} {X : aX} (hX : ∀ t lv st M N P nx, X t lv st M N P nx → mpA p l e R s m args below meth c D cA E j lim n0 Z t lv st M N P nx) {pc len : Nat} {lv : aL} {st : List Value} {M : aM} {N : aN} {P : aP} {nx : Nat}  (hd : decode (mCode j) pc = .ok (.i2b, len)) (hlen : okLen (.i2b) len = true) (h : stepI C G j lim Q X pc len (.i2b) lv st M N P nx) : mpA p l e R s m args below meth c D cA E j lim n0 Z pc lv st M N P nx := by
  intro H locs ls hR hS hl h0 hlim
  obtain ⟨hx, hb, hml, hown, hts, hin, hEv, hE1, hE2, hbs, hRf, hRl, hRc, hRs, hz0, hG⟩ := id hcx
  have hlen2 : len = 1 := by simpa [okLen] using hlen
  subst hlen2
  unfold stepI s1i at h
  dsimp only at h
  split at h
  case h_1 x r => exact lv_i2b hx hb hd rfl (hX _ _ _ _ _ _ _ h H locs ls hR hS hl h0 hlim)
  case h_2 => exact h.elim
theorem am_ladd (hcx : cxA p R s m args meth c D cA E Ev G j lim n0 d) {C : aC} {Q : aQ} {X : aX} (hX : ∀ t lv st M N P nx, X t lv st M N P nx → mpA p l e R s m args below meth c D cA E j lim n0 Z t lv st M N P nx) {pc len : Nat} {lv : aL} {st : List Value} {M : aM} {N : aN} {P : aP} {nx : Nat}  (hd : decode (mCode j) pc = .ok (.ladd, len)) (hlen : okLen (.ladd) len = true) (h : stepI C G j lim Q X pc len (.ladd) lv st M N P nx) : mpA p l e R s m args below meth c D cA E j lim n0 Z pc lv st M N P nx := by
  intro H locs ls hR hS hl h0 hlim
  obtain ⟨hx, hb, hml, hown, hts, hin, hEv, hE1, hE2, hbs, hRf, hRl, hRc, hRs, hz0, hG⟩ := id hcx
  have hlen2 : len = 1 := by simpa [okLen] using hlen
  subst hlen2
  unfold stepI s2l at h
  dsimp only at h
  split at h
  case h_1 y x r => exact lv_ladd hx hb hd (hX _ _ _ _ _ _ _ h H locs ls hR hS hl h0 hlim)
  case h_2 => exact h.elim
theorem am_lsub (hcx : cxA p R s m args meth c D cA E Ev G j lim n0 d) {C : aC} {Q : aQ} {X : aX} (hX : ∀ t lv st M N P nx, X t lv st M N P nx → mpA p l e R s m args below meth c D cA E j lim n0 Z t lv st M N P nx) {pc len : Nat} {lv : aL} {st : List Value} {M : aM} {N : aN} {P : aP} {nx : Nat}  (hd : decode (mCode j) pc = .ok (.lsub, len)) (hlen : okLen (.lsub) len = true) (h : stepI C G j lim Q X pc len (.lsub) lv st M N P nx) : mpA p l e R s m args below meth c D cA E j lim n0 Z pc lv st M N P nx := by
  intro H locs ls hR hS hl h0 hlim
  obtain ⟨hx, hb, hml, hown, hts, hin, hEv, hE1, hE2, hbs, hRf, hRl, hRc, hRs, hz0, hG⟩ := id hcx
  have hlen2 : len = 1 := by simpa [okLen] using hlen
  subst hlen2
  unfold stepI s2l at h
  dsimp only at h
  split at h
  case h_1 y x r => exact lv_lsub hx hb hd (hX _ _ _ _ _ _ _ h H locs ls hR hS hl h0 hlim)
  case h_2 => exact h.elim
theorem am_land (hcx : cxA p R s m args meth c D cA E Ev G j lim n0 d) {C : aC} {Q : aQ} {X : aX} (hX : ∀ t lv st M N P nx, X t lv st M N P nx → mpA p l e R s m args below meth c D cA E j lim n0 Z t lv st M N P nx) {pc len : Nat} {lv : aL} {st : List Value} {M : aM} {N : aN} {P : aP} {nx : Nat}  (hd : decode (mCode j) pc = .ok (.land, len)) (hlen : okLen (.land) len = true) (h : stepI C G j lim Q X pc len (.land) lv st M N P nx) : mpA p l e R s m args below meth c D cA E j lim n0 Z pc lv st M N P nx := by
  intro H locs ls hR hS hl h0 hlim
  obtain ⟨hx, hb, hml, hown, hts, hin, hEv, hE1, hE2, hbs, hRf, hRl, hRc, hRs, hz0, hG⟩ := id hcx
  have hlen2 : len = 1 := by simpa [okLen] using hlen
  subst hlen2
  unfold stepI s2l at h
  dsimp only at h
  split at h
  case h_1 y x r => exact lv_land hx hb hd (hX _ _ _ _ _ _ _ h H locs ls hR hS hl h0 hlim)
  case h_2 => exact h.elim
theorem am_lor (hcx : cxA p R s m args meth c D cA E Ev G j lim n0 d) {C : aC} {Q : aQ} {X : aX} (hX : ∀ t lv st M N P nx, X t lv st M N P nx → mpA p l e R s m args below meth c D cA E j lim n0 Z t lv st M N P nx) {pc len : Nat} {lv : aL} {st : List Value} {M : aM} {N : aN} {P : aP} {nx : Nat}  (hd : decode (mCode j) pc = .ok (.lor, len)) (hlen : okLen (.lor) len = true) (h : stepI C G j lim Q X pc len (.lor) lv st M N P nx) : mpA p l e R s m args below meth c D cA E j lim n0 Z pc lv st M N P nx := by
  intro H locs ls hR hS hl h0 hlim
  obtain ⟨hx, hb, hml, hown, hts, hin, hEv, hE1, hE2, hbs, hRf, hRl, hRc, hRs, hz0, hG⟩ := id hcx
  have hlen2 : len = 1 := by simpa [okLen] using hlen
  subst hlen2
  unfold stepI s2l at h
  dsimp only at h
  split at h
  case h_1 y x r => exact lv_lor hx hb hd (hX _ _ _ _ _ _ _ h H locs ls hR hS hl h0 hlim)
  case h_2 => exact h.elim
theorem am_lshl (hcx : cxA p R s m args meth c D cA E Ev G j lim n0 d) {C : aC} {Q : aQ} {X : aX} (hX : ∀ t lv st M N P nx, X t lv st M N P nx → mpA p l e R s m args below meth c D cA E j lim n0 Z t lv st M N P nx) {pc len : Nat} {lv : aL} {st : List Value} {M : aM} {N : aN} {P : aP} {nx : Nat}  (hd : decode (mCode j) pc = .ok (.lshl, len)) (hlen : okLen (.lshl) len = true) (h : stepI C G j lim Q X pc len (.lshl) lv st M N P nx) : mpA p l e R s m args below meth c D cA E j lim n0 Z pc lv st M N P nx := by
  intro H locs ls hR hS hl h0 hlim
  obtain ⟨hx, hb, hml, hown, hts, hin, hEv, hE1, hE2, hbs, hRf, hRl, hRc, hRs, hz0, hG⟩ := id hcx
  have hlen2 : len = 1 := by simpa [okLen] using hlen
  subst hlen2
  unfold stepI sli at h
  dsimp only at h
  split at h
  case h_1 y x r => exact lv_lshl hx hb hd rfl (hX _ _ _ _ _ _ _ h H locs ls hR hS hl h0 hlim)
  case h_2 => exact h.elim
theorem am_lshr (hcx : cxA p R s m args meth c D cA E Ev G j lim n0 d) {C : aC} {Q : aQ} {X : aX} (hX : ∀ t lv st M N P nx, X t lv st M N P nx → mpA p l e R s m args below meth c D cA E j lim n0 Z t lv st M N P nx) {pc len : Nat} {lv : aL} {st : List Value} {M : aM} {N : aN} {P : aP} {nx : Nat}  (hd : decode (mCode j) pc = .ok (.lshr, len)) (hlen : okLen (.lshr) len = true) (h : stepI C G j lim Q X pc len (.lshr) lv st M N P nx) : mpA p l e R s m args below meth c D cA E j lim n0 Z pc lv st M N P nx := by
  intro H locs ls hR hS hl h0 hlim
  obtain ⟨hx, hb, hml, hown, hts, hin, hEv, hE1, hE2, hbs, hRf, hRl, hRc, hRs, hz0, hG⟩ := id hcx
  have hlen2 : len = 1 := by simpa [okLen] using hlen
  subst hlen2
  unfold stepI sli at h
  dsimp only at h
  split at h
  case h_1 y x r => exact lv_lshr hx hb hd rfl (hX _ _ _ _ _ _ _ h H locs ls hR hS hl h0 hlim)
  case h_2 => exact h.elim
theorem am_lushr (hcx : cxA p R s m args meth c D cA E Ev G j lim n0 d) {C : aC} {Q : aQ} {X : aX} (hX : ∀ t lv st M N P nx, X t lv st M N P nx → mpA p l e R s m args below meth c D cA E j lim n0 Z t lv st M N P nx) {pc len : Nat} {lv : aL} {st : List Value} {M : aM} {N : aN} {P : aP} {nx : Nat}  (hd : decode (mCode j) pc = .ok (.lushr, len)) (hlen : okLen (.lushr) len = true) (h : stepI C G j lim Q X pc len (.lushr) lv st M N P nx) : mpA p l e R s m args below meth c D cA E j lim n0 Z pc lv st M N P nx := by
  intro H locs ls hR hS hl h0 hlim
  obtain ⟨hx, hb, hml, hown, hts, hin, hEv, hE1, hE2, hbs, hRf, hRl, hRc, hRs, hz0, hG⟩ := id hcx
  have hlen2 : len = 1 := by simpa [okLen] using hlen
  subst hlen2
  unfold stepI sli at h
  dsimp only at h
  split at h
  case h_1 y x r => exact lv_lushr hx hb hd rfl (hX _ _ _ _ _ _ _ h H locs ls hR hS hl h0 hlim)
  case h_2 => exact h.elim
theorem am_lcmp (hcx : cxA p R s m args meth c D cA E Ev G j lim n0 d) {C : aC} {Q : aQ} {X : aX} (hX : ∀ t lv st M N P nx, X t lv st M N P nx → mpA p l e R s m args below meth c D cA E j lim n0 Z t lv st M N P nx) {pc len : Nat} {lv : aL} {st : List Value} {M : aM} {N : aN} {P : aP} {nx : Nat}  (hd : decode (mCode j) pc = .ok (.lcmp, len)) (hlen : okLen (.lcmp) len = true) (h : stepI C G j lim Q X pc len (.lcmp) lv st M N P nx) : mpA p l e R s m args below meth c D cA E j lim n0 Z pc lv st M N P nx := by
  intro H locs ls hR hS hl h0 hlim
  obtain ⟨hx, hb, hml, hown, hts, hin, hEv, hE1, hE2, hbs, hRf, hRl, hRc, hRs, hz0, hG⟩ := id hcx
  have hlen2 : len = 1 := by simpa [okLen] using hlen
  subst hlen2
  unfold stepI s2l at h
  dsimp only at h
  split at h
  case h_1 y x r => exact W.lcmp hx hb hd (hX _ _ _ _ _ _ _ h H locs ls hR hS hl h0 hlim)
  case h_2 => exact h.elim
theorem am_dup (hcx : cxA p R s m args meth c D cA E Ev G j lim n0 d) {C : aC} {Q : aQ} {X : aX} (hX : ∀ t lv st M N P nx, X t lv st M N P nx → mpA p l e R s m args below meth c D cA E j lim n0 Z t lv st M N P nx) {pc len : Nat} {lv : aL} {st : List Value} {M : aM} {N : aN} {P : aP} {nx : Nat}  (hd : decode (mCode j) pc = .ok (.dup, len)) (hlen : okLen (.dup) len = true) (h : stepI C G j lim Q X pc len (.dup) lv st M N P nx) : mpA p l e R s m args below meth c D cA E j lim n0 Z pc lv st M N P nx := by
  intro H locs ls hR hS hl h0 hlim
  obtain ⟨hx, hb, hml, hown, hts, hin, hEv, hE1, hE2, hbs, hRf, hRl, hRc, hRs, hz0, hG⟩ := id hcx
  have hlen2 : len = 1 := by simpa [okLen] using hlen
  subst hlen2
  unfold stepI at h
  dsimp only at h
  split at h
  case h_1 v r =>
    cases hv : v.category == 1 with
    | false => rw [hv] at h; exact h.elim
    | true =>
      rw [hv] at h
      exact lv_dup hx hb hd (by rw [rv_cat]; simpa using hv) (hX _ _ _ _ _ _ _ h H locs ls hR hS hl h0 hlim)
  case h_2 => exact h.elim
theorem am_pop (hcx : cxA p R s m args meth c D cA E Ev G j lim n0 d) {C : aC} {Q : aQ} {X : aX} (hX : ∀ t lv st M N P nx, X t lv st M N P nx → mpA p l e R s m args below meth c D cA E j lim n0 Z t lv st M N P nx) {pc len : Nat} {lv : aL} {st : List Value} {M : aM} {N : aN} {P : aP} {nx : Nat}  (hd : decode (mCode j) pc = .ok (.pop, len)) (hlen : okLen (.pop) len = true) (h : stepI C G j lim Q X pc len (.pop) lv st M N P nx) : mpA p l e R s m args below meth c D cA E j lim n0 Z pc lv st M N P nx := by
  intro H locs ls hR hS hl h0 hlim
  obtain ⟨hx, hb, hml, hown, hts, hin, hEv, hE1, hE2, hbs, hRf, hRl, hRc, hRs, hz0, hG⟩ := id hcx
  have hlen2 : len = 1 := by simpa [okLen] using hlen
  subst hlen2
  unfold stepI at h
  dsimp only at h
  split at h
  case h_1 v r =>
    cases hv : v.category == 1 with
    | false => rw [hv] at h; exact h.elim
    | true =>
      rw [hv] at h
      exact lv_pop hx hb hd (by rw [rv_cat]; simpa using hv) (hX _ _ _ _ _ _ _ h H locs ls hR hS hl h0 hlim)
  case h_2 => exact h.elim
theorem am_dup2 (hcx : cxA p R s m args meth c D cA E Ev G j lim n0 d) {C : aC} {Q : aQ} {X : aX} (hX : ∀ t lv st M N P nx, X t lv st M N P nx → mpA p l e R s m args below meth c D cA E j lim n0 Z t lv st M N P nx) {pc len : Nat} {lv : aL} {st : List Value} {M : aM} {N : aN} {P : aP} {nx : Nat}  (hd : decode (mCode j) pc = .ok (.dup2, len)) (hlen : okLen (.dup2) len = true) (h : stepI C G j lim Q X pc len (.dup2) lv st M N P nx) : mpA p l e R s m args below meth c D cA E j lim n0 Z pc lv st M N P nx := by
  intro H locs ls hR hS hl h0 hlim
  obtain ⟨hx, hb, hml, hown, hts, hin, hEv, hE1, hE2, hbs, hRf, hRl, hRc, hRs, hz0, hG⟩ := id hcx
  have hlen2 : len = 1 := by simpa [okLen] using hlen
  subst hlen2
  unfold stepI at h
  dsimp only at h
  split at h
  case h_1 v w r =>
    cases hv : (v.category == 1 && w.category == 1) with
    | false => rw [hv] at h; exact h.elim
    | true =>
      rw [hv] at h
      simp only [Bool.and_eq_true, beq_iff_eq] at hv
      exact lv_dup2_11 hx hb hd (by rw [rv_cat]; exact hv.1) (by rw [rv_cat]; exact hv.2) (hX _ _ _ _ _ _ _ h H locs ls hR hS hl h0 hlim)
  case h_2 => exact h.elim
theorem am_goto (hcx : cxA p R s m args meth c D cA E Ev G j lim n0 d) {C : aC} {Q : aQ} {X : aX} (hX : ∀ t lv st M N P nx, X t lv st M N P nx → mpA p l e R s m args below meth c D cA E j lim n0 Z t lv st M N P nx) {pc len : Nat} {lv : aL} {st : List Value} {M : aM} {N : aN} {P : aP} {nx : Nat} {off : Int} (hd : decode (mCode j) pc = .ok (.goto off, len)) (hlen : okLen (.goto off) len = true) (h : stepI C G j lim Q X pc len (.goto off) lv st M N P nx) : mpA p l e R s m args below meth c D cA E j lim n0 Z pc lv st M N P nx := by
  intro H locs ls hR hS hl h0 hlim
  obtain ⟨hx, hb, hml, hown, hts, hin, hEv, hE1, hE2, hbs, hRf, hRl, hRc, hRs, hz0, hG⟩ := id hcx
  have hlen2 : len = 3 := by simpa [okLen] using hlen
  subst hlen2
  obtain ⟨t, ht, h⟩ := jmp_el h
  exact lv_goto hx hb hd ht (hX _ _ _ _ _ _ _ h H locs ls hR hS hl h0 hlim)
theorem am_ifCond (hcx : cxA p R s m args meth c D cA E Ev G j lim n0 d) {C : aC} {Q : aQ} {X : aX} (hX : ∀ t lv st M N P nx, X t lv st M N P nx → mpA p l e R s m args below meth c D cA E j lim n0 Z t lv st M N P nx) {pc len : Nat} {lv : aL} {st : List Value} {M : aM} {N : aN} {P : aP} {nx : Nat} {cd : ClassFile.Cond} {off : Int} (hd : decode (mCode j) pc = .ok (.ifCond cd off, len)) (hlen : okLen (.ifCond cd off) len = true) (h : stepI C G j lim Q X pc len (.ifCond cd off) lv st M N P nx) : mpA p l e R s m args below meth c D cA E j lim n0 Z pc lv st M N P nx := by
  intro H locs ls hR hS hl h0 hlim
  obtain ⟨hx, hb, hml, hown, hts, hin, hEv, hE1, hE2, hbs, hRf, hRl, hRc, hRs, hz0, hG⟩ := id hcx
  have hlen2 : len = 3 := by simpa [okLen] using hlen
  subst hlen2
  unfold stepI s1i at h
  dsimp only at h
  split at h
  case h_1 x r =>
    obtain ⟨t, ht, h⟩ := jmp_el h
    cases cd
    case eq => exact lv_if_eq hx hb hd ht (fun z => hX _ _ _ _ _ _ _ (h.1 z) H locs ls hR hS hl h0 hlim) (fun z => hX _ _ _ _ _ _ _ (h.2 z) H locs ls hR hS hl h0 hlim)
    case ne => exact lv_if_ne hx hb hd ht (fun z => hX _ _ _ _ _ _ _ (h.1 z) H locs ls hR hS hl h0 hlim) (fun z => hX _ _ _ _ _ _ _ (h.2 z) H locs ls hR hS hl h0 hlim)
    case lt => exact lv_if_lt hx hb hd ht (fun z => hX _ _ _ _ _ _ _ (h.1 z) H locs ls hR hS hl h0 hlim) (fun z => hX _ _ _ _ _ _ _ (h.2 z) H locs ls hR hS hl h0 hlim)
    case ge => exact lv_if_ge hx hb hd ht (fun z => hX _ _ _ _ _ _ _ (h.1 z) H locs ls hR hS hl h0 hlim) (fun z => hX _ _ _ _ _ _ _ (h.2 z) H locs ls hR hS hl h0 hlim)
    case gt => exact lv_if_gt hx hb hd ht (fun z => hX _ _ _ _ _ _ _ (h.1 z) H locs ls hR hS hl h0 hlim) (fun z => hX _ _ _ _ _ _ _ (h.2 z) H locs ls hR hS hl h0 hlim)
    case le => exact lv_if_le hx hb hd ht (fun z => hX _ _ _ _ _ _ _ (h.1 z) H locs ls hR hS hl h0 hlim) (fun z => hX _ _ _ _ _ _ _ (h.2 z) H locs ls hR hS hl h0 hlim)
  case h_2 => exact h.elim
theorem am_if_icmp (hcx : cxA p R s m args meth c D cA E Ev G j lim n0 d) {C : aC} {Q : aQ} {X : aX} (hX : ∀ t lv st M N P nx, X t lv st M N P nx → mpA p l e R s m args below meth c D cA E j lim n0 Z t lv st M N P nx) {pc len : Nat} {lv : aL} {st : List Value} {M : aM} {N : aN} {P : aP} {nx : Nat} {cd : ClassFile.Cond} {off : Int} (hd : decode (mCode j) pc = .ok (.if_icmp cd off, len)) (hlen : okLen (.if_icmp cd off) len = true) (h : stepI C G j lim Q X pc len (.if_icmp cd off) lv st M N P nx) : mpA p l e R s m args below meth c D cA E j lim n0 Z pc lv st M N P nx := by
  intro H locs ls hR hS hl h0 hlim
  obtain ⟨hx, hb, hml, hown, hts, hin, hEv, hE1, hE2, hbs, hRf, hRl, hRc, hRs, hz0, hG⟩ := id hcx
  have hlen2 : len = 3 := by simpa [okLen] using hlen
  subst hlen2
  unfold stepI s2i at h
  dsimp only at h
  split at h
  case h_1 y x r =>
    obtain ⟨t, ht, h⟩ := jmp_el h
    cases cd
    case eq => exact lv_icmp_eq hx hb hd ht (fun z => hX _ _ _ _ _ _ _ (h.1 z) H locs ls hR hS hl h0 hlim) (fun z => hX _ _ _ _ _ _ _ (h.2 z) H locs ls hR hS hl h0 hlim)
    case ne => exact lv_icmp_ne hx hb hd ht (fun z => hX _ _ _ _ _ _ _ (h.1 z) H locs ls hR hS hl h0 hlim) (fun z => hX _ _ _ _ _ _ _ (h.2 z) H locs ls hR hS hl h0 hlim)
    case lt => exact lv_icmp_lt hx hb hd ht (fun z => hX _ _ _ _ _ _ _ (h.1 z) H locs ls hR hS hl h0 hlim) (fun z => hX _ _ _ _ _ _ _ (h.2 z) H locs ls hR hS hl h0 hlim)
    case ge => exact lv_icmp_ge hx hb hd ht (fun z => hX _ _ _ _ _ _ _ (h.1 z) H locs ls hR hS hl h0 hlim) (fun z => hX _ _ _ _ _ _ _ (h.2 z) H locs ls hR hS hl h0 hlim)
    case gt => exact lv_icmp_gt hx hb hd ht (fun z => hX _ _ _ _ _ _ _ (h.1 z) H locs ls hR hS hl h0 hlim) (fun z => hX _ _ _ _ _ _ _ (h.2 z) H locs ls hR hS hl h0 hlim)
    case le => exact lv_icmp_le hx hb hd ht (fun z => hX _ _ _ _ _ _ _ (h.1 z) H locs ls hR hS hl h0 hlim) (fun z => hX _ _ _ _ _ _ _ (h.2 z) H locs ls hR hS hl h0 hlim)
  case h_2 => exact h.elim
theorem am_tableswitch (hcx : cxA p R s m args meth c D cA E Ev G j lim n0 d) {C : aC} {Q : aQ} {X : aX} (hX : ∀ t lv st M N P nx, X t lv st M N P nx → mpA p l e R s m args below meth c D cA E j lim n0 Z t lv st M N P nx) {pc len : Nat} {lv : aL} {st : List Value} {M : aM} {N : aN} {P : aP} {nx : Nat} {df lo hi : Int} {offs : Array Int} (hd : decode (mCode j) pc = .ok (.tableswitch df lo hi offs, len)) (hsw : okSw (.tableswitch df lo hi offs) = true) (h : stepI C G j lim Q X pc len (.tableswitch df lo hi offs) lv st M N P nx) : mpA p l e R s m args below meth c D cA E j lim n0 Z pc lv st M N P nx := by
  intro H locs ls hR hS hl h0 hlim
  obtain ⟨hx, hb, hml, hown, hts, hin, hEv, hE1, hE2, hbs, hRf, hRl, hRc, hRs, hz0, hG⟩ := id hcx
  unfold stepI s1i at h
  dsimp only at h
  split at h
  case h_2 => exact h.elim
  case h_1 x r =>
  simp only [okSw, Bool.and_eq_true, beq_iff_eq, decide_eq_true_eq] at hsw
  obtain ⟨⟨s1, s2⟩, s3⟩ := hsw
  have hsz : offs.toList.length = offs.size := Array.length_toList
  obtain ⟨a, b⟩ := swT_el offs.toList lo s2 (by rw [hsz]; omega) h
  by_cases ho : x.toInt < lo ∨ hi < x.toInt
  · obtain ⟨t, ht, h⟩ := jmp_el (b (by rw [hsz]; omega))
    exact lv_tableOut hx hb hd ho ht (hX _ _ _ _ _ _ _ h H locs ls hR hS hl h0 hlim)
  · obtain ⟨off, e1, h⟩ := a (x.toInt - lo).toNat (by omega) (by rw [hsz]; omega)
    obtain ⟨t, ht, h⟩ := jmp_el h
    exact lv_tableIn hx hb hd (fun z => ho (Or.inl z)) (fun z => ho (Or.inr z)) (by rw [← Array.getElem?_toList]; exact e1) ht (hX _ _ _ _ _ _ _ h H locs ls hR hS hl h0 hlim)
theorem am_lookupswitch (hcx : cxA p R s m args meth c D cA E Ev G j lim n0 d) {C : aC} {Q : aQ} {X : aX} (hX : ∀ t lv st M N P nx, X t lv st M N P nx → mpA p l e R s m args below meth c D cA E j lim n0 Z t lv st M N P nx) {pc len : Nat} {lv : aL} {st : List Value} {M : aM} {N : aN} {P : aP} {nx : Nat} {df : Int} {ps : Array (Int × Int)} (hd : decode (mCode j) pc = .ok (.lookupswitch df ps, len)) (hsw : okSw (.lookupswitch df ps) = true) (h : stepI C G j lim Q X pc len (.lookupswitch df ps) lv st M N P nx) : mpA p l e R s m args below meth c D cA E j lim n0 Z pc lv st M N P nx := by
  intro H locs ls hR hS hl h0 hlim
  obtain ⟨hx, hb, hml, hown, hts, hin, hEv, hE1, hE2, hbs, hRf, hRl, hRc, hRs, hz0, hG⟩ := id hcx
  unfold stepI s1i at h
  dsimp only at h
  split at h
  case h_2 => exact h.elim
  case h_1 x r =>
  rw [okSw, Bool.and_eq_true] at hsw
  obtain ⟨t, ht, h⟩ := jmp_el (swL_el ps.toList hsw.2 h)
  exact lv_lookup hx hb hd hsw.1 rfl ht (hX _ _ _ _ _ _ _ h H locs ls hR hS hl h0 hlim)
theorem am_getfield (hcx : cxA p R s m args meth c D cA E Ev G j lim n0 d) {C : aC} {Q : aQ} {X : aX} (hX : ∀ t lv st M N P nx, X t lv st M N P nx → mpA p l e R s m args below meth c D cA E j lim n0 Z t lv st M N P nx) {pc len : Nat} {lv : aL} {st : List Value} {M : aM} {N : aN} {P : aP} {nx : Nat} {n : Nat} (hd : decode (mCode j) pc = .ok (.getfield n, len)) (hlen : okLen (.getfield n) len = true) (h : stepI C G j lim Q X pc len (.getfield n) lv st M N P nx) : mpA p l e R s m args below meth c D cA E j lim n0 Z pc lv st M N P nx := by
  intro H locs ls hR hS hl h0 hlim
  obtain ⟨hx, hb, hml, hown, hts, hin, hEv, hE1, hE2, hbs, hRf, hRl, hRc, hRs, hz0, hG⟩ := id hcx
  have hlen2 : len = 3 := by simpa [okLen] using hlen
  subst hlen2
  unfold stepI s1r at h
  dsimp only at h
  split at h
  case h_2 => exact h.elim
  case h_1 o r =>
  split at h
  case h_2 => exact h.elim
  case h_1 ci k hf =>
  obtain ⟨hO, h⟩ := h
  obtain ⟨q, hq, hk, hlink⟩ := fa_all hf
  obtain ⟨c1, c2, c3, c4, c5, c6⟩ := cx_all ci q hq
  have hget := wsW_get (cA := cA) (bs := E.1) (M := M) (N := N) (P := P) hO.2 (kind_lt hO.1 (by decide))
  rw [ceW_obj hO.1] at hget
  refine va_get (D := D) (ci := ci) (C := q.1) (T := q.2.1) (N := q.2.2) (ref := q.1) hx hb hts c1 hown (hE2 s H (ev_at hcx hS)).1 hR o hget hq k hk (hts _ hlink) (fun _ h9 => by rw [c6 k hk] at h9; exact h9) (fsW_get (by rw [nF_eq hq]; exact hk)) hd ?_
  have hty := ty_all ci (by have := (List.getElem?_eq_some_iff.mp hq).1; simpa using this) k (by rw [nF_eq hq]; exact hk)
  revert h hty
  generalize cTy ci k = ty
  intro h hty
  cases ty <;> first | (exact absurd hty (by decide)) | skip
  case int => exact hX _ _ _ _ _ _ _ h H locs ls hR hS hl h0 hlim
  case long => exact hX _ _ _ _ _ _ _ h H locs ls hR hS hl h0 hlim
  all_goals (obtain ⟨a, ha, h⟩ := h; show W _ _ _ _ _ _ _ _ _ _ _ _ _ _ _ (F0 m (pc + 3) ls ((match P o k with | none => Value.null | some a => .ref (E.1 + a)) :: r.map (rv E))); rw [ha]; exact hX _ _ _ _ _ _ _ h H locs ls hR hS hl h0 hlim)
theorem am_putfield (hcx : cxA p R s m args meth c D cA E Ev G j lim n0 d) {C : aC} {Q : aQ} {X : aX} (hX : ∀ t lv st M N P nx, X t lv st M N P nx → mpA p l e R s m args below meth c D cA E j lim n0 Z t lv st M N P nx) {pc len : Nat} {lv : aL} {st : List Value} {M : aM} {N : aN} {P : aP} {nx : Nat} {n : Nat} (hd : decode (mCode j) pc = .ok (.putfield n, len)) (hlen : okLen (.putfield n) len = true) (h : stepI C G j lim Q X pc len (.putfield n) lv st M N P nx) : mpA p l e R s m args below meth c D cA E j lim n0 Z pc lv st M N P nx := by
  intro H locs ls hR hS hl h0 hlim
  obtain ⟨hx, hb, hml, hown, hts, hin, hEv, hE1, hE2, hbs, hRf, hRl, hRc, hRs, hz0, hG⟩ := id hcx
  have hlen2 : len = 3 := by simpa [okLen] using hlen
  subst hlen2
  unfold stepI at h
  dsimp only at h
  split at h
  case h_2 => exact h.elim
  case h_1 ci k hf =>
  obtain ⟨q, hq, hk, hlink⟩ := fa_all hf
  obtain ⟨c1, c2, c3, c4, c5, c6⟩ := cx_all ci q hq
  have hff : fldFin ci k = (q.2.1 k).2.2.2 := by unfold fldFin; rw [hq]
  have hci8 : ci < 8 := by have := (List.getElem?_eq_some_iff.mp hq).1; simpa using this
  have hnF : k < nF ci := by rw [nF_eq hq]; exact hk
  cases hfb : (fldFin ci k && !(mKind j == 2 && mOwn j == ci)) with
  | true => rw [hfb] at h; exact h.elim
  | false =>
  rw [hfb] at h
  have hK := (hE2 s H (ev_at hcx hS)).1
  have put : ∀ (o : Nat) (v : Value) (r : List Value) (M2 : aM) (N2 : aN) (P2 : aP), okO nx o ci → narrow (cTy ci k) v = v → fits (cTy ci k) v = true → v = fvW E.1 (cTy ci k) M2 N2 P2 o k → (∀ i, i ≠ k → fvW E.1 (cTy ci i) M2 N2 P2 o i = fvW E.1 (cTy ci i) M N P o i) → (∀ i, i ≠ o → M2 i = M i ∧ N2 i = N i ∧ P2 i = P i) → X (pc + 3) lv r M2 N2 P2 nx → W p l e R s m args below meth c H locs (nx - n0) (1068 * (nx - n0)) Z (F0 m pc ls (v :: .ref (E.1 + o) :: r.map (rv E))) := by
    intro o v r M2 N2 P2 hO hn hfi hv hsame hoth hgo
    have hget := wsW_get (cA := cA) (bs := E.1) (M := M) (N := N) (P := P) hO.2 (kind_lt hO.1 (by decide))
    rw [ceW_obj hO.1] at hget
    have hset : (wsW cA E.1 M N P nx).set o (E.1 + o, .inr (ci, (fsW E.1 ci M N P o).set k v)) = wsW cA E.1 M2 N2 P2 nx := wsW_set (by rw [ceW_obj hO.1, fsW_set hv hsame]) (fun i hi => ceW_eq (hoth i hi).1 (hoth i hi).2.1 (hoth i hi).2.2)
    cases hfin : (q.2.1 k).2.2.2 with
    | false => exact va_put (D := D) (ci := ci) (C := q.1) (T := q.2.1) (N := q.2.2) (ref := q.1) (ty := cTy ci k) hx hb hts c1 (cTy ci) c2 c3 hown hK hR wsW_D hS o hget hq k hk (hts _ hlink) (fun _ h9 => by rw [c6 k hk] at h9; exact h9) hfin (c2 k hk) hn hfi (by rw [fsW_len]; exact hnF) hd (fun H1 locs1 hP1 _ hS1 => by rw [hset] at hP1; exact hX _ _ _ _ _ _ _ hgo H1 locs1 ls hP1 hS1 hl h0 hlim)
    | true =>
      rw [hff, hfin] at hfb
      simp only [Bool.true_and, Bool.not_eq_false', Bool.and_eq_true, beq_iff_eq] at hfb
      exact va_putF (D := D) (ci := ci) (C := q.1) (T := q.2.1) (N := q.2.2) (ref := q.1) (own := oName (mOwn j)) (ty := cTy ci k) hx hb hts c1 (cTy ci) c2 c3 hown hK hR wsW_D hS o hget hq k hk (hts _ hlink) (fun _ h9 => by rw [c6 k hk] at h9; exact h9) hfin (hin hfb.1) (by rw [c6 k hk, hfb.2]; exact oName_cl ci q hq) (c2 k hk) hn hfi (by rw [fsW_len]; exact hnF) hd (fun H1 locs1 hP1 _ hS1 => by rw [hset] at hP1; exact hX _ _ _ _ _ _ _ hgo H1 locs1 ls hP1 hS1 hl h0 hlim)
  have hty := ty_all ci hci8 k hnF
  have fve : ∀ (ty : FieldType) (M2 M1 : aM) (N2 N1 : aN) (P2 P1 : aP) (o i : Nat), M2 o i = M1 o i → N2 o i = N1 o i → P2 o i = P1 o i → fvW E.1 ty M2 N2 P2 o i = fvW E.1 ty M1 N1 P1 o i := by
    intro ty M2 M1 N2 N1 P2 P1 o i e1 e2 e3
    unfold fvW
    rw [e1, e2, e3]
  unfold putP at h
  split at h
  case h_1 hty1 =>
    split at h
    case h_2 => exact h.elim
    case h_1 x o r =>
    obtain ⟨hO, h⟩ := h
    exact put o (.int x) r _ _ _ hO (by rw [hty1]; rfl) (by rw [hty1]; rfl) (by rw [hty1]; show _ = Value.int (uM M o k x o k); rw [uM_eq, up_eq]) (fun i hi => fve _ _ _ _ _ _ _ _ _ (by rw [uM_eq, up_ne hi]) rfl rfl) (fun i hi => ⟨uM_ne hi, rfl, rfl⟩) h
  case h_2 hty1 =>
    split at h
    case h_2 => exact h.elim
    case h_1 x o r =>
    obtain ⟨hO, h⟩ := h
    exact put o (.long x) r _ _ _ hO (by rw [hty1]; rfl) (by rw [hty1]; rfl) (by rw [hty1]; show _ = Value.long (uN N o k x o k); rw [uN_eq, up_eq]) (fun i hi => fve _ _ _ _ _ _ _ _ _ rfl (by rw [uN_eq, up_ne hi]) rfl) (fun i hi => ⟨rfl, uN_ne hi, rfl⟩) h
  case h_3 hn1 hn2 =>
    split at h
    case h_2 => exact h.elim
    case h_1 x o r =>
    obtain ⟨hO, h⟩ := h
    refine put o (.ref (E.1 + x)) r _ _ _ hO ?_ ?_ ?_ (fun i hi => fve _ _ _ _ _ _ _ _ _ rfl rfl (by rw [uP_eq, up_ne hi])) (fun i hi => ⟨rfl, rfl, uP_ne hi⟩) h
    · cases hc : cTy ci k <;> first | rfl | (rw [hc] at hty; exact absurd hty (by decide))
    · cases hc : cTy ci k <;> first | rfl | (rw [hc] at hty; exact absurd hty (by decide)) | exact absurd hc hn1 | exact absurd hc hn2
    · cases hc : cTy ci k <;> first | (rw [hc] at hty; exact absurd hty (by decide)) | exact absurd hc hn1 | exact absurd hc hn2 | (show _ = match uP P o k (some x) o k with | none => Value.null | some a => .ref (E.1 + a); rw [uP_eq, up_eq])
theorem am_iaload (hcx : cxA p R s m args meth c D cA E Ev G j lim n0 d) {C : aC} {Q : aQ} {X : aX} (hX : ∀ t lv st M N P nx, X t lv st M N P nx → mpA p l e R s m args below meth c D cA E j lim n0 Z t lv st M N P nx) {pc len : Nat} {lv : aL} {st : List Value} {M : aM} {N : aN} {P : aP} {nx : Nat} (hG31 : G.1 < 2 ^ 31) (hd : decode (mCode j) pc = .ok (.iaload, len)) (hlen : okLen (.iaload) len = true) (h : stepI C G j lim Q X pc len (.iaload) lv st M N P nx) : mpA p l e R s m args below meth c D cA E j lim n0 Z pc lv st M N P nx := by
  intro H locs ls hR hS hl h0 hlim
  obtain ⟨hx, hb, hml, hown, hts, hin, hEv, hE1, hE2, hbs, hRf, hRl, hRc, hRs, hz0, hG⟩ := id hcx
  have hlen2 : len = 1 := by simpa [okLen] using hlen
  subst hlen2
  unfold stepI at h
  dsimp only at h
  split at h
  case h_1 i a r =>
    obtain ⟨k, hA, h⟩ := h
    obtain ⟨a1, a2, a3, a4⟩ := hA
    have h44 := kind_lt' a1 (by decide)
    obtain ⟨hin1, hcl⟩ := in_A a3 a4 (kind_sz a h44)
    have hget := wsW_get (cA := cA) (bs := E.1) (M := M) (N := N) (P := P) a2 h44
    have hK := (hE2 s H (ev_at hcx hS)).1
    rw [ceW_row a1 (by decide) (by decide)] at hget
    refine va_iald hx hb hK hR a 0 hget rfl hin1 hd ?_
    rw [hcl]
    exact hX _ _ _ _ _ _ _ h H locs ls hR hS hl h0 hlim
  case h_2 i r =>
    cases hj : j == 217 with
    | false => rw [hj] at h; exact h.elim
    | true =>
      rw [hj] at h
      obtain ⟨k, e1, e2, h⟩ := h
      obtain ⟨x1, x2, x3⟩ := hG (by simpa using hj)
      have hlt : G.1 < 2 ^ 31 := hG31
      have hcl : i.toNatClampNeg = k := by rw [e1]; exact nI_clamp (by omega)
      refine va_sld hx hb x1 x2 x3 hS (by rw [e1]; exact vp_in_nI e2 hlt) hd ?_
      rw [hcl]
      exact hX _ _ _ _ _ _ _ h H locs ls hR hS hl h0 hlim
  case h_3 => exact h.elim
theorem am_baload (hcx : cxA p R s m args meth c D cA E Ev G j lim n0 d) {C : aC} {Q : aQ} {X : aX} (hX : ∀ t lv st M N P nx, X t lv st M N P nx → mpA p l e R s m args below meth c D cA E j lim n0 Z t lv st M N P nx) {pc len : Nat} {lv : aL} {st : List Value} {M : aM} {N : aN} {P : aP} {nx : Nat}  (hd : decode (mCode j) pc = .ok (.baload, len)) (hlen : okLen (.baload) len = true) (h : stepI C G j lim Q X pc len (.baload) lv st M N P nx) : mpA p l e R s m args below meth c D cA E j lim n0 Z pc lv st M N P nx := by
  intro H locs ls hR hS hl h0 hlim
  obtain ⟨hx, hb, hml, hown, hts, hin, hEv, hE1, hE2, hbs, hRf, hRl, hRc, hRs, hz0, hG⟩ := id hcx
  have hlen2 : len = 1 := by simpa [okLen] using hlen
  subst hlen2
  unfold stepI at h
  dsimp only at h
  split at h
  case h_2 => exact h.elim
  case h_1 i a r =>
    obtain ⟨k, hA | hA, h⟩ := h
    · obtain ⟨a1, a2, a3, a4⟩ := hA
      have h44 := kind_lt' a1 (by decide)
      obtain ⟨hin1, hcl⟩ := in_A a3 a4 (kind_sz a h44)
      have hget := wsW_get (cA := cA) (bs := E.1) (M := M) (N := N) (P := P) a2 h44
      have hK := (hE2 s H (ev_at hcx hS)).1
      rw [ceW_row a1 (by decide) (by decide)] at hget
      refine va_bald hx hb hK hR a 1 hget rfl hin1 hd ?_
      rw [hcl]
      exact hX _ _ _ _ _ _ _ h H locs ls hR hS hl h0 hlim
    · obtain ⟨a1, a2, a3, a4⟩ := hA
      have h44 := kind_lt' a1 (by decide)
      obtain ⟨hin1, hcl⟩ := in_A a3 a4 (kind_sz a h44)
      have hget := wsW_get (cA := cA) (bs := E.1) (M := M) (N := N) (P := P) a2 h44
      have hK := (hE2 s H (ev_at hcx hS)).1
      rw [ceW_row a1 (by decide) (by decide)] at hget
      refine va_zald hx hb hK hR a 2 hget rfl hin1 hd ?_
      rw [hcl]
      exact hX _ _ _ _ _ _ _ h H locs ls hR hS hl h0 hlim
theorem am_laload (hcx : cxA p R s m args meth c D cA E Ev G j lim n0 d) {C : aC} {Q : aQ} {X : aX} (hX : ∀ t lv st M N P nx, X t lv st M N P nx → mpA p l e R s m args below meth c D cA E j lim n0 Z t lv st M N P nx) {pc len : Nat} {lv : aL} {st : List Value} {M : aM} {N : aN} {P : aP} {nx : Nat}  (hd : decode (mCode j) pc = .ok (.laload, len)) (hlen : okLen (.laload) len = true) (h : stepI C G j lim Q X pc len (.laload) lv st M N P nx) : mpA p l e R s m args below meth c D cA E j lim n0 Z pc lv st M N P nx := by
  intro H locs ls hR hS hl h0 hlim
  obtain ⟨hx, hb, hml, hown, hts, hin, hEv, hE1, hE2, hbs, hRf, hRl, hRc, hRs, hz0, hG⟩ := id hcx
  have hlen2 : len = 1 := by simpa [okLen] using hlen
  subst hlen2
  unfold stepI at h
  dsimp only at h
  split at h
  case h_2 => exact h.elim
  case h_1 i a r =>
    obtain ⟨k, hA, h⟩ := h
    obtain ⟨a1, a2, a3, a4⟩ := hA
    have h44 := kind_lt' a1 (by decide)
    obtain ⟨hin1, hcl⟩ := in_A a3 a4 (kind_sz a h44)
    have hget := wsW_get (cA := cA) (bs := E.1) (M := M) (N := N) (P := P) a2 h44
    have hK := (hE2 s H (ev_at hcx hS)).1
    rw [ceW_long a1] at hget
    refine va_lald hx hb hK hR a 3 hget rfl hin1 hd ?_
    rw [hcl]
    exact hX _ _ _ _ _ _ _ h H locs ls hR hS hl h0 hlim
theorem am_iastore (hcx : cxA p R s m args meth c D cA E Ev G j lim n0 d) {C : aC} {Q : aQ} {X : aX} (hX : ∀ t lv st M N P nx, X t lv st M N P nx → mpA p l e R s m args below meth c D cA E j lim n0 Z t lv st M N P nx) {pc len : Nat} {lv : aL} {st : List Value} {M : aM} {N : aN} {P : aP} {nx : Nat}  (hd : decode (mCode j) pc = .ok (.iastore, len)) (hlen : okLen (.iastore) len = true) (h : stepI C G j lim Q X pc len (.iastore) lv st M N P nx) : mpA p l e R s m args below meth c D cA E j lim n0 Z pc lv st M N P nx := by
  intro H locs ls hR hS hl h0 hlim
  obtain ⟨hx, hb, hml, hown, hts, hin, hEv, hE1, hE2, hbs, hRf, hRl, hRc, hRs, hz0, hG⟩ := id hcx
  have hlen2 : len = 1 := by simpa [okLen] using hlen
  subst hlen2
  unfold stepI at h
  dsimp only at h
  split at h
  case h_2 => exact h.elim
  case h_1 x i a r =>
    obtain ⟨k, hA, h⟩ := h
    obtain ⟨a1, a2, a3, a4⟩ := hA
    have h44 := kind_lt' a1 (by decide)
    obtain ⟨hin1, hcl⟩ := in_A a3 a4 (kind_sz a h44)
    have hget := wsW_get (cA := cA) (bs := E.1) (M := M) (N := N) (P := P) a2 h44
    have hK := (hE2 s H (ev_at hcx hS)).1
    rw [ceW_row a1 (by decide) (by decide)] at hget
    refine va_iast hx hb hK hR wsW_D hS a 0 hget rfl hin1 hd (fun H1 locs1 hP1 _ hS1 => ?_)
    have hset : (wsW cA E.1 M N P nx).set a (E.1 + a, .inl (cA 1, (kindOf a).2, .inl (upd (M a) k x))) = wsW cA E.1 (uM M a k x) N P nx := wsW_set (by rw [ceW_row a1 (by decide) (by decide), uM_eq]; rfl) (fun i hi => ceW_eq (uM_ne hi) rfl rfl)
    rw [hcl, hset] at hP1
    exact hX _ _ _ _ _ _ _ h H1 locs1 ls hP1 hS1 hl h0 hlim
theorem am_bastore (hcx : cxA p R s m args meth c D cA E Ev G j lim n0 d) {C : aC} {Q : aQ} {X : aX} (hX : ∀ t lv st M N P nx, X t lv st M N P nx → mpA p l e R s m args below meth c D cA E j lim n0 Z t lv st M N P nx) {pc len : Nat} {lv : aL} {st : List Value} {M : aM} {N : aN} {P : aP} {nx : Nat}  (hd : decode (mCode j) pc = .ok (.bastore, len)) (hlen : okLen (.bastore) len = true) (h : stepI C G j lim Q X pc len (.bastore) lv st M N P nx) : mpA p l e R s m args below meth c D cA E j lim n0 Z pc lv st M N P nx := by
  intro H locs ls hR hS hl h0 hlim
  obtain ⟨hx, hb, hml, hown, hts, hin, hEv, hE1, hE2, hbs, hRf, hRl, hRc, hRs, hz0, hG⟩ := id hcx
  have hlen2 : len = 1 := by simpa [okLen] using hlen
  subst hlen2
  unfold stepI at h
  dsimp only at h
  split at h
  case h_2 => exact h.elim
  case h_1 x i a r =>
    obtain ⟨k, y, ⟨hA, hy⟩ | ⟨hA, hz, hy⟩, h⟩ := h
    · subst hy
      obtain ⟨a1, a2, a3, a4⟩ := hA
      have h44 := kind_lt' a1 (by decide)
      obtain ⟨hin1, hcl⟩ := in_A a3 a4 (kind_sz a h44)
      have hget := wsW_get (cA := cA) (bs := E.1) (M := M) (N := N) (P := P) a2 h44
      have hK := (hE2 s H (ev_at hcx hS)).1
      rw [ceW_row a1 (by decide) (by decide)] at hget
      refine va_bast hx hb hK hR wsW_D hS a 1 hget rfl hin1 hd (fun H1 locs1 hP1 _ hS1 => ?_)
      have hset : (wsW cA E.1 M N P nx).set a (E.1 + a, .inl (cA 2, (kindOf a).2, .inl (upd (M a) k (x.toInt8.toInt32)))) = wsW cA E.1 (uM M a k x.toInt8.toInt32) N P nx := wsW_set (by rw [ceW_row a1 (by decide) (by decide), uM_eq]; rfl) (fun i hi => ceW_eq (uM_ne hi) rfl rfl)
      rw [hcl, vp_nar_byte, hset] at hP1
      exact hX _ _ _ _ _ _ _ h H1 locs1 ls hP1 hS1 hl h0 hlim
    · subst hy
      obtain ⟨a1, a2, a3, a4⟩ := hA
      have h44 := kind_lt' a1 (by decide)
      obtain ⟨hin1, hcl⟩ := in_A a3 a4 (kind_sz a h44)
      have hget := wsW_get (cA := cA) (bs := E.1) (M := M) (N := N) (P := P) a2 h44
      have hK := (hE2 s H (ev_at hcx hS)).1
      rw [ceW_row a1 (by decide) (by decide)] at hget
      refine va_zast hx hb hK hR wsW_D hS a 2 hget rfl hin1 hd (fun H1 locs1 hP1 _ hS1 => ?_)
      have hset : (wsW cA E.1 M N P nx).set a (E.1 + a, .inl (cA 3, (kindOf a).2, .inl (upd (M a) k y))) = wsW cA E.1 (uM M a k y) N P nx := wsW_set (by rw [ceW_row a1 (by decide) (by decide), uM_eq]; rfl) (fun i hi => ceW_eq (uM_ne hi) rfl rfl)
      rw [hcl, narZ' hz, hset] at hP1
      exact hX _ _ _ _ _ _ _ h H1 locs1 ls hP1 hS1 hl h0 hlim
theorem am_lastore (hcx : cxA p R s m args meth c D cA E Ev G j lim n0 d) {C : aC} {Q : aQ} {X : aX} (hX : ∀ t lv st M N P nx, X t lv st M N P nx → mpA p l e R s m args below meth c D cA E j lim n0 Z t lv st M N P nx) {pc len : Nat} {lv : aL} {st : List Value} {M : aM} {N : aN} {P : aP} {nx : Nat}  (hd : decode (mCode j) pc = .ok (.lastore, len)) (hlen : okLen (.lastore) len = true) (h : stepI C G j lim Q X pc len (.lastore) lv st M N P nx) : mpA p l e R s m args below meth c D cA E j lim n0 Z pc lv st M N P nx := by
  intro H locs ls hR hS hl h0 hlim
  obtain ⟨hx, hb, hml, hown, hts, hin, hEv, hE1, hE2, hbs, hRf, hRl, hRc, hRs, hz0, hG⟩ := id hcx
  have hlen2 : len = 1 := by simpa [okLen] using hlen
  subst hlen2
  unfold stepI at h
  dsimp only at h
  split at h
  case h_2 => exact h.elim
  case h_1 x i a r =>
    obtain ⟨k, hA, h⟩ := h
    obtain ⟨a1, a2, a3, a4⟩ := hA
    have h44 := kind_lt' a1 (by decide)
    obtain ⟨hin1, hcl⟩ := in_A a3 a4 (kind_sz a h44)
    have hget := wsW_get (cA := cA) (bs := E.1) (M := M) (N := N) (P := P) a2 h44
    have hK := (hE2 s H (ev_at hcx hS)).1
    rw [ceW_long a1] at hget
    refine va_last hx hb hK hR wsW_D hS a 3 hget rfl hin1 hd (fun H1 locs1 hP1 _ hS1 => ?_)
    have hset : (wsW cA E.1 M N P nx).set a (E.1 + a, .inl (cA 4, (kindOf a).2, .inr (.inl (vp_updL (N a) k x)))) = wsW cA E.1 M (uN N a k x) P nx := wsW_set (by rw [ceW_long a1, uN_eq]; rfl) (fun i hi => ceW_eq rfl (uN_ne hi) rfl)
    rw [hcl, hset] at hP1
    exact hX _ _ _ _ _ _ _ h H1 locs1 ls hP1 hS1 hl h0 hlim
theorem am_arraylength (hcx : cxA p R s m args meth c D cA E Ev G j lim n0 d) {C : aC} {Q : aQ} {X : aX} (hX : ∀ t lv st M N P nx, X t lv st M N P nx → mpA p l e R s m args below meth c D cA E j lim n0 Z t lv st M N P nx) {pc len : Nat} {lv : aL} {st : List Value} {M : aM} {N : aN} {P : aP} {nx : Nat}  (hd : decode (mCode j) pc = .ok (.arraylength, len)) (hlen : okLen (.arraylength) len = true) (h : stepI C G j lim Q X pc len (.arraylength) lv st M N P nx) : mpA p l e R s m args below meth c D cA E j lim n0 Z pc lv st M N P nx := by
  intro H locs ls hR hS hl h0 hlim
  obtain ⟨hx, hb, hml, hown, hts, hin, hEv, hE1, hE2, hbs, hRf, hRl, hRc, hRs, hz0, hG⟩ := id hcx
  have hlen2 : len = 1 := by simpa [okLen] using hlen
  subst hlen2
  unfold stepI at h
  dsimp only at h
  split at h
  case h_1 a r =>
    obtain ⟨a1, a2, h⟩ := h
    have h44 := kind_lt' a1 (by decide)
    have hget := wsW_get (cA := cA) (bs := E.1) (M := M) (N := N) (P := P) a2 h44
    rw [ceW_row a1 (by decide) (by decide)] at hget
    exact va_alen hx hb (hE2 s H (ev_at hcx hS)).1 hR a 0 hget (ty := .int) rfl (v := nI (kindOf a).2) rfl hd (hX _ _ _ _ _ _ _ h H locs ls hR hS hl h0 hlim)
  case h_2 r =>
    cases hj : j == 217 with
    | false => rw [hj] at h; exact h.elim
    | true =>
      rw [hj] at h
      obtain ⟨x1, x2, x3⟩ := hG (by simpa using hj)
      exact va_slen hx hb x1 x2 x3 hS hd (hX _ _ _ _ _ _ _ h H locs ls hR hS hl h0 hlim)
  case h_3 => exact h.elim
end INS
