/-! the start has it -/
theorem ev_start {p : Program} {s : State} {m : MethodId} {meth : Method} {c : Code} {b L : Nat} {xs : Nat → Int32} (C0 : lw_At p s m meth c b L xs) : ∃ (D : va_G) (cA : Nat → ClassId) (adr adV : Nat → Nat), evW D cA (s.heap.size, b, adr) adV s s.heap := by
  obtain ⟨-, -, -, -, -, hts, -, -, -, hgv⟩ := C0
  have hg : ∀ w ∈ gtbl, w.before #[Value.ref b] s = true := fun w hw => hts w (gt_tbl hw)
  have hs : ∀ w ∈ flW, w.before #[Value.ref b] s = true := flat_of_before _ hgv
  have hA : ∀ a : Nat, a < s.heap.size → ¬ aA s.heap.size a := fun a h => Nat.not_le.mpr h
  have h0 : ∀ k : Nat, ∃ q : ClassId × (Nat → Nat), ∀ z, vwCl[k]? = some z → u_Kn s z.1 z.2.1 z.2.2 q.1 q.2 := by
    intro k
    cases hk : vwCl[k]? with
    | none => exact ⟨((0 : Nat), fun _ => 0), fun z hz => by cases hz⟩
    | some q =>
      obtain ⟨c1, -, -, c4, -, -⟩ := cx_all k q hk
      obtain ⟨cC, iS, h⟩ := u_known hg c1 (hg _ c4)
      exact ⟨(cC, iS), fun z hz => by cases hz; exact h⟩
  obtain ⟨f, hf⟩ := Classical.axiomOfChoice h0
  have hr : ∀ ty, Cond.arrayClass ty ∈ gtbl → ∃ c : ClassId, ArrOfT s c ty ∧ s.vm.findClass ("[" ++ ty.toString) = some c := by
    intro ty h
    obtain ⟨c, k, comp, h1, h2, h3⟩ := Cond.arrayClass_spec (hg _ h)
    exact ⟨c, fun n z => ⟨fun k h => (by cases h), k, h2, comp, h3⟩, h1⟩
  obtain ⟨a1, r1, f1⟩ := hr _ lb_int
  obtain ⟨a2, r2, f2⟩ := hr _ lb_byte
  obtain ⟨a3, r3, f3⟩ := hr _ lb_boolean
  obtain ⟨a4, r4, f4⟩ := hr _ lb_long
  obtain ⟨adK, adV, hS, had⟩ := vk_Sof (args := #[Value.ref b]) (s := s) (N := 9) (tm := tmW) (len := lenW) (byt := bytW) (A := aA s.heap.size) (fun i hi => by have := len_W i hi; omega) (fun i hi => hs _ (nr_ex i hi)) (fun i hi => hs _ (nr_co i hi)) (fun i hi => hs _ (nr_ar i hi)) (fun i hi => hs _ (nr_le i hi)) (fun i hi j hj => hs _ (nr_el i hi j hj)) (fun i j hi hj hij => (nr_ne i hi j hj hij).imp (hs _) (hs _)) hA
  refine ⟨(fun k => (f k).1, fun k => (f k).2), fun t => if t = 1 then a1 else if t = 2 then a2 else if t = 3 then a3 else a4, adK, adV, ⟨⟨fun k q hq => hf k q hq, ?_⟩, ?_, ?_⟩, ⟨hS, ?_, ?_⟩, ?_, ?_, ?_⟩
  · intro k q hq
    match k, hq with
    | 0, hq => cases hq; exact ⟨r1, f1⟩
    | 1, hq => cases hq; exact ⟨r2, f2⟩
    | 2, hq => cases hq; exact ⟨r3, f3⟩
    | 3, hq => cases hq; exact ⟨r4, f4⟩
    | k + 4, hq => simp [tysW] at hq
  · intro w hw
    obtain ⟨a, i, x, h, e⟩ := nest_is w hw
    have h9 := hts w (nest_in w hw)
    subst e
    exact va_Nw.of rfl h9
  · intro own idx k hk
    have hm : (idx, k) ∈ sconL.getD own [] := lkN_mem hk
    have ho : own < 12 := by
      rcases Nat.lt_or_ge own 12 with q | q
      · exact q
      · have : sconL.getD own [] = [] := by
          rw [List.getD_eq_getElem?_getD, List.getElem?_eq_none (by simpa [sconL] using q)]
          rfl
        rw [this] at hm
        exact absurd hm List.not_mem_nil
    obtain ⟨k1, k2, k3⟩ := nr_co2 own ho (idx, k) hm
    refine vk_R.of (A := #[Value.ref b]) (hts _ k1) ?_
    rcases k3 with k3 | k3
    · have := had k k2
      rw [show tmW k = .string (oName own) idx from k3] at this
      exact this
    · exact va_eqR (hs _ k3) (had k k2)
  · exact va_Zof (hts (.laysStatic "java/lang/String" "COMPACT_STRINGS" "Z") (List.mem_append_right _ (List.mem_append_left _ (List.mem_of_getElem? (i := 120) rfl)))) (hg (.initialized "java/lang/String") (tb1 5 rfl rfl)) (va_eqt (hs (.eq (.static "java/lang/String" "COMPACT_STRINGS" "Z") (.int 1)) (by decide +kernel))) hA
  · exact va_Zqof (hts (.laysStatic "jdk/internal/util/Preconditions" "SIOOBE_FORMATTER" "Ljava/util/function/BiFunction;") (List.mem_append_right _ (List.mem_append_left _ (List.mem_of_getElem? (i := 136) rfl)))) (hg (.initialized "jdk/internal/util/Preconditions") (tb1 7 rfl rfl)) (hs (.isRef (.static "jdk/internal/util/Preconditions" "SIOOBE_FORMATTER" "Ljava/util/function/BiFunction;")) (by decide +kernel)) hA
  · exact fun w hw => va_Nw.of (xBad_on w hw) (hts w (xBad_in w hw))
  · exact vx_Zqof (hts (.laysStatic Bundle.tN "UNASSIGNED_STACK" Bundle.steD) (List.mem_append_right _ (List.mem_append_right _ (List.mem_append_right _ (List.mem_append_right _ (List.mem_append_left _ (List.mem_of_getElem? (i := 137) rfl))))))) (hg (.initialized Bundle.tN) (tb1 15 rfl rfl)) (hs (.isRef (.static Bundle.tN "UNASSIGNED_STACK" Bundle.steD)) (by decide +kernel)) hA
  · exact vx_Zqof (hts (.laysStatic Bundle.tN "SUPPRESSED_SENTINEL" Bundle.listD) (List.mem_append_right _ (List.mem_append_right _ (List.mem_append_right _ (List.mem_append_right _ (List.mem_append_left _ (List.mem_of_getElem? (i := 139) rfl))))))) (hg (.initialized Bundle.tN) (tb1 15 rfl rfl)) (hs (.isRef (.static Bundle.tN "SUPPRESSED_SENTINEL" Bundle.listD)) (by decide +kernel)) hA
/-- THE LAW, from its entry, on a launch without stack traces -/
theorem whole_go {p : Program} {e : Env} {s : State} {m : MethodId} {below : List Frame} {meth : Method} {c : Code} (l : Launch) (hst : l.stackTraces = false) {b L : Nat} {xs : Nat → Int32} (hL : L ≤ 3072) (C0 : lw_At p s m meth c b L xs) : W p l e room_1 s m #[Value.ref b] below meth c s.heap [] 0 0 (lw_Z below #[Value.ref b] s) (entryFrame m ([Value.ref b] : List Value).toArray 7) := by
  obtain ⟨D, cA, adr, adV, hEv⟩ := ev_start C0
  have hE1 := evW_ok (D := D) (cA := cA) (E := (s.heap.size, b, adr)) (adV := adV)
  have hE2 := evW_has (D := D) (cA := cA) (E := (s.heap.size, b, adr)) (adV := adV)
  have hcl := am_sound8 (l := l) (adV := adV) hE1 hE2 (fun U H h => h.2.1)
  obtain ⟨hx, hb, hr, hml, hown, hts, hX, hbl, hlocks, hgv⟩ := id C0
  have hcx : cxA p room_1 s m #[Value.ref b] meth c D cA (s.heap.size, b, adr) (evW D cA (s.heap.size, b, adr) adV) (L, xs) 217 600 0 28 := ⟨hx, hb, hml, hown, fun w hw => hts w (gt_tbl hw), fun hk => absurd hk (by decide +kernel), hEv, hE1, hE2, Nat.le_refl _, Nat.le_of_ble_eq_true rfl, Nat.le_of_ble_eq_true rfl, Nat.le_of_ble_eq_true rfl, Nat.le_of_ble_eq_true rfl, fun _ => rfl, fun _ => ⟨hX, hbl, Nat.not_le.mpr hbl⟩⟩
  exact whole_of l hL C0 hE1 hE2 hEv (hcl 20) (fun X hX n pc lv st M N P nx hc h hd => am_216 (d0 := 27) (k0 := 19) hcx hst (fun U H h => h.2.2) (hcl 19) (by decide) (Nat.le_of_ble_eq_true rfl) (Nat.le_of_ble_eq_true rfl) X hX n pc lv st M N P nx hc h hd)
