/-! WORDS: Reader.wordOf (14) and RenvoiDeskModel.spelled (137) of the start's texts -/
def wAcc (i : Nat) : Nat → Int32
  | 0 => 0
  | j + 1 => (wAcc i j <<< ((5 : Int32) &&& 31)) ||| ((chW i j - 97) + 1)
def lAcc (i : Nat) : Nat → Int64
  | 0 => 0
  | j + 1 => (lAcc i j <<< ((5 : Int32).toInt64 &&& 63)) ||| ((chW i j).toInt64 - 96)
theorem wAcc_end : ∀ i, i < 8 → wAcc i (lenW.getD i 0) = wordI i := by decide +kernel
theorem lAcc_end : ∀ i, i < 8 → lAcc i (lenW.getD i 0) = wordL i := by decide +kernel
theorem c_wl (l : Launch) (x y : Int32) : Met l (mName 52) (wsJ (mName 52) (mCode 52) 2 (some .int)) (rmJ 0) (va_Pc [.int x, .int y] (fun _ => True)) (qJ ((x <<< ((5 : Int32) &&& 31)) ||| ((y - 97) + 1))) 0 0 noA := by
  refine Met.ofW (cc := mCode 52) (maxL := 2) (ret := some .int) (by decide +kernel) rfl ?_
  intro p e s m args below meth c s₁ B hml hv
  obtain ⟨rfl, hj⟩ := hv
  have hx := B.exec
  have hb := B.bytes
  have hr := B.returns
  have hl := lv_entry ([.int x, .int y]) (n := 2) (Nat.le_of_ble_eq_true rfl)
  rw [lg_entry_eq]
  generalize (lg_sl ([.int x, .int y]) ++ List.replicate (2 - (lg_sl ([.int x, .int y])).length) Slot.unset).toArray = ls at hl ⊢
  have hl : lv_has ls 2 [(0, .int x), (1, .int y)] := hl
  have hS : va_S noA s.heap s.heap [] := va_S.rf
  refine lv_iload_n hx hb (k := 0) (by decide +kernel) rfl (lv_at hl 0 rfl) ?_
  refine lv_iconst (n := 5) (v := 5) hx hb (by decide +kernel) (by decide) ?_
  refine lv_ishl hx hb (by decide +kernel) ?_
  refine lv_iload_n hx hb (k := 1) (by decide +kernel) rfl (lv_at hl 1 rfl) ?_
  refine lv_bipush (n := 97) (v := 97) hx hb (by decide +kernel) (by decide) ?_
  refine lv_isub hx hb (by decide +kernel) ?_
  refine lv_iconst (n := 1) (v := 1) hx hb (by decide +kernel) (by decide) ?_
  refine lv_iadd hx hb (by decide +kernel) ?_
  refine lv_ior hx hb (by decide +kernel) ?_
  exact W.iret (v := (x <<< ((5 : Int32) &&& 31)) ||| ((y - 97) + 1)) hx hb hr (qJ_of hS) hS.2.2 (by decide +kernel)
section WRD
variable {l : Launch} {D : va_G} {cA : Nat → ClassId} {E : aE} {Ev : State → Heap → Prop} {adV : Nat → Nat}
theorem rel_S {M : aM} {N : aN} {P : aP} {nx : Nat} {H H1 : Heap} {locs : List Loc} (h : relH D cA E.1 M N P nx H) (hS : va_S noA H H1 locs) : relH D cA E.1 M N P nx H1 := h.kept (fun k q hk => hS.2.1 q.1 (h k q hk).lt (fun z => z))
theorem c_14 (hJ : ∀ U H, Ev U H → jS (aA E.1) E.2.2 adV U H) {d k : Nat} (hd : 5 ≤ d) {M : aM} {N : aN} {P : aP} {nx : Nat} {Q : aQ} (hk : k < 8) (hQ : Q (some (.int (wordI k))) M N P nx) : metA l D cA E Ev d 14 [.retAddr (k + 1)] M N P nx (fun r M' N' P' nx' => nx' = nx + mC 14 ∧ Q r M' N' P' nx') := by
  refine Met.ofW (cc := mCode 14) (maxL := 3) (ret := some .int) (by decide +kernel) rfl ?_
  intro p e s m args below meth c s₁ B hml hv
  obtain ⟨rfl, hrel, -, -, hev⟩ := hv
  have hj := hJ _ _ hev
  have hi : k < 9 := by omega
  have hlen := len_W k hi
  have hx := B.exec
  have hb := B.bytes
  have hr := B.returns
  have hown : s.vm.findClass "RenvoiDesk$Reader" = some m.cls := findClass_of_methodNamed B.named
  have hts : ∀ w ∈ gtbl, w.before _ s = true := fun w hw => atoms_spec (ws := wsA 14) B.pre w (List.mem_cons_of_mem _ hw)
  have hl := lv_entry ([.ref (E.2.2 k)]) (n := 3) (Nat.le_of_ble_eq_true rfl)
  show W p l e _ s m _ below meth c s.heap [] 0 0 _ (entryFrame m ([Value.ref (E.2.2 k)] : List Value).toArray 3)
  rw [lg_entry_eq]
  generalize (lg_sl ([.ref (E.2.2 k)]) ++ List.replicate (3 - (lg_sl ([.ref (E.2.2 k)])).length) Slot.unset).toArray = ls at hl ⊢
  have hl : lv_has ls 3 [(0, .ref (E.2.2 k))] := hl
  have hS : va_S noA s.heap s.heap [] := va_S.rf
  refine lv_iconst (n := 0) (v := 0) hx hb (by decide +kernel) (by decide) ?_
  refine lv_istore_n (lv' := [(1, .int 0), (0, .ref (E.2.2 k))]) hx hb (k := 1) (by decide +kernel) rfl hl (by decide) rfl (fun ls hl => ?_)
  refine lv_iconst (n := 0) (v := 0) hx hb (by decide +kernel) (by decide) ?_
  refine lv_istore_n (lv' := [(2, .int 0), (1, .int 0), (0, .ref (E.2.2 k))]) hx hb (k := 2) (by decide +kernel) rfl hl (by decide) rfl (fun ls hl => ?_)
  have loop : ∀ (n j : Nat) (H : Heap) (locs : List Loc) (ls : Array Slot), j + n = lenW.getD k 0 → va_S noA s.heap H locs → lv_has ls 3 [(0, .ref (E.2.2 k)), (1, .int (wAcc k j)), (2, .int (nI j))] → W p l e (headSpec (wsA 14) (rmA d 14)).room s m ([Value.ref (E.2.2 k)] : List Value).toArray below meth c H locs 0 0 (MQ below (qcA D cA E (fun r M' N' P' nx' => nx' = nx + mC 14 ∧ Q r M' N' P' nx')) ([Value.ref (E.2.2 k)] : List Value).toArray s 0 0 (aA E.1)) (F0 m 4 ls []) := by
    intro n
    induction n with
    | zero =>
      intro j H locs ls hn hS hl
      refine lv_iload_n hx hb (k := 2) (by decide +kernel) rfl (lv_at hl 2 rfl) ?_
      refine lv_aload_n hx hb (k := 0) (by decide +kernel) rfl (lv_at hl 0 rfl) ?_
      refine va_calli (va_runV (Ts := gtbl) (As := []) (rest := [.int (nI j)]) ⟨hx, hb, hml, hown, hts⟩ (c_len l hi (A := aA E.1) (adK := E.2.2) (adV := adV)) (cwV (C := "java/lang/String") 0 hts (gJ (tb1 114 rfl rfl) (mm4 (tb1 111 rfl rfl) (tb1 112 rfl rfl) (tb1 113 rfl rfl) (tb1 5 rfl rfl))) rfl rfl rfl (by decide +kernel) ⟨show 1 + 1 ≤ d by omega, show 8 + (1 + 11) + 32 * 1 ≤ 128 * d by omega⟩) ⟨jBlind, vk_recv hj.1 hi (vS0 hS), fun U hU hW => ⟨rfl, hj.at hS U hU hW⟩⟩ rfl rfl hl.1 rfl (lv_room (Nat.le_of_ble_eq_true rfl)) (show decode (mCode 14) 6 = .ok (.invokevirtual 58, 3) by decide +kernel) ⟨Nat.le_of_ble_eq_true rfl, Nat.le_of_ble_eq_true rfl⟩) hS (fun _ _ h => h) (fun _ h => h) (fun r u t H locs ht hvm hw hB hz1 hk1 hS => ?_)
      subst hw
      have hjn : j = lenW.getD k 0 := by omega
      refine lv_icmp_ge (tgt := 28) hx hb (off := 19) (by decide +kernel) (by decide) (fun _ => ?_) (fun h => absurd (by rw [hjn]; exact Int32.le_refl _) h)
      refine lv_iload_n hx hb (k := 1) (by decide +kernel) rfl (lv_at hl 1 rfl) ?_
      refine W.iret (v := wAcc k j) hx hb hr (fun t ht _ => ⟨⟨some (.int (wAcc k j)), M, N, P, nx, rfl, ⟨rfl, ?_⟩, by rw [ht]; exact rel_S hrel hS⟩, (vS0 hS).F ht⟩) (vS0 hS).2.2 (by decide +kernel)
      rw [hjn, wAcc_end k hk]
      exact hQ
    | succ n ih =>
      intro j H locs ls hn hS hl
      refine lv_iload_n hx hb (k := 2) (by decide +kernel) rfl (lv_at hl 2 rfl) ?_
      refine lv_aload_n hx hb (k := 0) (by decide +kernel) rfl (lv_at hl 0 rfl) ?_
      refine va_calli (va_runV (Ts := gtbl) (As := []) (rest := [.int (nI j)]) ⟨hx, hb, hml, hown, hts⟩ (c_len l hi (A := aA E.1) (adK := E.2.2) (adV := adV)) (cwV (C := "java/lang/String") 0 hts (gJ (tb1 114 rfl rfl) (mm4 (tb1 111 rfl rfl) (tb1 112 rfl rfl) (tb1 113 rfl rfl) (tb1 5 rfl rfl))) rfl rfl rfl (by decide +kernel) ⟨show 1 + 1 ≤ d by omega, show 8 + (1 + 11) + 32 * 1 ≤ 128 * d by omega⟩) ⟨jBlind, vk_recv hj.1 hi (vS0 hS), fun U hU hW => ⟨rfl, hj.at hS U hU hW⟩⟩ rfl rfl hl.1 rfl (lv_room (Nat.le_of_ble_eq_true rfl)) (show decode (mCode 14) 6 = .ok (.invokevirtual 58, 3) by decide +kernel) ⟨Nat.le_of_ble_eq_true rfl, Nat.le_of_ble_eq_true rfl⟩) hS (fun _ _ h => h) (fun _ h => h) (fun r u t H locs ht hvm hw hB hz1 hk1 hS => ?_)
      subst hw
      have hjn : j < lenW.getD k 0 := by omega
      refine lv_icmp_ge (tgt := 28) hx hb (off := 19) (by decide +kernel) (by decide) (fun h => absurd h (nI_ge hjn (by omega))) (fun _ => ?_)
      refine lv_iload_n hx hb (k := 1) (by decide +kernel) rfl (lv_at hl 1 rfl) ?_
      refine lv_aload_n hx hb (k := 0) (by decide +kernel) rfl (lv_at hl 0 rfl) ?_
      refine lv_iload_n hx hb (k := 2) (by decide +kernel) rfl (lv_at hl 2 rfl) ?_
      refine va_calli (va_runV (Ts := gtbl) (As := [.int (nI j)]) (rest := [.int (wAcc k j)]) ⟨hx, hb, hml, hown, hts⟩ (c_cha l hi hjn (A := aA E.1) (adK := E.2.2) (adV := adV)) (cwV (C := "java/lang/String") 1 hts (gJ (tb1 124 rfl rfl) (mm4 (tb1 121 rfl rfl) (tb1 122 rfl rfl) (tb1 123 rfl rfl) (tb1 5 rfl rfl))) rfl rfl rfl (by decide +kernel) ⟨show 3 + 1 ≤ d by omega, show 8 + (2 + 11) + 32 * 3 ≤ 128 * d by omega⟩) ⟨jBlind, vk_recv hj.1 hi (vS0 hS), fun U hU hW => ⟨rfl, hj.at hS U hU hW⟩⟩ rfl rfl hl.1 rfl (lv_room (Nat.le_of_ble_eq_true rfl)) (show decode (mCode 14) 15 = .ok (.invokevirtual 64, 3) by decide +kernel) ⟨Nat.le_of_ble_eq_true rfl, Nat.le_of_ble_eq_true rfl⟩) hS (fun _ _ h => h) (fun _ h => h) (fun r u t H locs ht hvm hw hB hz1 hk1 hS => ?_)
      subst hw
      refine va_calli (va_runS (Ts := gtbl) (As := [.int (wAcc k j), .int (chW k j)]) (rest := []) ⟨hx, hb, hml, hown, hts⟩ (c_wl l (wAcc k j) (chW k j)) (va_cwS 2 hts (gJ (tb1 161 rfl rfl) (mm3 (tb1 159 rfl rfl) (tb1 160 rfl rfl) (tb1 3 rfl rfl))) rfl rfl rfl (by decide +kernel) ⟨show 0 + 1 ≤ d by omega, show 8 + (2 + 11) + 32 * 0 ≤ 128 * d by omega⟩) ⟨jBlind2, fun U hU hW => ⟨rfl, trivial⟩⟩ rfl rfl hl.1 rfl (lv_room (Nat.le_of_ble_eq_true rfl)) (show decode (mCode 14) 18 = .ok (.invokestatic 68, 3) by decide +kernel) ⟨Nat.le_of_ble_eq_true rfl, Nat.le_of_ble_eq_true rfl⟩) hS (fun _ _ h => h) (fun _ h => h) (fun r u t H locs ht hvm hw hB hz1 hk1 hS => ?_)
      subst hw
      refine lv_istore_n (lv' := [(1, .int (wAcc k (j + 1))), (0, .ref (E.2.2 k)), (2, .int (nI j))]) hx hb (k := 1) (by decide +kernel) rfl hl (by decide) rfl (fun ls hl => ?_)
      refine lv_iinc (v := nI (j + 1)) (lv' := [(2, .int (nI (j + 1))), (1, .int (wAcc k (j + 1))), (0, .ref (E.2.2 k))]) hx hb (i := 2) (n := 1) (by decide +kernel) hl (k := 2) rfl (nI_1 j) (by decide) rfl (fun ls hl => ?_)
      refine lv_goto (tgt := 4) hx hb (off := -21) (by decide +kernel) (by decide) ?_
      exact ih (j + 1) H locs ls (by omega) hS (lv_sub hl [2, 1, 0] rfl)
  exact loop (lenW.getD k 0) 0 s.heap [] ls (by omega) hS (lv_sub hl [2, 1, 0] rfl)
theorem c_137 (hJ : ∀ U H, Ev U H → jS (aA E.1) E.2.2 adV U H) {d k : Nat} (hd : 5 ≤ d) {M : aM} {N : aN} {P : aP} {nx : Nat} {Q : aQ} (hk : k < 8) (hQ : Q (some (.long (wordL k))) M N P nx) : metA l D cA E Ev d 137 [.retAddr (k + 1)] M N P nx (fun r M' N' P' nx' => nx' = nx + mC 137 ∧ Q r M' N' P' nx') := by
  refine Met.ofW (cc := mCode 137) (maxL := 4) (ret := some .long) (by decide +kernel) rfl ?_
  intro p e s m args below meth c s₁ B hml hv
  obtain ⟨rfl, hrel, -, -, hev⟩ := hv
  have hj := hJ _ _ hev
  have hi : k < 9 := by omega
  have hlen := len_W k hi
  have hx := B.exec
  have hb := B.bytes
  have hr := B.returns
  have hown : s.vm.findClass "RenvoiDeskModel" = some m.cls := findClass_of_methodNamed B.named
  have hts : ∀ w ∈ gtbl, w.before _ s = true := fun w hw => atoms_spec (ws := wsA 137) B.pre w (List.mem_cons_of_mem _ hw)
  have hl := lv_entry ([.ref (E.2.2 k)]) (n := 4) (Nat.le_of_ble_eq_true rfl)
  show W p l e _ s m _ below meth c s.heap [] 0 0 _ (entryFrame m ([Value.ref (E.2.2 k)] : List Value).toArray 4)
  rw [lg_entry_eq]
  generalize (lg_sl ([.ref (E.2.2 k)]) ++ List.replicate (4 - (lg_sl ([.ref (E.2.2 k)])).length) Slot.unset).toArray = ls at hl ⊢
  have hl : lv_has ls 4 [(0, .ref (E.2.2 k))] := hl
  have hS : va_S noA s.heap s.heap [] := va_S.rf
  refine lv_lconst (n := 0) (v := 0) hx hb (by decide +kernel) (by decide) ?_
  refine lv_lstore_n (lv' := [(1, .long 0), (0, .ref (E.2.2 k))]) hx hb (k := 1) (by decide +kernel) rfl hl (by decide) rfl (fun ls hl => ?_)
  refine lv_iconst (n := 0) (v := 0) hx hb (by decide +kernel) (by decide) ?_
  refine lv_istore_n (lv' := [(3, .int 0), (1, .long 0), (0, .ref (E.2.2 k))]) hx hb (k := 3) (by decide +kernel) rfl hl (by decide) rfl (fun ls hl => ?_)
  have loop : ∀ (n j : Nat) (H : Heap) (locs : List Loc) (ls : Array Slot), j + n = lenW.getD k 0 → va_S noA s.heap H locs → lv_has ls 4 [(0, .ref (E.2.2 k)), (1, .long (lAcc k j)), (3, .int (nI j))] → W p l e (headSpec (wsA 137) (rmA d 137)).room s m ([Value.ref (E.2.2 k)] : List Value).toArray below meth c H locs 0 0 (MQ below (qcA D cA E (fun r M' N' P' nx' => nx' = nx + mC 137 ∧ Q r M' N' P' nx')) ([Value.ref (E.2.2 k)] : List Value).toArray s 0 0 (aA E.1)) (F0 m 4 ls []) := by
    intro n
    induction n with
    | zero =>
      intro j H locs ls hn hS hl
      refine lv_iload_n hx hb (k := 3) (by decide +kernel) rfl (lv_at hl 2 rfl) ?_
      refine lv_aload_n hx hb (k := 0) (by decide +kernel) rfl (lv_at hl 0 rfl) ?_
      refine va_calli (va_runV (Ts := gtbl) (As := []) (rest := [.int (nI j)]) ⟨hx, hb, hml, hown, hts⟩ (c_len l hi (A := aA E.1) (adK := E.2.2) (adV := adV)) (cwV (C := "java/lang/String") 0 hts (gJ (tb1 114 rfl rfl) (mm4 (tb5 82 rfl rfl) (tb1 112 rfl rfl) (tb1 113 rfl rfl) (tb1 5 rfl rfl))) rfl rfl rfl (by decide +kernel) ⟨show 1 + 1 ≤ d by omega, show 8 + (1 + 11) + 32 * 1 ≤ 128 * d by omega⟩) ⟨jBlind, vk_recv hj.1 hi (vS0 hS), fun U hU hW => ⟨rfl, hj.at hS U hU hW⟩⟩ rfl rfl hl.1 rfl (lv_room (Nat.le_of_ble_eq_true rfl)) (show decode (mCode 137) 6 = .ok (.invokevirtual 100, 3) by decide +kernel) ⟨Nat.le_of_ble_eq_true rfl, Nat.le_of_ble_eq_true rfl⟩) hS (fun _ _ h => h) (fun _ h => h) (fun r u t H locs ht hvm hw hB hz1 hk1 hS => ?_)
      subst hw
      have hjn : j = lenW.getD k 0 := by omega
      refine lv_icmp_ge (tgt := 33) hx hb (off := 24) (by decide +kernel) (by decide) (fun _ => ?_) (fun h => absurd (by rw [hjn]; exact Int32.le_refl _) h)
      refine lv_lload_n hx hb (k := 1) (by decide +kernel) rfl (lv_at hl 1 rfl) ?_
      refine W.lret (v := lAcc k j) hx hb hr (fun t ht _ => ⟨⟨some (.long (lAcc k j)), M, N, P, nx, rfl, ⟨rfl, ?_⟩, by rw [ht]; exact rel_S hrel hS⟩, (vS0 hS).F ht⟩) (vS0 hS).2.2 (by decide +kernel)
      rw [hjn, lAcc_end k hk]
      exact hQ
    | succ n ih =>
      intro j H locs ls hn hS hl
      refine lv_iload_n hx hb (k := 3) (by decide +kernel) rfl (lv_at hl 2 rfl) ?_
      refine lv_aload_n hx hb (k := 0) (by decide +kernel) rfl (lv_at hl 0 rfl) ?_
      refine va_calli (va_runV (Ts := gtbl) (As := []) (rest := [.int (nI j)]) ⟨hx, hb, hml, hown, hts⟩ (c_len l hi (A := aA E.1) (adK := E.2.2) (adV := adV)) (cwV (C := "java/lang/String") 0 hts (gJ (tb1 114 rfl rfl) (mm4 (tb5 82 rfl rfl) (tb1 112 rfl rfl) (tb1 113 rfl rfl) (tb1 5 rfl rfl))) rfl rfl rfl (by decide +kernel) ⟨show 1 + 1 ≤ d by omega, show 8 + (1 + 11) + 32 * 1 ≤ 128 * d by omega⟩) ⟨jBlind, vk_recv hj.1 hi (vS0 hS), fun U hU hW => ⟨rfl, hj.at hS U hU hW⟩⟩ rfl rfl hl.1 rfl (lv_room (Nat.le_of_ble_eq_true rfl)) (show decode (mCode 137) 6 = .ok (.invokevirtual 100, 3) by decide +kernel) ⟨Nat.le_of_ble_eq_true rfl, Nat.le_of_ble_eq_true rfl⟩) hS (fun _ _ h => h) (fun _ h => h) (fun r u t H locs ht hvm hw hB hz1 hk1 hS => ?_)
      subst hw
      have hjn : j < lenW.getD k 0 := by omega
      refine lv_icmp_ge (tgt := 33) hx hb (off := 24) (by decide +kernel) (by decide) (fun h => absurd h (nI_ge hjn (by omega))) (fun _ => ?_)
      refine lv_lload_n hx hb (k := 1) (by decide +kernel) rfl (lv_at hl 1 rfl) ?_
      refine lv_iconst (n := 5) (v := 5) hx hb (by decide +kernel) (by decide) ?_
      refine lv_lshl (v := lAcc k j <<< ((5 : Int32).toInt64 &&& 63)) hx hb (by decide +kernel) rfl ?_
      refine lv_aload_n hx hb (k := 0) (by decide +kernel) rfl (lv_at hl 0 rfl) ?_
      refine lv_iload_n hx hb (k := 3) (by decide +kernel) rfl (lv_at hl 2 rfl) ?_
      refine va_calli (va_runV (Ts := gtbl) (As := [.int (nI j)]) (rest := [.long (lAcc k j <<< ((5 : Int32).toInt64 &&& 63))]) ⟨hx, hb, hml, hown, hts⟩ (c_cha l hi hjn (A := aA E.1) (adK := E.2.2) (adV := adV)) (cwV (C := "java/lang/String") 1 hts (gJ (tb1 124 rfl rfl) (mm4 (tb5 83 rfl rfl) (tb1 122 rfl rfl) (tb1 123 rfl rfl) (tb1 5 rfl rfl))) rfl rfl rfl (by decide +kernel) ⟨show 3 + 1 ≤ d by omega, show 8 + (2 + 11) + 32 * 3 ≤ 128 * d by omega⟩) ⟨jBlind, vk_recv hj.1 hi (vS0 hS), fun U hU hW => ⟨rfl, hj.at hS U hU hW⟩⟩ rfl rfl hl.1 rfl (lv_room (Nat.le_of_ble_eq_true rfl)) (show decode (mCode 137) 17 = .ok (.invokevirtual 106, 3) by decide +kernel) ⟨Nat.le_of_ble_eq_true rfl, Nat.le_of_ble_eq_true rfl⟩) hS (fun _ _ h => h) (fun _ h => h) (fun r u t H locs ht hvm hw hB hz1 hk1 hS => ?_)
      subst hw
      refine lv_i2l (v := (chW k j).toInt64) hx hb (by decide +kernel) rfl ?_
      refine lv_ldc2 (v := 96) hx hb hown (hts (.constantLong "RenvoiDeskModel" 88 96) (tb5 67 rfl rfl)) (by decide +kernel) ?_
      refine lv_lsub hx hb (by decide +kernel) ?_
      refine lv_lor hx hb (by decide +kernel) ?_
      refine lv_lstore_n (lv' := [(1, .long (lAcc k (j + 1))), (0, .ref (E.2.2 k)), (3, .int (nI j))]) hx hb (k := 1) (by decide +kernel) rfl hl (by decide) rfl (fun ls hl => ?_)
      refine lv_iinc (v := nI (j + 1)) (lv' := [(3, .int (nI (j + 1))), (1, .long (lAcc k (j + 1))), (0, .ref (E.2.2 k))]) hx hb (i := 3) (n := 1) (by decide +kernel) hl (k := 2) rfl (nI_1 j) (by decide) rfl (fun ls hl => ?_)
      refine lv_goto (tgt := 4) hx hb (off := -26) (by decide +kernel) (by decide) ?_
      exact ih (j + 1) H locs ls (by omega) hS (lv_sub hl [2, 1, 0] rfl)
  exact loop (lenW.getD k 0) 0 s.heap [] ls (by omega) hS (lv_sub hl [2, 1, 0] rfl)
end WRD
