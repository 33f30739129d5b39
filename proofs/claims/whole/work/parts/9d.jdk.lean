/-! STRINGS of the start, and what the JDK's own methods do with them -/
def lenW : List Nat := [4, 5, 4, 4, 4, 3, 5, 5, 31]
def bytW : List (List Int32) := [[108, 97, 110, 100], [105, 115, 115, 117, 101], [102, 97, 99, 116], [100, 101, 101, 100], [114, 117, 108, 101], [108, 97, 119], [119, 104, 111, 108, 101], [105, 110, 110, 101, 114], [110, 111, 32, 115, 117, 99, 104, 32, 108, 97, 110, 100, 44, 32, 105, 115, 115, 117, 101, 32, 111, 114, 32, 113, 117, 101, 115, 116, 105, 111, 110]]
def chW (i k : Nat) : Int32 := (bytW.getD i []).getD k 0
theorem len_W : ∀ i, i < 9 → lenW.getD i 0 < 32 := by decide +kernel
theorem ch_W : ∀ i, i < 9 → ∀ k, k < lenW.getD i 0 → ((chW i k &&& 255).toUInt32 % 65536).toInt32 = chW i k ∧ narrow .char (.int (chW i k)) = .int (chW i k) := by decide +kernel
def jS (A : Nat → Prop) (adK adV : Nat → Nat) (U : State) (H : Heap) : Prop := vk_S 9 lenW bytW adK adV A U H ∧ va_Z "java/lang/String" "COMPACT_STRINGS" "Z" (.int 1) A U H ∧ va_Zq "jdk/internal/util/Preconditions" "SIOOBE_FORMATTER" "Ljava/util/function/BiFunction;" A U H
theorem jS.moved {A : Nat → Prop} {adK adV : Nat → Nat} {u U : State} {H : Heap} (hvm : u.vm.Alike U.vm) (h : jS A adK adV u H) : jS A adK adV U H := ⟨vk_S.moved hvm h.1, va_Z.moved hvm h.2.1, va_Zq.moved hvm h.2.2⟩
theorem jS.kept {A : Nat → Prop} {adK adV : Nat → Nat} {U : State} {H H1 : Heap} (h : jS A adK adV U H) (hq : ∀ a : Nat, a < H.size → ¬ A a → H1[a]? = H[a]?) : jS A adK adV U H1 := ⟨h.1.kept hq, h.2.1.kept hq, h.2.2.kept hq⟩
abbrev noA : Nat → Prop := fun _ => False
theorem vS0 {A : Nat → Prop} {H0 H : Heap} {locs : List Loc} (h : va_S noA H0 H locs) : va_S A H0 H locs := ⟨h.1, fun q h1 _ => h.2.1 q h1 (fun z => z), fun q hq => (h.2.2 q hq).elim⟩
theorem jS.at {A : Nat → Prop} {adK adV : Nat → Nat} {s : State} {H : Heap} {locs : List Loc} (h : jS A adK adV s s.heap) (hS : va_S noA s.heap H locs) : ∀ U : State, U.heap = H → s.WarmedH U.vm → jS A adK adV U U.heap := fun U hU hW => jS.moved hW.alike (by rw [hU]; exact h.kept (fun q h1 _ => hS.2.1 q h1 (fun z => z)))
def yLen : MethodName := ⟨"java/lang/String", "length", "()I"⟩
def yCha : MethodName := ⟨"java/lang/String", "charAt", "(I)C"⟩
def yCod : MethodName := ⟨"java/lang/String", "coder", "()B"⟩
def yLat : MethodName := ⟨"java/lang/String", "isLatin1", "()Z"⟩
def yChk : MethodName := ⟨"java/lang/String", "checkIndex", "(II)V"⟩
def yChB : MethodName := ⟨"java/lang/StringLatin1", "charAt", "([BI)C"⟩
def yChP : MethodName := ⟨"jdk/internal/util/Preconditions", "checkIndex", "(IILjava/util/function/BiFunction;)I"⟩
def wsJ (y : MethodName) (b : ByteArray) (n : Nat) (r : Option FieldType) : List Cond := Cond.code y b n r :: gtbl
def rmJ (d : Nat) : Room := { frames := d, cells := 0, slots := 0, locals := 32 * d }
theorem gJ {y : MethodName} {b : ByteArray} {n : Nat} {r : Option FieldType} {ws : List Cond} (h1 : Cond.code y b n r ∈ gtbl) (h : ∀ w ∈ ws, w ∈ gtbl) : GoodIn gtbl (ws ++ wsJ y b n r) := by
  refine good_A (fun w h => h) (fun w hw => ?_)
  rcases List.mem_append.mp hw with z | z
  · exact h w z
  · rcases List.mem_cons.mp z with z | z
    · rw [z]; exact h1
    · exact z
theorem jBlind {A : Nat → Prop} {adK adV : Nat → Nat} {as : List Value} : FrameBlind (va_Pc as (fun U => jS A adK adV U U.heap)) := fun _ U _ _ q => ⟨q.1, jS.moved (Vm.Alike.refl U.vm) q.2⟩
theorem jBlind2 {as : List Value} : FrameBlind (va_Pc as (fun _ => True)) := fun _ _ _ _ q => ⟨q.1, trivial⟩
abbrev qJ (v : Int32) : Array Value → State → Outcome → State → Prop := va_Qi (fun r (_ : Unit) => r = v) (fun _ _ => True) noA
theorem qJ_of {v : Int32} {a : Array Value} {s : State} {H : Heap} {locs : List Loc} (hS : va_S noA s.heap H locs) : ∀ t : State, t.heap = H → s.WarmedH t.vm → qJ v a s (.returned (some (.int v))) t := fun t ht _ => ⟨⟨v, (), rfl, rfl, trivial⟩, hS.F ht⟩
section JDK
variable {A : Nat → Prop} {adK adV : Nat → Nat} {i : Nat}
theorem c_cod (l : Launch) (hi : i < 9) : Met l yCod (wsJ yCod prog_18_method_152_code 1 (some .byte)) (rmJ 0) (va_Pc [.ref (adK i)] (fun U => jS A adK adV U U.heap)) (qJ 0) 0 0 noA := by
  refine Met.ofW (cc := prog_18_method_152_code) (maxL := 1) (ret := some .byte) (by decide +kernel) rfl ?_
  intro p e s m args below meth c s₁ B hml hv
  obtain ⟨rfl, hj⟩ := hv
  obtain ⟨hStr, hZ, -⟩ := hj
  have hx := B.exec
  have hb := B.bytes
  have hr := B.returns
  have hown : s.vm.findClass "java/lang/String" = some m.cls := findClass_of_methodNamed B.named
  have hts : ∀ w ∈ gtbl, w.before _ s = true := fun w hw => atoms_spec (ws := wsJ yCod prog_18_method_152_code 1 (some .byte)) B.pre w (List.mem_cons_of_mem _ hw)
  have hl := lv_entry ([.ref (adK i)]) (n := 1) (Nat.le_of_ble_eq_true rfl)
  rw [lg_entry_eq]
  generalize (lg_sl ([.ref (adK i)]) ++ List.replicate (1 - (lg_sl ([.ref (adK i)])).length) Slot.unset).toArray = ls at hl ⊢
  have hl : lv_has ls 1 [(0, .ref (adK i))] := hl
  have hS : va_S noA s.heap s.heap [] := va_S.rf
  refine va_gets hx hb hZ (vS0 hS) hown (hts (.fieldLink "java/lang/String" 38 "java/lang/String" "COMPACT_STRINGS" "Z") (tb1 119 rfl rfl)) (fun _ h => h) (by decide +kernel) ?_
  refine lv_if_eq (tgt := 13) hx hb (off := 10) (by decide +kernel) (by decide) (fun h => absurd h (by decide)) (fun _ => ?_)
  refine lv_aload_n hx hb (k := 0) (by decide +kernel) rfl (lv_at hl 0 rfl) ?_
  refine vk_getf hx hb (hStr.1 i hi).2.1 (vS0 hS) hown (hts (.fieldLink "java/lang/String" 15 "java/lang/String" "coder" "B") (tb6 167 rfl rfl)) (fun _ h => h) (by decide +kernel) ?_
  refine lv_goto (tgt := 14) hx hb (off := 4) (by decide +kernel) (by decide) ?_
  exact W.zret (v := 0) hx hb hr (by decide +kernel) (qJ_of hS) hS.2.2 (by decide +kernel)
theorem mm3 {a b c : Cond} (h1 : a ∈ gtbl) (h2 : b ∈ gtbl) (h3 : c ∈ gtbl) : ∀ w ∈ [a, b, c], w ∈ gtbl := List.forall_mem_cons.mpr ⟨h1, List.forall_mem_cons.mpr ⟨h2, List.forall_mem_cons.mpr ⟨h3, fun _ h => absurd h List.not_mem_nil⟩⟩⟩
theorem mm4 {a b c d : Cond} (h1 : a ∈ gtbl) (h2 : b ∈ gtbl) (h3 : c ∈ gtbl) (h4 : d ∈ gtbl) : ∀ w ∈ [a, b, c, d], w ∈ gtbl := List.forall_mem_cons.mpr ⟨h1, mm3 h2 h3 h4⟩
theorem c_lat (l : Launch) (hi : i < 9) : Met l yLat (wsJ yLat prog_18_method_154_code 1 (some .boolean)) (rmJ 0) (va_Pc [.ref (adK i)] (fun U => jS A adK adV U U.heap)) (qJ 1) 0 0 noA := by
  refine Met.ofW (cc := prog_18_method_154_code) (maxL := 1) (ret := some .boolean) (by decide +kernel) rfl ?_
  intro p e s m args below meth c s₁ B hml hv
  obtain ⟨rfl, hj⟩ := hv
  have hx := B.exec
  have hb := B.bytes
  have hr := B.returns
  have hown : s.vm.findClass "java/lang/String" = some m.cls := findClass_of_methodNamed B.named
  have hts : ∀ w ∈ gtbl, w.before _ s = true := fun w hw => atoms_spec (ws := wsJ yLat prog_18_method_154_code 1 (some .boolean)) B.pre w (List.mem_cons_of_mem _ hw)
  have hl := lv_entry ([.ref (adK i)]) (n := 1) (Nat.le_of_ble_eq_true rfl)
  rw [lg_entry_eq]
  generalize (lg_sl ([.ref (adK i)]) ++ List.replicate (1 - (lg_sl ([.ref (adK i)])).length) Slot.unset).toArray = ls at hl ⊢
  have hS : va_S noA s.heap s.heap [] := va_S.rf
  obtain ⟨hStr, hZ, -⟩ := hj
  have hl : lv_has ls 1 [(0, .ref (adK i))] := hl
  refine va_gets hx hb hZ (vS0 hS) hown (hts (.fieldLink "java/lang/String" 38 "java/lang/String" "COMPACT_STRINGS" "Z") (tb1 119 rfl rfl)) (fun _ h => h) (by decide +kernel) ?_
  refine lv_if_eq (tgt := 17) hx hb (off := 14) (by decide +kernel) (by decide) (fun h => absurd h (by decide)) (fun _ => ?_)
  refine lv_aload_n hx hb (k := 0) (by decide +kernel) rfl (lv_at hl 0 rfl) ?_
  refine vk_getf hx hb (hStr.1 i hi).2.1 (vS0 hS) hown (hts (.fieldLink "java/lang/String" 15 "java/lang/String" "coder" "B") (tb6 167 rfl rfl)) (fun _ h => h) (by decide +kernel) ?_
  refine lv_if_ne (tgt := 17) hx hb (off := 7) (by decide +kernel) (by decide) (fun h => absurd rfl h) (fun _ => ?_)
  refine lv_iconst (n := 1) (v := 1) hx hb (by decide +kernel) (by decide) ?_
  refine lv_goto (tgt := 18) hx hb (off := 4) (by decide +kernel) (by decide) ?_
  exact W.zret (v := 1) hx hb hr (by decide +kernel) (qJ_of hS) hS.2.2 (by decide +kernel)
theorem c_len (l : Launch) (hi : i < 9) : Met l yLen (wsJ yLen prog_18_method_54_code 1 (some .int)) (rmJ 1) (va_Pc [.ref (adK i)] (fun U => jS A adK adV U U.heap)) (qJ (nI (lenW.getD i 0))) 0 0 noA := by
  refine Met.ofW (cc := prog_18_method_54_code) (maxL := 1) (ret := some .int) (by decide +kernel) rfl ?_
  intro p e s m args below meth c s₁ B hml hv
  obtain ⟨rfl, hj⟩ := hv
  have hx := B.exec
  have hb := B.bytes
  have hr := B.returns
  have hown : s.vm.findClass "java/lang/String" = some m.cls := findClass_of_methodNamed B.named
  have hts : ∀ w ∈ gtbl, w.before _ s = true := fun w hw => atoms_spec (ws := wsJ yLen prog_18_method_54_code 1 (some .int)) B.pre w (List.mem_cons_of_mem _ hw)
  have hl := lv_entry ([.ref (adK i)]) (n := 1) (Nat.le_of_ble_eq_true rfl)
  rw [lg_entry_eq]
  generalize (lg_sl ([.ref (adK i)]) ++ List.replicate (1 - (lg_sl ([.ref (adK i)])).length) Slot.unset).toArray = ls at hl ⊢
  have hS : va_S noA s.heap s.heap [] := va_S.rf
  have hl : lv_has ls 1 [(0, .ref (adK i))] := hl
  refine lv_aload_n hx hb (k := 0) (by decide +kernel) rfl (lv_at hl 0 rfl) ?_
  refine vk_getf hx hb (hj.1.1 i hi).2.2.1 (vS0 hS) hown (hts (.fieldLink "java/lang/String" 9 "java/lang/String" "value" "[B") (tb6 166 rfl rfl)) (fun _ h => h) (by decide +kernel) ?_
  refine va_tlen hx hb (hj.1.1 i hi).2.2.2 (vS0 hS) rfl (by decide +kernel) ?_
  refine lv_aload_n hx hb (k := 0) (by decide +kernel) rfl (lv_at hl 0 rfl) ?_
  refine va_calli (va_runV (Ts := gtbl) (As := []) (rest := [.int (Int32.ofNat (lenW.getD i 0))]) ⟨hx, hb, hml, hown, hts⟩ (c_cod l hi (A := A) (adK := adK) (adV := adV)) (cwV (C := "java/lang/String") 0 hts (gJ (tb1 118 rfl rfl) (mm4 (tb1 115 rfl rfl) (tb1 116 rfl rfl) (tb1 117 rfl rfl) (tb1 5 rfl rfl))) rfl rfl rfl (by decide +kernel) ⟨Nat.le_of_ble_eq_true rfl, Nat.le_of_ble_eq_true rfl⟩) ⟨jBlind, vk_recv hj.1 hi (vS0 hS), fun U hU hW => ⟨rfl, hj.at hS U hU hW⟩⟩ rfl rfl hl.1 rfl (lv_room (Nat.le_of_ble_eq_true rfl)) (show decode prog_18_method_54_code 6 = .ok (.invokevirtual 335, 3) by decide +kernel) ⟨Nat.le_of_ble_eq_true rfl, Nat.le_of_ble_eq_true rfl⟩) hS (fun _ _ h => h) (fun _ h => h) (fun r u t H locs ht hvm hw hB hz1 hk1 hS => ?_)
  subst hw
  refine lv_ishr hx hb (by decide +kernel) ?_
  have e0 : Int32.ofNat (lenW.getD i 0) >>> ((0 : Int32) &&& 31) = nI (lenW.getD i 0) := by
    have : ∀ i, i < 9 → Int32.ofNat (lenW.getD i 0) >>> ((0 : Int32) &&& 31) = nI (lenW.getD i 0) := by decide +kernel
    exact this i hi
  rw [e0]
  exact W.iret (v := nI (lenW.getD i 0)) hx hb hr (qJ_of hS) hS.2.2 (by decide +kernel)
theorem c_chP (l : Launch) {k n t9 : Nat} (hk : k < n) (hn : n < 2 ^ 31) : Met l yChP (wsJ yChP prog_27_method_11_code 3 (some .int)) (rmJ 0) (va_Pc [.int (nI k), .int (nI n), .ref t9] (fun _ => True)) (qJ (nI k)) 0 0 noA := by
  refine Met.ofW (cc := prog_27_method_11_code) (maxL := 3) (ret := some .int) (by decide +kernel) rfl ?_
  intro p e s m args below meth c s₁ B hml hv
  obtain ⟨rfl, hj⟩ := hv
  have hx := B.exec
  have hb := B.bytes
  have hr := B.returns
  have hown : s.vm.findClass "jdk/internal/util/Preconditions" = some m.cls := findClass_of_methodNamed B.named
  have hts : ∀ w ∈ gtbl, w.before _ s = true := fun w hw => atoms_spec (ws := wsJ yChP prog_27_method_11_code 3 (some .int)) B.pre w (List.mem_cons_of_mem _ hw)
  have hl := lv_entry ([.int (nI k), .int (nI n), .ref t9]) (n := 3) (Nat.le_of_ble_eq_true rfl)
  rw [lg_entry_eq]
  generalize (lg_sl ([.int (nI k), .int (nI n), .ref t9]) ++ List.replicate (3 - (lg_sl ([.int (nI k), .int (nI n), .ref t9])).length) Slot.unset).toArray = ls at hl ⊢
  have hS : va_S noA s.heap s.heap [] := va_S.rf
  have hl : lv_has ls 3 [(0, .int (nI k)), (1, .int (nI n)), (2, .ref t9)] := hl
  refine lv_iload_n hx hb (k := 0) (by decide +kernel) rfl (lv_at hl 0 rfl) ?_
  refine lv_if_lt (tgt := 9) hx hb (off := 8) (by decide +kernel) (by decide) (fun h => absurd h (nI_pos (by omega))) (fun _ => ?_)
  refine lv_iload_n hx hb (k := 0) (by decide +kernel) rfl (lv_at hl 0 rfl) ?_
  refine lv_iload_n hx hb (k := 1) (by decide +kernel) rfl (lv_at hl 1 rfl) ?_
  refine lv_icmp_lt (tgt := 16) hx hb (off := 10) (by decide +kernel) (by decide) (fun _ => ?_) (fun h => absurd (nI_lt hk hn) h)
  refine lv_iload_n hx hb (k := 0) (by decide +kernel) rfl (lv_at hl 0 rfl) ?_
  exact W.iret (v := nI k) hx hb hr (qJ_of hS) hS.2.2 (by decide +kernel)
theorem c_chN (l : Launch) {k n : Nat} (hk : k < n) (hn : n < 2 ^ 31) : Met l yChP (wsJ yChP prog_27_method_11_code 3 (some .int)) (rmJ 0) (va_Pc [.int (nI k), .int (nI n), .null] (fun _ => True)) (qJ (nI k)) 0 0 noA := by
  refine Met.ofW (cc := prog_27_method_11_code) (maxL := 3) (ret := some .int) (by decide +kernel) rfl ?_
  intro p e s m args below meth c s₁ B hml hv
  obtain ⟨rfl, hj⟩ := hv
  have hx := B.exec
  have hb := B.bytes
  have hr := B.returns
  have hown : s.vm.findClass "jdk/internal/util/Preconditions" = some m.cls := findClass_of_methodNamed B.named
  have hts : ∀ w ∈ gtbl, w.before _ s = true := fun w hw => atoms_spec (ws := wsJ yChP prog_27_method_11_code 3 (some .int)) B.pre w (List.mem_cons_of_mem _ hw)
  have hl := lv_entry ([.int (nI k), .int (nI n), .null]) (n := 3) (Nat.le_of_ble_eq_true rfl)
  rw [lg_entry_eq]
  generalize (lg_sl ([.int (nI k), .int (nI n), .null]) ++ List.replicate (3 - (lg_sl ([.int (nI k), .int (nI n), .null])).length) Slot.unset).toArray = ls at hl ⊢
  have hS : va_S noA s.heap s.heap [] := va_S.rf
  have hl : lv_has ls 3 [(0, .int (nI k)), (1, .int (nI n)), (2, .null)] := hl
  refine lv_iload_n hx hb (k := 0) (by decide +kernel) rfl (lv_at hl 0 rfl) ?_
  refine lv_if_lt (tgt := 9) hx hb (off := 8) (by decide +kernel) (by decide) (fun h => absurd h (nI_pos (by omega))) (fun _ => ?_)
  refine lv_iload_n hx hb (k := 0) (by decide +kernel) rfl (lv_at hl 0 rfl) ?_
  refine lv_iload_n hx hb (k := 1) (by decide +kernel) rfl (lv_at hl 1 rfl) ?_
  refine lv_icmp_lt (tgt := 16) hx hb (off := 10) (by decide +kernel) (by decide) (fun _ => ?_) (fun h => absurd (nI_lt hk hn) h)
  refine lv_iload_n hx hb (k := 0) (by decide +kernel) rfl (lv_at hl 0 rfl) ?_
  exact W.iret (v := nI k) hx hb hr (qJ_of hS) hS.2.2 (by decide +kernel)
abbrev qV : Array Value → State → Outcome → State → Prop := va_Qv (fun (_ : Unit) => True) (fun _ _ => True) noA
theorem c_chk (l : Launch) {k n : Nat} (hk : k < n) (hn : n < 2 ^ 31) : Met l yChk (wsJ yChk prog_18_method_155_code 2 none) (rmJ 1) (va_Pc [.int (nI k), .int (nI n)] (fun U => jS A adK adV U U.heap)) qV 0 0 noA := by
  refine Met.ofW (cc := prog_18_method_155_code) (maxL := 2) (ret := none) (by decide +kernel) rfl ?_
  intro p e s m args below meth c s₁ B hml hv
  obtain ⟨rfl, hj⟩ := hv
  have hx := B.exec
  have hb := B.bytes
  have hr := B.returns
  have hown : s.vm.findClass "java/lang/String" = some m.cls := findClass_of_methodNamed B.named
  have hts : ∀ w ∈ gtbl, w.before _ s = true := fun w hw => atoms_spec (ws := wsJ yChk prog_18_method_155_code 2 (none)) B.pre w (List.mem_cons_of_mem _ hw)
  have hl := lv_entry ([.int (nI k), .int (nI n)]) (n := 2) (Nat.le_of_ble_eq_true rfl)
  rw [lg_entry_eq]
  generalize (lg_sl ([.int (nI k), .int (nI n)]) ++ List.replicate (2 - (lg_sl ([.int (nI k), .int (nI n)])).length) Slot.unset).toArray = ls at hl ⊢
  have hS : va_S noA s.heap s.heap [] := va_S.rf
  have hl : lv_has ls 2 [(0, .int (nI k)), (1, .int (nI n))] := hl
  have fin : ∀ (H : Heap) (locs : List Loc), va_S noA s.heap H locs → W p l e (headSpec (wsJ yChk prog_18_method_155_code 2 none) (rmJ 1)).room s m ([Value.int (nI k), .int (nI n)] : List Value).toArray below meth c H locs 0 0 (MQ below qV ([Value.int (nI k), .int (nI n)] : List Value).toArray s 0 0 noA) (F0 m 8 ls [.int (nI k)]) := by
    intro H locs hS
    refine lv_pop hx hb (by decide +kernel) rfl ?_
    exact W.vret hx hb hr (fun t ht _ => ⟨⟨(), rfl, trivial, trivial⟩, hS.F ht⟩) hS.2.2 (by decide +kernel)
  refine lv_iload_n hx hb (k := 0) (by decide +kernel) rfl (lv_at hl 0 rfl) ?_
  refine lv_iload_n hx hb (k := 1) (by decide +kernel) rfl (lv_at hl 1 rfl) ?_
  rcases hj.2.2 with hZ | ⟨t9, hZ⟩
  · refine va_gets hx hb hZ (vS0 hS) hown (hts (.fieldLink "java/lang/String" 1053 "jdk/internal/util/Preconditions" "SIOOBE_FORMATTER" "Ljava/util/function/BiFunction;") (tb1 135 rfl rfl)) (fun _ h => h) (by decide +kernel) ?_
    refine va_calli (va_runS (Ts := gtbl) (As := [.int (nI k), .int (nI n), .null]) (rest := []) ⟨hx, hb, hml, hown, hts⟩ (c_chN l hk hn) (va_cwS 3 hts (gJ (tb1 139 rfl rfl) (mm3 (tb1 137 rfl rfl) (tb1 138 rfl rfl) (tb1 7 rfl rfl))) rfl rfl rfl (by decide +kernel) ⟨Nat.le_of_ble_eq_true rfl, Nat.le_of_ble_eq_true rfl⟩) ⟨jBlind2, fun U hU hW => ⟨rfl, trivial⟩⟩ rfl rfl hl.1 rfl (lv_room (Nat.le_of_ble_eq_true rfl)) (show decode prog_18_method_155_code 5 = .ok (.invokestatic 1059, 3) by decide +kernel) ⟨Nat.le_of_ble_eq_true rfl, Nat.le_of_ble_eq_true rfl⟩) hS (fun _ _ h => h) (fun _ h => h) (fun r u t H locs ht hvm hw hB hz1 hk1 hS => ?_)
    subst hw
    exact fin H locs hS
  · refine va_gets hx hb hZ (vS0 hS) hown (hts (.fieldLink "java/lang/String" 1053 "jdk/internal/util/Preconditions" "SIOOBE_FORMATTER" "Ljava/util/function/BiFunction;") (tb1 135 rfl rfl)) (fun _ h => h) (by decide +kernel) ?_
    refine va_calli (va_runS (Ts := gtbl) (As := [.int (nI k), .int (nI n), .ref t9]) (rest := []) ⟨hx, hb, hml, hown, hts⟩ (c_chP l hk hn) (va_cwS 3 hts (gJ (tb1 139 rfl rfl) (mm3 (tb1 137 rfl rfl) (tb1 138 rfl rfl) (tb1 7 rfl rfl))) rfl rfl rfl (by decide +kernel) ⟨Nat.le_of_ble_eq_true rfl, Nat.le_of_ble_eq_true rfl⟩) ⟨jBlind2, fun U hU hW => ⟨rfl, trivial⟩⟩ rfl rfl hl.1 rfl (lv_room (Nat.le_of_ble_eq_true rfl)) (show decode prog_18_method_155_code 5 = .ok (.invokestatic 1059, 3) by decide +kernel) ⟨Nat.le_of_ble_eq_true rfl, Nat.le_of_ble_eq_true rfl⟩) hS (fun _ _ h => h) (fun _ h => h) (fun r u t H locs ht hvm hw hB hz1 hk1 hS => ?_)
    subst hw
    exact fin H locs hS
theorem c_chB (l : Launch) {k : Nat} (hi : i < 9) (hk : k < lenW.getD i 0) : Met l yChB (wsJ yChB prog_19_method_2_code 2 (some .char)) (rmJ 2) (va_Pc [.ref (adV i), .int (nI k)] (fun U => jS A adK adV U U.heap)) (qJ (chW i k)) 0 0 noA := by
  refine Met.ofW (cc := prog_19_method_2_code) (maxL := 2) (ret := some .char) (by decide +kernel) rfl ?_
  intro p e s m args below meth c s₁ B hml hv
  obtain ⟨rfl, hj⟩ := hv
  have hx := B.exec
  have hb := B.bytes
  have hr := B.returns
  have hown : s.vm.findClass "java/lang/StringLatin1" = some m.cls := findClass_of_methodNamed B.named
  have hts : ∀ w ∈ gtbl, w.before _ s = true := fun w hw => atoms_spec (ws := wsJ yChB prog_19_method_2_code 2 (some .char)) B.pre w (List.mem_cons_of_mem _ hw)
  have hl := lv_entry ([.ref (adV i), .int (nI k)]) (n := 2) (Nat.le_of_ble_eq_true rfl)
  rw [lg_entry_eq]
  generalize (lg_sl ([.ref (adV i), .int (nI k)]) ++ List.replicate (2 - (lg_sl ([.ref (adV i), .int (nI k)])).length) Slot.unset).toArray = ls at hl ⊢
  have hS : va_S noA s.heap s.heap [] := va_S.rf
  have hl : lv_has ls 2 [(0, .ref (adV i)), (1, .int (nI k))] := hl
  have hn := len_W i hi
  refine lv_iload_n hx hb (k := 1) (by decide +kernel) rfl (lv_at hl 1 rfl) ?_
  refine lv_aload_n hx hb (k := 0) (by decide +kernel) rfl (lv_at hl 0 rfl) ?_
  refine va_tlen hx hb (v := nI (lenW.getD i 0)) (hj.1.1 i hi).2.2.2 (vS0 hS) rfl (by decide +kernel) ?_
  refine va_callv (va_runS (Ts := gtbl) (As := [.int (nI k), .int (nI (lenW.getD i 0))]) (rest := []) ⟨hx, hb, hml, hown, hts⟩ (c_chk l hk (show lenW.getD i 0 < 2 ^ 31 by omega) (A := A) (adK := adK) (adV := adV)) (va_cwS 2 hts (gJ (tb1 134 rfl rfl) (mm3 (tb1 132 rfl rfl) (tb1 133 rfl rfl) (tb1 5 rfl rfl))) rfl rfl rfl (by decide +kernel) ⟨Nat.le_of_ble_eq_true rfl, Nat.le_of_ble_eq_true rfl⟩) ⟨jBlind, fun U hU hW => ⟨rfl, hj.at hS U hU hW⟩⟩ rfl rfl hl.1 rfl (lv_room (Nat.le_of_ble_eq_true rfl)) (show decode prog_19_method_2_code 3 = .ok (.invokestatic 9, 3) by decide +kernel) ⟨Nat.le_of_ble_eq_true rfl, Nat.le_of_ble_eq_true rfl⟩) hS (fun _ _ h => h) (fun _ h => h) (fun u t H locs ht hvm hw hB hz1 hk1 hS => ?_)
  refine lv_aload_n hx hb (k := 0) (by decide +kernel) rfl (lv_at hl 0 rfl) ?_
  refine lv_iload_n hx hb (k := 1) (by decide +kernel) rfl (lv_at hl 1 rfl) ?_
  refine va_tb hx hb (v := .int (chW i k)) (hj.1.1 i hi).2.2.2 (vS0 hS) (vp_in_nI hk (by omega)) (by rw [nI_clamp (by omega)]; rfl) (by decide +kernel) ?_
  refine lv_sipush (n := 255) (v := 255) hx hb (by decide +kernel) (by decide) ?_
  refine lv_iand hx hb (by decide +kernel) ?_
  refine lv_i2c (v := chW i k) hx hb (by decide +kernel) (ch_W i hi k hk).1 ?_
  exact W.zret (v := chW i k) hx hb hr (ch_W i hi k hk).2 (qJ_of hS) hS.2.2 (by decide +kernel)
theorem c_cha (l : Launch) {k : Nat} (hi : i < 9) (hk : k < lenW.getD i 0) : Met l yCha (wsJ yCha prog_18_method_56_code 2 (some .char)) (rmJ 3) (va_Pc [.ref (adK i), .int (nI k)] (fun U => jS A adK adV U U.heap)) (qJ (chW i k)) 0 0 noA := by
  refine Met.ofW (cc := prog_18_method_56_code) (maxL := 2) (ret := some .char) (by decide +kernel) rfl ?_
  intro p e s m args below meth c s₁ B hml hv
  obtain ⟨rfl, hj⟩ := hv
  have hx := B.exec
  have hb := B.bytes
  have hr := B.returns
  have hown : s.vm.findClass "java/lang/String" = some m.cls := findClass_of_methodNamed B.named
  have hts : ∀ w ∈ gtbl, w.before _ s = true := fun w hw => atoms_spec (ws := wsJ yCha prog_18_method_56_code 2 (some .char)) B.pre w (List.mem_cons_of_mem _ hw)
  have hl := lv_entry ([.ref (adK i), .int (nI k)]) (n := 2) (Nat.le_of_ble_eq_true rfl)
  rw [lg_entry_eq]
  generalize (lg_sl ([.ref (adK i), .int (nI k)]) ++ List.replicate (2 - (lg_sl ([.ref (adK i), .int (nI k)])).length) Slot.unset).toArray = ls at hl ⊢
  have hS : va_S noA s.heap s.heap [] := va_S.rf
  have hl : lv_has ls 2 [(0, .ref (adK i)), (1, .int (nI k))] := hl
  refine lv_aload_n hx hb (k := 0) (by decide +kernel) rfl (lv_at hl 0 rfl) ?_
  refine va_calli (va_runV (Ts := gtbl) (As := []) (rest := []) ⟨hx, hb, hml, hown, hts⟩ (c_lat l hi (A := A) (adK := adK) (adV := adV)) (cwV (C := "java/lang/String") 0 hts (gJ (tb1 128 rfl rfl) (mm4 (tb1 125 rfl rfl) (tb1 126 rfl rfl) (tb1 127 rfl rfl) (tb1 5 rfl rfl))) rfl rfl rfl (by decide +kernel) ⟨Nat.le_of_ble_eq_true rfl, Nat.le_of_ble_eq_true rfl⟩) ⟨jBlind, vk_recv hj.1 hi (vS0 hS), fun U hU hW => ⟨rfl, hj.at hS U hU hW⟩⟩ rfl rfl hl.1 rfl (lv_room (Nat.le_of_ble_eq_true rfl)) (show decode prog_18_method_56_code 1 = .ok (.invokevirtual 492, 3) by decide +kernel) ⟨Nat.le_of_ble_eq_true rfl, Nat.le_of_ble_eq_true rfl⟩) hS (fun _ _ h => h) (fun _ h => h) (fun r u t H locs ht hvm hw hB hz1 hk1 hS => ?_)
  subst hw
  refine lv_if_eq (tgt := 16) hx hb (off := 12) (by decide +kernel) (by decide) (fun h => absurd h (by decide)) (fun _ => ?_)
  refine lv_aload_n hx hb (k := 0) (by decide +kernel) rfl (lv_at hl 0 rfl) ?_
  refine vk_getf hx hb (hj.1.1 i hi).2.2.1 (vS0 hS) hown (hts (.fieldLink "java/lang/String" 9 "java/lang/String" "value" "[B") (tb6 166 rfl rfl)) (fun _ h => h) (by decide +kernel) ?_
  refine lv_iload_n hx hb (k := 1) (by decide +kernel) rfl (lv_at hl 1 rfl) ?_
  refine va_calli (va_runS (Ts := gtbl) (As := [.ref (adV i), .int (nI k)]) (rest := []) ⟨hx, hb, hml, hown, hts⟩ (c_chB l hi hk (A := A) (adK := adK) (adV := adV)) (va_cwS 2 hts (gJ (tb1 131 rfl rfl) (mm3 (tb1 129 rfl rfl) (tb1 130 rfl rfl) (tb1 6 rfl rfl))) rfl rfl rfl (by decide +kernel) ⟨Nat.le_of_ble_eq_true rfl, Nat.le_of_ble_eq_true rfl⟩) ⟨jBlind, fun U hU hW => ⟨rfl, hj.at hS U hU hW⟩⟩ rfl rfl hl.1 rfl (lv_room (Nat.le_of_ble_eq_true rfl)) (show decode prog_18_method_56_code 12 = .ok (.invokestatic 495, 3) by decide +kernel) ⟨Nat.le_of_ble_eq_true rfl, Nat.le_of_ble_eq_true rfl⟩) hS (fun _ _ h => h) (fun _ h => h) (fun r u t H locs ht hvm hw hB hz1 hk1 hS => ?_)
  subst hw
  exact W.zret (v := chW i k) hx hb hr (ch_W i hi k hk).2 (qJ_of hS) hS.2.2 (by decide +kernel)
end JDK
