/-! links, by wip/whole/tools/gen03.py -/
def lkN {α : Type} : List (Nat × α) → Nat → Option α
  | [], _ => none
  | q :: t, i => bif q.1 == i then some q.2 else lkN t i
theorem lkN_mem {α : Type} : ∀ {l : List (Nat × α)} {i : Nat} {a : α}, lkN l i = some a → (i, a) ∈ l
  | [], _, _, h => by cases h
  | q :: t, i, a, h => by
    unfold lkN at h
    cases hq : q.1 == i with
    | true =>
      rw [hq] at h
      have e : q = (i, a) := by cases q; simp at hq h; rw [hq, h]
      rw [e]; exact List.mem_cons_self
    | false =>
      rw [hq] at h
      exact List.mem_cons_of_mem _ (lkN_mem h)
def nestWs : List Cond := [Cond.methodLinkNest "RenvoiDesk$Reader" 11 ⟨"RenvoiDesk$Tape", "<init>", "()V"⟩ "RenvoiDesk", Cond.methodLinkNest "RenvoiDesk$Reader" 33 ⟨"RenvoiDesk$Told", "<init>", "()V"⟩ "RenvoiDesk", Cond.methodLinkNest "RenvoiDesk" 23 ⟨"RenvoiDesk$Roads", "<init>", "()V"⟩ "RenvoiDesk", Cond.methodLinkNest "RenvoiDesk" 30 ⟨"RenvoiDesk$Deeds", "<init>", "()V"⟩ "RenvoiDesk", Cond.methodLinkNest "RenvoiDesk$Deeds" 11 ⟨"RenvoiDesk$Roads", "<init>", "()V"⟩ "RenvoiDesk", Cond.methodLinkNest "RenvoiDesk$Deeds" 20 ⟨"RenvoiDesk$Told", "<init>", "()V"⟩ "RenvoiDesk", Cond.methodLinkNest "RenvoiDesk" 37 ⟨"RenvoiDesk$Past", "<init>", "()V"⟩ "RenvoiDesk", Cond.methodLinkNest "RenvoiDesk" 44 ⟨"RenvoiDesk$Told", "<init>", "()V"⟩ "RenvoiDesk"]
set_option maxRecDepth 20000 in
theorem nest_in : ∀ w ∈ nestWs, w ∈ lw_tbl := (List.forall_mem_cons.mpr ⟨List.mem_append_right _ (List.mem_append_left _ (List.mem_of_getElem? (i := 38) rfl)), (List.forall_mem_cons.mpr ⟨List.mem_append_right _ (List.mem_append_left _ (List.mem_of_getElem? (i := 71) rfl)), (List.forall_mem_cons.mpr ⟨List.mem_append_right _ (List.mem_append_left _ (List.mem_of_getElem? (i := 201) rfl)), (List.forall_mem_cons.mpr ⟨List.mem_append_right _ (List.mem_append_left _ (List.mem_of_getElem? (i := 238) rfl)), (List.forall_mem_cons.mpr ⟨List.mem_append_right _ (List.mem_append_right _ (List.mem_append_left _ (List.mem_of_getElem? (i := 3) rfl))), (List.forall_mem_cons.mpr ⟨List.mem_append_right _ (List.mem_append_right _ (List.mem_append_left _ (List.mem_of_getElem? (i := 5) rfl))), (List.forall_mem_cons.mpr ⟨List.mem_append_right _ (List.mem_append_right _ (List.mem_append_left _ (List.mem_of_getElem? (i := 15) rfl))), (List.forall_mem_cons.mpr ⟨List.mem_append_right _ (List.mem_append_right _ (List.mem_append_left _ (List.mem_of_getElem? (i := 37) rfl))), (fun _ h => absurd h List.not_mem_nil)⟩)⟩)⟩)⟩)⟩)⟩)⟩)⟩)
theorem nest_is : ∀ w ∈ nestWs, ∃ (a : String) (i : Nat) (x : MethodName) (h : String), w = .methodLinkNest a i x h := by
  intro w h
  simp only [nestWs, List.mem_cons, List.not_mem_nil, or_false] at h
  rcases h with h | h | h | h | h | h | h | h <;> exact ⟨_, _, _, _, h⟩
def callsL : List (List (Nat × Nat)) := [[(3, 1000), (11, 31), (20, 54), (25, 73), (29, 68), (37, 32), (41, 44), (44, 4), (51, 71), (57, 72), (61, 1), (65, 218), (70, 56), (73, 2), (77, 5)], [(1, 1000), (28, 57), (32, 1002), (38, 58)], [(3, 1000), (11, 45), (33, 54), (40, 14), (68, 52), (72, 55), (86, 48), (90, 49), (96, 16), (100, 28), (103, 17), (106, 18), (109, 19), (112, 20), (115, 21), (118, 22), (121, 30), (128, 23), (132, 25), (136, 59), (139, 26), (145, 60), (151, 24), (154, 61), (160, 62), (163, 76), (166, 77), (170, 75), (174, 27), (180, 29)], [(3, 1000), (34, 83), (38, 76), (42, 78), (45, 71), (48, 79), (52, 69), (55, 74), (67, 33), (71, 34), (74, 35), (78, 38), (82, 40), (86, 39), (89, 41)], [(1, 1000), (20, 1002), (26, 1001), (32, 53), (45, 50), (48, 51), (51, 52)], [(5, 1000), (18, 220), (37, 1003), (43, 63), (47, 64), (50, 65), (53, 66), (56, 67), (60, 76), (64, 80), (68, 83), (71, 88), (74, 86), (78, 90), (81, 71), (84, 72)], [(3, 1000), (11, 13), (23, 31), (30, 0), (37, 7), (44, 54), (49, 46), (55, 47), (63, 15), (70, 8), (73, 63), (76, 69), (79, 80), (82, 82), (85, 71), (88, 67), (99, 83), (102, 76), (106, 78), (109, 79), (112, 74), (115, 73), (118, 32), (122, 35), (126, 36), (135, 64), (141, 37), (145, 219), (151, 104), (155, 107), (158, 41), (161, 39), (164, 42), (167, 108), (170, 43), (173, 112), (182, 66), (185, 1), (191, 68), (195, 3), (199, 2), (203, 4), (207, 5), (210, 6), (213, 65), (216, 9), (219, 72), (223, 70), (226, 77), (230, 75), (234, 86), (237, 84), (240, 87), (243, 89), (246, 10), (253, 12), (256, 11), (262, 81), (265, 85)], [(1, 1000), (53, 132), (66, 134), (84, 131), (110, 137), (116, 138), (134, 136), (141, 135), (147, 141), (150, 142), (153, 139), (157, 143), (166, 144), (169, 140), (173, 145), (177, 146), (181, 147), (184, 148), (187, 149), (190, 152), (193, 150), (196, 151), (199, 154), (202, 153), (208, 160), (212, 156), (215, 161), (218, 162), (221, 158), (224, 157), (229, 165), (232, 159), (241, 172), (247, 166), (250, 171), (253, 173), (257, 177), (260, 179), (264, 180), (267, 181), (274, 183), (278, 182), (283, 190), (286, 191), (289, 192), (292, 193), (295, 198), (298, 200), (301, 201), (304, 206), (307, 209), (310, 213), (313, 214)], [(7, 96), (15, 91), (18, 129), (19, 92), (23, 133), (24, 93), (28, 155), (29, 94), (33, 163), (34, 95), (37, 164), (38, 216), (43, 167), (44, 130), (48, 97), (51, 168), (52, 98), (55, 169), (56, 99), (59, 170), (60, 100), (63, 174), (64, 101), (67, 175), (68, 102), (71, 176), (72, 103), (75, 178), (76, 105), (79, 184), (80, 106), (83, 185), (84, 109), (87, 186), (88, 110), (91, 187), (92, 111), (95, 188), (96, 113), (100, 189), (101, 114), (104, 194), (105, 115), (108, 195), (109, 116), (112, 196), (113, 117), (116, 197), (117, 118), (120, 199), (121, 119), (124, 202), (125, 120), (128, 203), (129, 121), (133, 204), (134, 122), (137, 205), (138, 123), (141, 207), (142, 124), (145, 208), (146, 125), (150, 210), (151, 126), (154, 211), (155, 127), (159, 212), (160, 128), (163, 215)], [], [], []]
def callOf (own idx : Nat) : Option Nat := lkN (callsL.getD own []) idx
def callOK (own idx q : Nat) : Prop := (q < 221 ∧ Cond.methodLink (oName own) idx (mName q) ∈ gtbl) ∨ (q < 216 ∧ mKind q = 2 ∧ Cond.methodLinkNest (oName own) idx (mName q) "RenvoiDesk" ∈ nestWs) ∨ (q = 1000 ∧ Cond.methodLink (oName own) idx objectInit ∈ gtbl) ∨ (q = 1001 ∧ Cond.methodLink (oName own) idx Lib.Math.max.name ∈ gtbl) ∨ (q = 1002 ∧ Cond.methodLink (oName own) idx Lib.Math.min.name ∈ gtbl) ∨ (q = 1003 ∧ Cond.methodLink (oName own) idx arraycopyName ∈ gtbl)
set_option maxRecDepth 20000 in
theorem ca_0_0 : callOK 0 3 1000 := Or.inr (Or.inr (Or.inl ⟨rfl, tb2 1 rfl rfl⟩))
set_option maxRecDepth 20000 in
theorem ca_0_1 : callOK 0 11 31 := Or.inr (Or.inl ⟨by decide, by decide, List.mem_of_getElem? (i := 4) rfl⟩)
set_option maxRecDepth 20000 in
theorem ca_0_2 : callOK 0 20 54 := Or.inr (Or.inl ⟨by decide, by decide, List.mem_of_getElem? (i := 5) rfl⟩)
set_option maxRecDepth 20000 in
theorem ca_0_3 : callOK 0 25 73 := Or.inl ⟨by decide, tb3 164 rfl rfl⟩
set_option maxRecDepth 20000 in
theorem ca_0_4 : callOK 0 29 68 := Or.inl ⟨by decide, tb3 165 rfl rfl⟩
set_option maxRecDepth 20000 in
theorem ca_0_5 : callOK 0 37 32 := Or.inl ⟨by decide, tb3 169 rfl rfl⟩
set_option maxRecDepth 20000 in
theorem ca_0_6 : callOK 0 41 44 := Or.inl ⟨by decide, tb3 170 rfl rfl⟩
set_option maxRecDepth 20000 in
theorem ca_0_7 : callOK 0 44 4 := Or.inl ⟨by decide, tb3 191 rfl rfl⟩
set_option maxRecDepth 20000 in
theorem ca_0_8 : callOK 0 51 71 := Or.inl ⟨by decide, tb3 202 rfl rfl⟩
set_option maxRecDepth 20000 in
theorem ca_0_9 : callOK 0 57 72 := Or.inl ⟨by decide, tb3 203 rfl rfl⟩
set_option maxRecDepth 20000 in
theorem ca_0_10 : callOK 0 61 1 := Or.inl ⟨by decide, tb3 207 rfl rfl⟩
set_option maxRecDepth 20000 in
theorem ca_0_11 : callOK 0 65 218 := Or.inl ⟨by decide, tb3 208 rfl rfl⟩
set_option maxRecDepth 20000 in
theorem ca_0_12 : callOK 0 70 56 := Or.inl ⟨by decide, tb3 195 rfl rfl⟩
set_option maxRecDepth 20000 in
theorem ca_0_13 : callOK 0 73 2 := Or.inl ⟨by decide, tb3 227 rfl rfl⟩
set_option maxRecDepth 20000 in
theorem ca_0_14 : callOK 0 77 5 := Or.inl ⟨by decide, tb3 232 rfl rfl⟩
set_option maxRecDepth 20000 in
theorem ca_0 : ∀ e ∈ callsL.getD 0 [], callOK 0 e.1 e.2 := (List.forall_mem_cons.mpr ⟨ca_0_0, (List.forall_mem_cons.mpr ⟨ca_0_1, (List.forall_mem_cons.mpr ⟨ca_0_2, (List.forall_mem_cons.mpr ⟨ca_0_3, (List.forall_mem_cons.mpr ⟨ca_0_4, (List.forall_mem_cons.mpr ⟨ca_0_5, (List.forall_mem_cons.mpr ⟨ca_0_6, (List.forall_mem_cons.mpr ⟨ca_0_7, (List.forall_mem_cons.mpr ⟨ca_0_8, (List.forall_mem_cons.mpr ⟨ca_0_9, (List.forall_mem_cons.mpr ⟨ca_0_10, (List.forall_mem_cons.mpr ⟨ca_0_11, (List.forall_mem_cons.mpr ⟨ca_0_12, (List.forall_mem_cons.mpr ⟨ca_0_13, (List.forall_mem_cons.mpr ⟨ca_0_14, (fun _ h => absurd h List.not_mem_nil)⟩)⟩)⟩)⟩)⟩)⟩)⟩)⟩)⟩)⟩)⟩)⟩)⟩)⟩)⟩)
set_option maxRecDepth 20000 in
theorem ca_1_0 : callOK 1 1 1000 := Or.inr (Or.inr (Or.inl ⟨rfl, tb2 18 rfl rfl⟩))
set_option maxRecDepth 20000 in
theorem ca_1_1 : callOK 1 28 57 := Or.inl ⟨by decide, tb4 2 rfl rfl⟩
set_option maxRecDepth 20000 in
theorem ca_1_2 : callOK 1 32 1002 := Or.inr (Or.inr (Or.inr (Or.inr (Or.inl ⟨rfl, tb4 6 rfl rfl⟩))))
set_option maxRecDepth 20000 in
theorem ca_1_3 : callOK 1 38 58 := Or.inl ⟨by decide, tb4 73 rfl rfl⟩
set_option maxRecDepth 20000 in
theorem ca_1 : ∀ e ∈ callsL.getD 1 [], callOK 1 e.1 e.2 := (List.forall_mem_cons.mpr ⟨ca_1_0, (List.forall_mem_cons.mpr ⟨ca_1_1, (List.forall_mem_cons.mpr ⟨ca_1_2, (List.forall_mem_cons.mpr ⟨ca_1_3, (fun _ h => absurd h List.not_mem_nil)⟩)⟩)⟩)⟩)
set_option maxRecDepth 20000 in
theorem ca_2_0 : callOK 2 3 1000 := Or.inr (Or.inr (Or.inl ⟨rfl, tb1 35 rfl rfl⟩))
set_option maxRecDepth 20000 in
theorem ca_2_1 : callOK 2 11 45 := Or.inr (Or.inl ⟨by decide, by decide, List.mem_of_getElem? (i := 0) rfl⟩)
set_option maxRecDepth 20000 in
theorem ca_2_2 : callOK 2 33 54 := Or.inr (Or.inl ⟨by decide, by decide, List.mem_of_getElem? (i := 1) rfl⟩)
set_option maxRecDepth 20000 in
theorem ca_2_3 : callOK 2 40 14 := Or.inl ⟨by decide, tb1 108 rfl rfl⟩
set_option maxRecDepth 20000 in
theorem ca_2_4 : callOK 2 68 52 := Or.inl ⟨by decide, tb1 159 rfl rfl⟩
set_option maxRecDepth 20000 in
theorem ca_2_5 : callOK 2 72 55 := Or.inl ⟨by decide, tb2 77 rfl rfl⟩
set_option maxRecDepth 20000 in
theorem ca_2_6 : callOK 2 86 48 := Or.inl ⟨by decide, tb2 84 rfl rfl⟩
set_option maxRecDepth 20000 in
theorem ca_2_7 : callOK 2 90 49 := Or.inl ⟨by decide, tb2 94 rfl rfl⟩
set_option maxRecDepth 20000 in
theorem ca_2_8 : callOK 2 96 16 := Or.inl ⟨by decide, tb2 110 rfl rfl⟩
set_option maxRecDepth 20000 in
theorem ca_2_9 : callOK 2 100 28 := Or.inl ⟨by decide, tb2 114 rfl rfl⟩
set_option maxRecDepth 20000 in
theorem ca_2_10 : callOK 2 103 17 := Or.inl ⟨by decide, tb2 118 rfl rfl⟩
set_option maxRecDepth 20000 in
theorem ca_2_11 : callOK 2 106 18 := Or.inl ⟨by decide, tb2 150 rfl rfl⟩
set_option maxRecDepth 20000 in
theorem ca_2_12 : callOK 2 109 19 := Or.inl ⟨by decide, tb2 158 rfl rfl⟩
set_option maxRecDepth 20000 in
theorem ca_2_13 : callOK 2 112 20 := Or.inl ⟨by decide, tb2 170 rfl rfl⟩
set_option maxRecDepth 20000 in
theorem ca_2_14 : callOK 2 115 21 := Or.inl ⟨by decide, tb2 178 rfl rfl⟩
set_option maxRecDepth 20000 in
theorem ca_2_15 : callOK 2 118 22 := Or.inl ⟨by decide, tb2 202 rfl rfl⟩
set_option maxRecDepth 20000 in
theorem ca_2_16 : callOK 2 121 30 := Or.inl ⟨by decide, tb2 122 rfl rfl⟩
set_option maxRecDepth 20000 in
theorem ca_2_17 : callOK 2 128 23 := Or.inl ⟨by decide, tb2 126 rfl rfl⟩
set_option maxRecDepth 20000 in
theorem ca_2_18 : callOK 2 132 25 := Or.inl ⟨by decide, tb2 138 rfl rfl⟩
set_option maxRecDepth 20000 in
theorem ca_2_19 : callOK 2 136 59 := Or.inl ⟨by decide, tb2 142 rfl rfl⟩
set_option maxRecDepth 20000 in
theorem ca_2_20 : callOK 2 139 26 := Or.inl ⟨by decide, tb2 146 rfl rfl⟩
set_option maxRecDepth 20000 in
theorem ca_2_21 : callOK 2 145 60 := Or.inl ⟨by decide, tb2 154 rfl rfl⟩
set_option maxRecDepth 20000 in
theorem ca_2_22 : callOK 2 151 24 := Or.inl ⟨by decide, tb2 162 rfl rfl⟩
set_option maxRecDepth 20000 in
theorem ca_2_23 : callOK 2 154 61 := Or.inl ⟨by decide, tb2 166 rfl rfl⟩
set_option maxRecDepth 20000 in
theorem ca_2_24 : callOK 2 160 62 := Or.inl ⟨by decide, tb2 174 rfl rfl⟩
set_option maxRecDepth 20000 in
theorem ca_2_25 : callOK 2 163 76 := Or.inl ⟨by decide, tb2 182 rfl rfl⟩
set_option maxRecDepth 20000 in
theorem ca_2_26 : callOK 2 166 77 := Or.inl ⟨by decide, tb2 198 rfl rfl⟩
set_option maxRecDepth 20000 in
theorem ca_2_27 : callOK 2 170 75 := Or.inl ⟨by decide, tb2 206 rfl rfl⟩
set_option maxRecDepth 20000 in
theorem ca_2_28 : callOK 2 174 27 := Or.inl ⟨by decide, tb2 130 rfl rfl⟩
set_option maxRecDepth 20000 in
theorem ca_2_29 : callOK 2 180 29 := Or.inl ⟨by decide, tb2 134 rfl rfl⟩
set_option maxRecDepth 20000 in
theorem ca_2 : ∀ e ∈ callsL.getD 2 [], callOK 2 e.1 e.2 := (List.forall_mem_cons.mpr ⟨ca_2_0, (List.forall_mem_cons.mpr ⟨ca_2_1, (List.forall_mem_cons.mpr ⟨ca_2_2, (List.forall_mem_cons.mpr ⟨ca_2_3, (List.forall_mem_cons.mpr ⟨ca_2_4, (List.forall_mem_cons.mpr ⟨ca_2_5, (List.forall_mem_cons.mpr ⟨ca_2_6, (List.forall_mem_cons.mpr ⟨ca_2_7, (List.forall_mem_cons.mpr ⟨ca_2_8, (List.forall_mem_cons.mpr ⟨ca_2_9, (List.forall_mem_cons.mpr ⟨ca_2_10, (List.forall_mem_cons.mpr ⟨ca_2_11, (List.forall_mem_cons.mpr ⟨ca_2_12, (List.forall_mem_cons.mpr ⟨ca_2_13, (List.forall_mem_cons.mpr ⟨ca_2_14, (List.forall_mem_cons.mpr ⟨ca_2_15, (List.forall_mem_cons.mpr ⟨ca_2_16, (List.forall_mem_cons.mpr ⟨ca_2_17, (List.forall_mem_cons.mpr ⟨ca_2_18, (List.forall_mem_cons.mpr ⟨ca_2_19, (List.forall_mem_cons.mpr ⟨ca_2_20, (List.forall_mem_cons.mpr ⟨ca_2_21, (List.forall_mem_cons.mpr ⟨ca_2_22, (List.forall_mem_cons.mpr ⟨ca_2_23, (List.forall_mem_cons.mpr ⟨ca_2_24, (List.forall_mem_cons.mpr ⟨ca_2_25, (List.forall_mem_cons.mpr ⟨ca_2_26, (List.forall_mem_cons.mpr ⟨ca_2_27, (List.forall_mem_cons.mpr ⟨ca_2_28, (List.forall_mem_cons.mpr ⟨ca_2_29, (fun _ h => absurd h List.not_mem_nil)⟩)⟩)⟩)⟩)⟩)⟩)⟩)⟩)⟩)⟩)⟩)⟩)⟩)⟩)⟩)⟩)⟩)⟩)⟩)⟩)⟩)⟩)⟩)⟩)⟩)⟩)⟩)⟩)⟩)⟩)
set_option maxRecDepth 20000 in
theorem ca_3_0 : callOK 3 3 1000 := Or.inr (Or.inr (Or.inl ⟨rfl, tb1 204 rfl rfl⟩))
set_option maxRecDepth 20000 in
theorem ca_3_1 : callOK 3 34 83 := Or.inl ⟨by decide, tb3 42 rfl rfl⟩
set_option maxRecDepth 20000 in
theorem ca_3_2 : callOK 3 38 76 := Or.inl ⟨by decide, tb3 43 rfl rfl⟩
set_option maxRecDepth 20000 in
theorem ca_3_3 : callOK 3 42 78 := Or.inl ⟨by decide, tb3 44 rfl rfl⟩
set_option maxRecDepth 20000 in
theorem ca_3_4 : callOK 3 45 71 := Or.inl ⟨by decide, tb3 47 rfl rfl⟩
set_option maxRecDepth 20000 in
theorem ca_3_5 : callOK 3 48 79 := Or.inl ⟨by decide, tb3 48 rfl rfl⟩
set_option maxRecDepth 20000 in
theorem ca_3_6 : callOK 3 52 69 := Or.inl ⟨by decide, tb3 51 rfl rfl⟩
set_option maxRecDepth 20000 in
theorem ca_3_7 : callOK 3 55 74 := Or.inl ⟨by decide, tb3 52 rfl rfl⟩
set_option maxRecDepth 20000 in
theorem ca_3_8 : callOK 3 67 33 := Or.inl ⟨by decide, tb3 57 rfl rfl⟩
set_option maxRecDepth 20000 in
theorem ca_3_9 : callOK 3 71 34 := Or.inl ⟨by decide, tb3 60 rfl rfl⟩
set_option maxRecDepth 20000 in
theorem ca_3_10 : callOK 3 74 35 := Or.inl ⟨by decide, tb3 85 rfl rfl⟩
set_option maxRecDepth 20000 in
theorem ca_3_11 : callOK 3 78 38 := Or.inl ⟨by decide, tb3 86 rfl rfl⟩
set_option maxRecDepth 20000 in
theorem ca_3_12 : callOK 3 82 40 := Or.inl ⟨by decide, tb3 117 rfl rfl⟩
set_option maxRecDepth 20000 in
theorem ca_3_13 : callOK 3 86 39 := Or.inl ⟨by decide, tb3 113 rfl rfl⟩
set_option maxRecDepth 20000 in
theorem ca_3_14 : callOK 3 89 41 := Or.inl ⟨by decide, tb3 130 rfl rfl⟩
set_option maxRecDepth 20000 in
theorem ca_3 : ∀ e ∈ callsL.getD 3 [], callOK 3 e.1 e.2 := (List.forall_mem_cons.mpr ⟨ca_3_0, (List.forall_mem_cons.mpr ⟨ca_3_1, (List.forall_mem_cons.mpr ⟨ca_3_2, (List.forall_mem_cons.mpr ⟨ca_3_3, (List.forall_mem_cons.mpr ⟨ca_3_4, (List.forall_mem_cons.mpr ⟨ca_3_5, (List.forall_mem_cons.mpr ⟨ca_3_6, (List.forall_mem_cons.mpr ⟨ca_3_7, (List.forall_mem_cons.mpr ⟨ca_3_8, (List.forall_mem_cons.mpr ⟨ca_3_9, (List.forall_mem_cons.mpr ⟨ca_3_10, (List.forall_mem_cons.mpr ⟨ca_3_11, (List.forall_mem_cons.mpr ⟨ca_3_12, (List.forall_mem_cons.mpr ⟨ca_3_13, (List.forall_mem_cons.mpr ⟨ca_3_14, (fun _ h => absurd h List.not_mem_nil)⟩)⟩)⟩)⟩)⟩)⟩)⟩)⟩)⟩)⟩)⟩)⟩)⟩)⟩)⟩)
set_option maxRecDepth 20000 in
theorem ca_4_0 : callOK 4 1 1000 := Or.inr (Or.inr (Or.inl ⟨rfl, tb1 41 rfl rfl⟩))
set_option maxRecDepth 20000 in
theorem ca_4_1 : callOK 4 20 1002 := Or.inr (Or.inr (Or.inr (Or.inr (Or.inl ⟨rfl, tb2 88 rfl rfl⟩))))
set_option maxRecDepth 20000 in
theorem ca_4_2 : callOK 4 26 1001 := Or.inr (Or.inr (Or.inr (Or.inl ⟨rfl, tb2 91 rfl rfl⟩)))
set_option maxRecDepth 20000 in
theorem ca_4_3 : callOK 4 32 53 := Or.inl ⟨by decide, tb2 98 rfl rfl⟩
set_option maxRecDepth 20000 in
theorem ca_4_4 : callOK 4 45 50 := Or.inl ⟨by decide, tb2 101 rfl rfl⟩
set_option maxRecDepth 20000 in
theorem ca_4_5 : callOK 4 48 51 := Or.inl ⟨by decide, tb2 106 rfl rfl⟩
set_option maxRecDepth 20000 in
theorem ca_4_6 : callOK 4 51 52 := Or.inl ⟨by decide, tb2 105 rfl rfl⟩
set_option maxRecDepth 20000 in
theorem ca_4 : ∀ e ∈ callsL.getD 4 [], callOK 4 e.1 e.2 := (List.forall_mem_cons.mpr ⟨ca_4_0, (List.forall_mem_cons.mpr ⟨ca_4_1, (List.forall_mem_cons.mpr ⟨ca_4_2, (List.forall_mem_cons.mpr ⟨ca_4_3, (List.forall_mem_cons.mpr ⟨ca_4_4, (List.forall_mem_cons.mpr ⟨ca_4_5, (List.forall_mem_cons.mpr ⟨ca_4_6, (fun _ h => absurd h List.not_mem_nil)⟩)⟩)⟩)⟩)⟩)⟩)⟩)
set_option maxRecDepth 20000 in
theorem ca_5_0 : callOK 5 5 1000 := Or.inr (Or.inr (Or.inl ⟨rfl, tb1 74 rfl rfl⟩))
set_option maxRecDepth 20000 in
theorem ca_5_1 : callOK 5 18 220 := Or.inl ⟨by decide, tb2 81 rfl rfl⟩
set_option maxRecDepth 20000 in
theorem ca_5_2 : callOK 5 37 1003 := Or.inr (Or.inr (Or.inr (Or.inr (Or.inr ⟨rfl, tb3 199 rfl rfl⟩))))
set_option maxRecDepth 20000 in
theorem ca_5_3 : callOK 5 43 63 := Or.inl ⟨by decide, tb2 190 rfl rfl⟩
set_option maxRecDepth 20000 in
theorem ca_5_4 : callOK 5 47 64 := Or.inl ⟨by decide, tb2 194 rfl rfl⟩
set_option maxRecDepth 20000 in
theorem ca_5_5 : callOK 5 50 65 := Or.inl ⟨by decide, tb3 4 rfl rfl⟩
set_option maxRecDepth 20000 in
theorem ca_5_6 : callOK 5 53 66 := Or.inl ⟨by decide, tb3 29 rfl rfl⟩
set_option maxRecDepth 20000 in
theorem ca_5_7 : callOK 5 56 67 := Or.inl ⟨by decide, tb2 186 rfl rfl⟩
set_option maxRecDepth 20000 in
theorem ca_5_8 : callOK 5 60 76 := Or.inl ⟨by decide, tb2 227 rfl rfl⟩
set_option maxRecDepth 20000 in
theorem ca_5_9 : callOK 5 64 80 := Or.inl ⟨by decide, tb4 97 rfl rfl⟩
set_option maxRecDepth 20000 in
theorem ca_5_10 : callOK 5 68 83 := Or.inl ⟨by decide, tb2 232 rfl rfl⟩
set_option maxRecDepth 20000 in
theorem ca_5_11 : callOK 5 71 88 := Or.inl ⟨by decide, tb4 46 rfl rfl⟩
set_option maxRecDepth 20000 in
theorem ca_5_12 : callOK 5 74 86 := Or.inl ⟨by decide, tb4 50 rfl rfl⟩
set_option maxRecDepth 20000 in
theorem ca_5_13 : callOK 5 78 90 := Or.inl ⟨by decide, tb4 59 rfl rfl⟩
set_option maxRecDepth 20000 in
theorem ca_5_14 : callOK 5 81 71 := Or.inl ⟨by decide, tb4 63 rfl rfl⟩
set_option maxRecDepth 20000 in
theorem ca_5_15 : callOK 5 84 72 := Or.inl ⟨by decide, tb4 64 rfl rfl⟩
set_option maxRecDepth 20000 in
theorem ca_5 : ∀ e ∈ callsL.getD 5 [], callOK 5 e.1 e.2 := (List.forall_mem_cons.mpr ⟨ca_5_0, (List.forall_mem_cons.mpr ⟨ca_5_1, (List.forall_mem_cons.mpr ⟨ca_5_2, (List.forall_mem_cons.mpr ⟨ca_5_3, (List.forall_mem_cons.mpr ⟨ca_5_4, (List.forall_mem_cons.mpr ⟨ca_5_5, (List.forall_mem_cons.mpr ⟨ca_5_6, (List.forall_mem_cons.mpr ⟨ca_5_7, (List.forall_mem_cons.mpr ⟨ca_5_8, (List.forall_mem_cons.mpr ⟨ca_5_9, (List.forall_mem_cons.mpr ⟨ca_5_10, (List.forall_mem_cons.mpr ⟨ca_5_11, (List.forall_mem_cons.mpr ⟨ca_5_12, (List.forall_mem_cons.mpr ⟨ca_5_13, (List.forall_mem_cons.mpr ⟨ca_5_14, (List.forall_mem_cons.mpr ⟨ca_5_15, (fun _ h => absurd h List.not_mem_nil)⟩)⟩)⟩)⟩)⟩)⟩)⟩)⟩)⟩)⟩)⟩)⟩)⟩)⟩)⟩)⟩)
set_option maxRecDepth 20000 in
theorem ca_6_0 : callOK 6 3 1000 := Or.inr (Or.inr (Or.inl ⟨rfl, tb1 27 rfl rfl⟩))
set_option maxRecDepth 20000 in
theorem ca_6_1 : callOK 6 11 13 := Or.inl ⟨by decide, tb1 32 rfl rfl⟩
set_option maxRecDepth 20000 in
theorem ca_6_2 : callOK 6 23 31 := Or.inr (Or.inl ⟨by decide, by decide, List.mem_of_getElem? (i := 2) rfl⟩)
set_option maxRecDepth 20000 in
theorem ca_6_3 : callOK 6 30 0 := Or.inr (Or.inl ⟨by decide, by decide, List.mem_of_getElem? (i := 3) rfl⟩)
set_option maxRecDepth 20000 in
theorem ca_6_4 : callOK 6 37 7 := Or.inr (Or.inl ⟨by decide, by decide, List.mem_of_getElem? (i := 6) rfl⟩)
set_option maxRecDepth 20000 in
theorem ca_6_5 : callOK 6 44 54 := Or.inr (Or.inl ⟨by decide, by decide, List.mem_of_getElem? (i := 7) rfl⟩)
set_option maxRecDepth 20000 in
theorem ca_6_6 : callOK 6 49 46 := Or.inl ⟨by decide, tb2 61 rfl rfl⟩
set_option maxRecDepth 20000 in
theorem ca_6_7 : callOK 6 55 47 := Or.inl ⟨by decide, tb2 65 rfl rfl⟩
set_option maxRecDepth 20000 in
theorem ca_6_8 : callOK 6 63 15 := Or.inl ⟨by decide, tb2 73 rfl rfl⟩
set_option maxRecDepth 20000 in
theorem ca_6_9 : callOK 6 70 8 := Or.inl ⟨by decide, tb2 210 rfl rfl⟩
set_option maxRecDepth 20000 in
theorem ca_6_10 : callOK 6 73 63 := Or.inl ⟨by decide, tb2 218 rfl rfl⟩
set_option maxRecDepth 20000 in
theorem ca_6_11 : callOK 6 76 69 := Or.inl ⟨by decide, tb2 219 rfl rfl⟩
set_option maxRecDepth 20000 in
theorem ca_6_12 : callOK 6 79 80 := Or.inl ⟨by decide, tb2 223 rfl rfl⟩
set_option maxRecDepth 20000 in
theorem ca_6_13 : callOK 6 82 82 := Or.inl ⟨by decide, tb2 228 rfl rfl⟩
set_option maxRecDepth 20000 in
theorem ca_6_14 : callOK 6 85 71 := Or.inl ⟨by decide, tb3 0 rfl rfl⟩
set_option maxRecDepth 20000 in
theorem ca_6_15 : callOK 6 88 67 := Or.inl ⟨by decide, tb3 37 rfl rfl⟩
set_option maxRecDepth 20000 in
theorem ca_6_16 : callOK 6 99 83 := Or.inl ⟨by decide, tb3 20 rfl rfl⟩
set_option maxRecDepth 20000 in
theorem ca_6_17 : callOK 6 102 76 := Or.inl ⟨by decide, tb4 175 rfl rfl⟩
set_option maxRecDepth 20000 in
theorem ca_6_18 : callOK 6 106 78 := Or.inl ⟨by decide, tb4 176 rfl rfl⟩
set_option maxRecDepth 20000 in
theorem ca_6_19 : callOK 6 109 79 := Or.inl ⟨by decide, tb4 177 rfl rfl⟩
set_option maxRecDepth 20000 in
theorem ca_6_20 : callOK 6 112 74 := Or.inl ⟨by decide, tb3 12 rfl rfl⟩
set_option maxRecDepth 20000 in
theorem ca_6_21 : callOK 6 115 73 := Or.inl ⟨by decide, tb3 25 rfl rfl⟩
set_option maxRecDepth 20000 in
theorem ca_6_22 : callOK 6 118 32 := Or.inl ⟨by decide, tb3 38 rfl rfl⟩
set_option maxRecDepth 20000 in
theorem ca_6_23 : callOK 6 122 35 := Or.inl ⟨by decide, tb3 53 rfl rfl⟩
set_option maxRecDepth 20000 in
theorem ca_6_24 : callOK 6 126 36 := Or.inl ⟨by decide, tb3 64 rfl rfl⟩
set_option maxRecDepth 20000 in
theorem ca_6_25 : callOK 6 135 64 := Or.inl ⟨by decide, tb3 76 rfl rfl⟩
set_option maxRecDepth 20000 in
theorem ca_6_26 : callOK 6 141 37 := Or.inl ⟨by decide, tb3 81 rfl rfl⟩
set_option maxRecDepth 20000 in
theorem ca_6_27 : callOK 6 145 219 := Or.inl ⟨by decide, tb3 90 rfl rfl⟩
set_option maxRecDepth 20000 in
theorem ca_6_28 : callOK 6 151 104 := Or.inl ⟨by decide, tb3 96 rfl rfl⟩
set_option maxRecDepth 20000 in
theorem ca_6_29 : callOK 6 155 107 := Or.inl ⟨by decide, tb3 103 rfl rfl⟩
set_option maxRecDepth 20000 in
theorem ca_6_30 : callOK 6 158 41 := Or.inl ⟨by decide, tb3 109 rfl rfl⟩
set_option maxRecDepth 20000 in
theorem ca_6_31 : callOK 6 161 39 := Or.inl ⟨by decide, tb3 121 rfl rfl⟩
set_option maxRecDepth 20000 in
theorem ca_6_32 : callOK 6 164 42 := Or.inl ⟨by decide, tb3 126 rfl rfl⟩
set_option maxRecDepth 20000 in
theorem ca_6_33 : callOK 6 167 108 := Or.inl ⟨by decide, tb3 106 rfl rfl⟩
set_option maxRecDepth 20000 in
theorem ca_6_34 : callOK 6 170 43 := Or.inl ⟨by decide, tb3 139 rfl rfl⟩
set_option maxRecDepth 20000 in
theorem ca_6_35 : callOK 6 173 112 := Or.inl ⟨by decide, tb3 143 rfl rfl⟩
set_option maxRecDepth 20000 in
theorem ca_6_36 : callOK 6 182 66 := Or.inl ⟨by decide, tb3 159 rfl rfl⟩
set_option maxRecDepth 20000 in
theorem ca_6_37 : callOK 6 185 1 := Or.inl ⟨by decide, tb3 160 rfl rfl⟩
set_option maxRecDepth 20000 in
theorem ca_6_38 : callOK 6 191 68 := Or.inl ⟨by decide, tb3 182 rfl rfl⟩
set_option maxRecDepth 20000 in
theorem ca_6_39 : callOK 6 195 3 := Or.inl ⟨by decide, tb3 187 rfl rfl⟩
set_option maxRecDepth 20000 in
theorem ca_6_40 : callOK 6 199 2 := Or.inl ⟨by decide, tb3 218 rfl rfl⟩
set_option maxRecDepth 20000 in
theorem ca_6_41 : callOK 6 203 4 := Or.inl ⟨by decide, tb3 222 rfl rfl⟩
set_option maxRecDepth 20000 in
theorem ca_6_42 : callOK 6 207 5 := Or.inl ⟨by decide, tb3 223 rfl rfl⟩
set_option maxRecDepth 20000 in
theorem ca_6_43 : callOK 6 210 6 := Or.inl ⟨by decide, tb3 228 rfl rfl⟩
set_option maxRecDepth 20000 in
theorem ca_6_44 : callOK 6 213 65 := Or.inl ⟨by decide, tb3 237 rfl rfl⟩
set_option maxRecDepth 20000 in
theorem ca_6_45 : callOK 6 216 9 := Or.inl ⟨by decide, tb3 238 rfl rfl⟩
set_option maxRecDepth 20000 in
theorem ca_6_46 : callOK 6 219 72 := Or.inl ⟨by decide, tb4 7 rfl rfl⟩
set_option maxRecDepth 20000 in
theorem ca_6_47 : callOK 6 223 70 := Or.inl ⟨by decide, tb4 12 rfl rfl⟩
set_option maxRecDepth 20000 in
theorem ca_6_48 : callOK 6 226 77 := Or.inl ⟨by decide, tb4 20 rfl rfl⟩
set_option maxRecDepth 20000 in
theorem ca_6_49 : callOK 6 230 75 := Or.inl ⟨by decide, tb4 25 rfl rfl⟩
set_option maxRecDepth 20000 in
theorem ca_6_50 : callOK 6 234 86 := Or.inl ⟨by decide, tb4 30 rfl rfl⟩
set_option maxRecDepth 20000 in
theorem ca_6_51 : callOK 6 237 84 := Or.inl ⟨by decide, tb4 34 rfl rfl⟩
set_option maxRecDepth 20000 in
theorem ca_6_52 : callOK 6 240 87 := Or.inl ⟨by decide, tb4 42 rfl rfl⟩
set_option maxRecDepth 20000 in
theorem ca_6_53 : callOK 6 243 89 := Or.inl ⟨by decide, tb4 55 rfl rfl⟩
set_option maxRecDepth 20000 in
theorem ca_6_54 : callOK 6 246 10 := Or.inl ⟨by decide, tb4 69 rfl rfl⟩
set_option maxRecDepth 20000 in
theorem ca_6_55 : callOK 6 253 12 := Or.inl ⟨by decide, tb4 81 rfl rfl⟩
set_option maxRecDepth 20000 in
theorem ca_6_56 : callOK 6 256 11 := Or.inl ⟨by decide, tb4 85 rfl rfl⟩
set_option maxRecDepth 20000 in
theorem ca_6_57 : callOK 6 262 81 := Or.inl ⟨by decide, tb4 93 rfl rfl⟩
set_option maxRecDepth 20000 in
theorem ca_6_58 : callOK 6 265 85 := Or.inl ⟨by decide, tb4 98 rfl rfl⟩
set_option maxRecDepth 20000 in
theorem ca_6 : ∀ e ∈ callsL.getD 6 [], callOK 6 e.1 e.2 := (List.forall_mem_cons.mpr ⟨ca_6_0, (List.forall_mem_cons.mpr ⟨ca_6_1, (List.forall_mem_cons.mpr ⟨ca_6_2, (List.forall_mem_cons.mpr ⟨ca_6_3, (List.forall_mem_cons.mpr ⟨ca_6_4, (List.forall_mem_cons.mpr ⟨ca_6_5, (List.forall_mem_cons.mpr ⟨ca_6_6, (List.forall_mem_cons.mpr ⟨ca_6_7, (List.forall_mem_cons.mpr ⟨ca_6_8, (List.forall_mem_cons.mpr ⟨ca_6_9, (List.forall_mem_cons.mpr ⟨ca_6_10, (List.forall_mem_cons.mpr ⟨ca_6_11, (List.forall_mem_cons.mpr ⟨ca_6_12, (List.forall_mem_cons.mpr ⟨ca_6_13, (List.forall_mem_cons.mpr ⟨ca_6_14, (List.forall_mem_cons.mpr ⟨ca_6_15, (List.forall_mem_cons.mpr ⟨ca_6_16, (List.forall_mem_cons.mpr ⟨ca_6_17, (List.forall_mem_cons.mpr ⟨ca_6_18, (List.forall_mem_cons.mpr ⟨ca_6_19, (List.forall_mem_cons.mpr ⟨ca_6_20, (List.forall_mem_cons.mpr ⟨ca_6_21, (List.forall_mem_cons.mpr ⟨ca_6_22, (List.forall_mem_cons.mpr ⟨ca_6_23, (List.forall_mem_cons.mpr ⟨ca_6_24, (List.forall_mem_cons.mpr ⟨ca_6_25, (List.forall_mem_cons.mpr ⟨ca_6_26, (List.forall_mem_cons.mpr ⟨ca_6_27, (List.forall_mem_cons.mpr ⟨ca_6_28, (List.forall_mem_cons.mpr ⟨ca_6_29, (List.forall_mem_cons.mpr ⟨ca_6_30, (List.forall_mem_cons.mpr ⟨ca_6_31, (List.forall_mem_cons.mpr ⟨ca_6_32, (List.forall_mem_cons.mpr ⟨ca_6_33, (List.forall_mem_cons.mpr ⟨ca_6_34, (List.forall_mem_cons.mpr ⟨ca_6_35, (List.forall_mem_cons.mpr ⟨ca_6_36, (List.forall_mem_cons.mpr ⟨ca_6_37, (List.forall_mem_cons.mpr ⟨ca_6_38, (List.forall_mem_cons.mpr ⟨ca_6_39, (List.forall_mem_cons.mpr ⟨ca_6_40, (List.forall_mem_cons.mpr ⟨ca_6_41, (List.forall_mem_cons.mpr ⟨ca_6_42, (List.forall_mem_cons.mpr ⟨ca_6_43, (List.forall_mem_cons.mpr ⟨ca_6_44, (List.forall_mem_cons.mpr ⟨ca_6_45, (List.forall_mem_cons.mpr ⟨ca_6_46, (List.forall_mem_cons.mpr ⟨ca_6_47, (List.forall_mem_cons.mpr ⟨ca_6_48, (List.forall_mem_cons.mpr ⟨ca_6_49, (List.forall_mem_cons.mpr ⟨ca_6_50, (List.forall_mem_cons.mpr ⟨ca_6_51, (List.forall_mem_cons.mpr ⟨ca_6_52, (List.forall_mem_cons.mpr ⟨ca_6_53, (List.forall_mem_cons.mpr ⟨ca_6_54, (List.forall_mem_cons.mpr ⟨ca_6_55, (List.forall_mem_cons.mpr ⟨ca_6_56, (List.forall_mem_cons.mpr ⟨ca_6_57, (List.forall_mem_cons.mpr ⟨ca_6_58, (fun _ h => absurd h List.not_mem_nil)⟩)⟩)⟩)⟩)⟩)⟩)⟩)⟩)⟩)⟩)⟩)⟩)⟩)⟩)⟩)⟩)⟩)⟩)⟩)⟩)⟩)⟩)⟩)⟩)⟩)⟩)⟩)⟩)⟩)⟩)⟩)⟩)⟩)⟩)⟩)⟩)⟩)⟩)⟩)⟩)⟩)⟩)⟩)⟩)⟩)⟩)⟩)⟩)⟩)⟩)⟩)⟩)⟩)⟩)⟩)⟩)⟩)⟩)⟩)
set_option maxRecDepth 20000 in
theorem ca_7_0 : callOK 7 1 1000 := Or.inr (Or.inr (Or.inl ⟨rfl, tb4 183 rfl rfl⟩))
set_option maxRecDepth 20000 in
theorem ca_7_1 : callOK 7 53 132 := Or.inl ⟨by decide, tb5 42 rfl rfl⟩
set_option maxRecDepth 20000 in
theorem ca_7_2 : callOK 7 66 134 := Or.inl ⟨by decide, tb5 61 rfl rfl⟩
set_option maxRecDepth 20000 in
theorem ca_7_3 : callOK 7 84 131 := Or.inl ⟨by decide, tb5 50 rfl rfl⟩
set_option maxRecDepth 20000 in
theorem ca_7_4 : callOK 7 110 137 := Or.inl ⟨by decide, tb5 79 rfl rfl⟩
set_option maxRecDepth 20000 in
theorem ca_7_5 : callOK 7 116 138 := Or.inl ⟨by decide, tb5 75 rfl rfl⟩
set_option maxRecDepth 20000 in
theorem ca_7_6 : callOK 7 134 136 := Or.inl ⟨by decide, tb5 89 rfl rfl⟩
set_option maxRecDepth 20000 in
theorem ca_7_7 : callOK 7 141 135 := Or.inl ⟨by decide, tb5 57 rfl rfl⟩
set_option maxRecDepth 20000 in
theorem ca_7_8 : callOK 7 147 141 := Or.inl ⟨by decide, tb5 93 rfl rfl⟩
set_option maxRecDepth 20000 in
theorem ca_7_9 : callOK 7 150 142 := Or.inl ⟨by decide, tb5 115 rfl rfl⟩
set_option maxRecDepth 20000 in
theorem ca_7_10 : callOK 7 153 139 := Or.inl ⟨by decide, tb5 105 rfl rfl⟩
set_option maxRecDepth 20000 in
theorem ca_7_11 : callOK 7 157 143 := Or.inl ⟨by decide, tb5 111 rfl rfl⟩
set_option maxRecDepth 20000 in
theorem ca_7_12 : callOK 7 166 144 := Or.inl ⟨by decide, tb5 101 rfl rfl⟩
set_option maxRecDepth 20000 in
theorem ca_7_13 : callOK 7 169 140 := Or.inl ⟨by decide, tb5 119 rfl rfl⟩
set_option maxRecDepth 20000 in
theorem ca_7_14 : callOK 7 173 145 := Or.inl ⟨by decide, tb5 123 rfl rfl⟩
set_option maxRecDepth 20000 in
theorem ca_7_15 : callOK 7 177 146 := Or.inl ⟨by decide, tb5 135 rfl rfl⟩
set_option maxRecDepth 20000 in
theorem ca_7_16 : callOK 7 181 147 := Or.inl ⟨by decide, tb5 97 rfl rfl⟩
set_option maxRecDepth 20000 in
theorem ca_7_17 : callOK 7 184 148 := Or.inl ⟨by decide, tb5 127 rfl rfl⟩
set_option maxRecDepth 20000 in
theorem ca_7_18 : callOK 7 187 149 := Or.inl ⟨by decide, tb5 131 rfl rfl⟩
set_option maxRecDepth 20000 in
theorem ca_7_19 : callOK 7 190 152 := Or.inl ⟨by decide, tb5 139 rfl rfl⟩
set_option maxRecDepth 20000 in
theorem ca_7_20 : callOK 7 193 150 := Or.inl ⟨by decide, tb5 143 rfl rfl⟩
set_option maxRecDepth 20000 in
theorem ca_7_21 : callOK 7 196 151 := Or.inl ⟨by decide, tb5 147 rfl rfl⟩
set_option maxRecDepth 20000 in
theorem ca_7_22 : callOK 7 199 154 := Or.inl ⟨by decide, tb5 53 rfl rfl⟩
set_option maxRecDepth 20000 in
theorem ca_7_23 : callOK 7 202 153 := Or.inl ⟨by decide, tb5 70 rfl rfl⟩
set_option maxRecDepth 20000 in
theorem ca_7_24 : callOK 7 208 160 := Or.inl ⟨by decide, tb5 167 rfl rfl⟩
set_option maxRecDepth 20000 in
theorem ca_7_25 : callOK 7 212 156 := Or.inl ⟨by decide, tb5 155 rfl rfl⟩
set_option maxRecDepth 20000 in
theorem ca_7_26 : callOK 7 215 161 := Or.inl ⟨by decide, tb5 159 rfl rfl⟩
set_option maxRecDepth 20000 in
theorem ca_7_27 : callOK 7 218 162 := Or.inl ⟨by decide, tb5 163 rfl rfl⟩
set_option maxRecDepth 20000 in
theorem ca_7_28 : callOK 7 221 158 := Or.inl ⟨by decide, tb5 175 rfl rfl⟩
set_option maxRecDepth 20000 in
theorem ca_7_29 : callOK 7 224 157 := Or.inl ⟨by decide, tb5 183 rfl rfl⟩
set_option maxRecDepth 20000 in
theorem ca_7_30 : callOK 7 229 165 := Or.inl ⟨by decide, tb5 188 rfl rfl⟩
set_option maxRecDepth 20000 in
theorem ca_7_31 : callOK 7 232 159 := Or.inl ⟨by decide, tb5 204 rfl rfl⟩
set_option maxRecDepth 20000 in
theorem ca_7_32 : callOK 7 241 172 := Or.inl ⟨by decide, tb5 216 rfl rfl⟩
set_option maxRecDepth 20000 in
theorem ca_7_33 : callOK 7 247 166 := Or.inl ⟨by decide, tb5 220 rfl rfl⟩
set_option maxRecDepth 20000 in
theorem ca_7_34 : callOK 7 250 171 := Or.inl ⟨by decide, tb5 224 rfl rfl⟩
set_option maxRecDepth 20000 in
theorem ca_7_35 : callOK 7 253 173 := Or.inl ⟨by decide, tb5 212 rfl rfl⟩
set_option maxRecDepth 20000 in
theorem ca_7_36 : callOK 7 257 177 := Or.inl ⟨by decide, tb6 0 rfl rfl⟩
set_option maxRecDepth 20000 in
theorem ca_7_37 : callOK 7 260 179 := Or.inl ⟨by decide, tb6 18 rfl rfl⟩
set_option maxRecDepth 20000 in
theorem ca_7_38 : callOK 7 264 180 := Or.inl ⟨by decide, tb6 14 rfl rfl⟩
set_option maxRecDepth 20000 in
theorem ca_7_39 : callOK 7 267 181 := Or.inl ⟨by decide, tb6 34 rfl rfl⟩
set_option maxRecDepth 20000 in
theorem ca_7_40 : callOK 7 274 183 := Or.inl ⟨by decide, tb6 8 rfl rfl⟩
set_option maxRecDepth 20000 in
theorem ca_7_41 : callOK 7 278 182 := Or.inl ⟨by decide, tb6 42 rfl rfl⟩
set_option maxRecDepth 20000 in
theorem ca_7_42 : callOK 7 283 190 := Or.inl ⟨by decide, tb6 55 rfl rfl⟩
set_option maxRecDepth 20000 in
theorem ca_7_43 : callOK 7 286 191 := Or.inl ⟨by decide, tb6 63 rfl rfl⟩
set_option maxRecDepth 20000 in
theorem ca_7_44 : callOK 7 289 192 := Or.inl ⟨by decide, tb6 71 rfl rfl⟩
set_option maxRecDepth 20000 in
theorem ca_7_45 : callOK 7 292 193 := Or.inl ⟨by decide, tb6 79 rfl rfl⟩
set_option maxRecDepth 20000 in
theorem ca_7_46 : callOK 7 295 198 := Or.inl ⟨by decide, tb6 86 rfl rfl⟩
set_option maxRecDepth 20000 in
theorem ca_7_47 : callOK 7 298 200 := Or.inl ⟨by decide, tb6 98 rfl rfl⟩
set_option maxRecDepth 20000 in
theorem ca_7_48 : callOK 7 301 201 := Or.inl ⟨by decide, tb6 94 rfl rfl⟩
set_option maxRecDepth 20000 in
theorem ca_7_49 : callOK 7 304 206 := Or.inl ⟨by decide, tb6 118 rfl rfl⟩
set_option maxRecDepth 20000 in
theorem ca_7_50 : callOK 7 307 209 := Or.inl ⟨by decide, tb6 130 rfl rfl⟩
set_option maxRecDepth 20000 in
theorem ca_7_51 : callOK 7 310 213 := Or.inl ⟨by decide, tb6 146 rfl rfl⟩
set_option maxRecDepth 20000 in
theorem ca_7_52 : callOK 7 313 214 := Or.inl ⟨by decide, tb6 150 rfl rfl⟩
set_option maxRecDepth 20000 in
theorem ca_7 : ∀ e ∈ callsL.getD 7 [], callOK 7 e.1 e.2 := (List.forall_mem_cons.mpr ⟨ca_7_0, (List.forall_mem_cons.mpr ⟨ca_7_1, (List.forall_mem_cons.mpr ⟨ca_7_2, (List.forall_mem_cons.mpr ⟨ca_7_3, (List.forall_mem_cons.mpr ⟨ca_7_4, (List.forall_mem_cons.mpr ⟨ca_7_5, (List.forall_mem_cons.mpr ⟨ca_7_6, (List.forall_mem_cons.mpr ⟨ca_7_7, (List.forall_mem_cons.mpr ⟨ca_7_8, (List.forall_mem_cons.mpr ⟨ca_7_9, (List.forall_mem_cons.mpr ⟨ca_7_10, (List.forall_mem_cons.mpr ⟨ca_7_11, (List.forall_mem_cons.mpr ⟨ca_7_12, (List.forall_mem_cons.mpr ⟨ca_7_13, (List.forall_mem_cons.mpr ⟨ca_7_14, (List.forall_mem_cons.mpr ⟨ca_7_15, (List.forall_mem_cons.mpr ⟨ca_7_16, (List.forall_mem_cons.mpr ⟨ca_7_17, (List.forall_mem_cons.mpr ⟨ca_7_18, (List.forall_mem_cons.mpr ⟨ca_7_19, (List.forall_mem_cons.mpr ⟨ca_7_20, (List.forall_mem_cons.mpr ⟨ca_7_21, (List.forall_mem_cons.mpr ⟨ca_7_22, (List.forall_mem_cons.mpr ⟨ca_7_23, (List.forall_mem_cons.mpr ⟨ca_7_24, (List.forall_mem_cons.mpr ⟨ca_7_25, (List.forall_mem_cons.mpr ⟨ca_7_26, (List.forall_mem_cons.mpr ⟨ca_7_27, (List.forall_mem_cons.mpr ⟨ca_7_28, (List.forall_mem_cons.mpr ⟨ca_7_29, (List.forall_mem_cons.mpr ⟨ca_7_30, (List.forall_mem_cons.mpr ⟨ca_7_31, (List.forall_mem_cons.mpr ⟨ca_7_32, (List.forall_mem_cons.mpr ⟨ca_7_33, (List.forall_mem_cons.mpr ⟨ca_7_34, (List.forall_mem_cons.mpr ⟨ca_7_35, (List.forall_mem_cons.mpr ⟨ca_7_36, (List.forall_mem_cons.mpr ⟨ca_7_37, (List.forall_mem_cons.mpr ⟨ca_7_38, (List.forall_mem_cons.mpr ⟨ca_7_39, (List.forall_mem_cons.mpr ⟨ca_7_40, (List.forall_mem_cons.mpr ⟨ca_7_41, (List.forall_mem_cons.mpr ⟨ca_7_42, (List.forall_mem_cons.mpr ⟨ca_7_43, (List.forall_mem_cons.mpr ⟨ca_7_44, (List.forall_mem_cons.mpr ⟨ca_7_45, (List.forall_mem_cons.mpr ⟨ca_7_46, (List.forall_mem_cons.mpr ⟨ca_7_47, (List.forall_mem_cons.mpr ⟨ca_7_48, (List.forall_mem_cons.mpr ⟨ca_7_49, (List.forall_mem_cons.mpr ⟨ca_7_50, (List.forall_mem_cons.mpr ⟨ca_7_51, (List.forall_mem_cons.mpr ⟨ca_7_52, (fun _ h => absurd h List.not_mem_nil)⟩)⟩)⟩)⟩)⟩)⟩)⟩)⟩)⟩)⟩)⟩)⟩)⟩)⟩)⟩)⟩)⟩)⟩)⟩)⟩)⟩)⟩)⟩)⟩)⟩)⟩)⟩)⟩)⟩)⟩)⟩)⟩)⟩)⟩)⟩)⟩)⟩)⟩)⟩)⟩)⟩)⟩)⟩)⟩)⟩)⟩)⟩)⟩)⟩)⟩)⟩)⟩)⟩)
set_option maxRecDepth 20000 in
theorem ca_8_0 : callOK 8 7 96 := Or.inl ⟨by decide, tb4 106 rfl rfl⟩
set_option maxRecDepth 20000 in
theorem ca_8_1 : callOK 8 15 91 := Or.inl ⟨by decide, tb1 24 rfl rfl⟩
set_option maxRecDepth 20000 in
theorem ca_8_2 : callOK 8 18 129 := Or.inl ⟨by decide, tb4 180 rfl rfl⟩
set_option maxRecDepth 20000 in
theorem ca_8_3 : callOK 8 19 92 := Or.inl ⟨by decide, tb2 57 rfl rfl⟩
set_option maxRecDepth 20000 in
theorem ca_8_4 : callOK 8 23 133 := Or.inl ⟨by decide, tb5 38 rfl rfl⟩
set_option maxRecDepth 20000 in
theorem ca_8_5 : callOK 8 24 93 := Or.inl ⟨by decide, tb2 69 rfl rfl⟩
set_option maxRecDepth 20000 in
theorem ca_8_6 : callOK 8 28 155 := Or.inl ⟨by decide, tb5 46 rfl rfl⟩
set_option maxRecDepth 20000 in
theorem ca_8_7 : callOK 8 29 94 := Or.inl ⟨by decide, tb2 214 rfl rfl⟩
set_option maxRecDepth 20000 in
theorem ca_8_8 : callOK 8 33 163 := Or.inl ⟨by decide, tb5 151 rfl rfl⟩
set_option maxRecDepth 20000 in
theorem ca_8_9 : callOK 8 34 95 := Or.inl ⟨by decide, tb2 236 rfl rfl⟩
set_option maxRecDepth 20000 in
theorem ca_8_10 : callOK 8 37 164 := Or.inl ⟨by decide, tb5 171 rfl rfl⟩
set_option maxRecDepth 20000 in
theorem ca_8_11 : callOK 8 38 216 := Or.inl ⟨by decide, tb4 102 rfl rfl⟩
set_option maxRecDepth 20000 in
theorem ca_8_12 : callOK 8 43 167 := Or.inl ⟨by decide, tb5 179 rfl rfl⟩
set_option maxRecDepth 20000 in
theorem ca_8_13 : callOK 8 44 130 := Or.inl ⟨by decide, tb5 34 rfl rfl⟩
set_option maxRecDepth 20000 in
theorem ca_8_14 : callOK 8 48 97 := Or.inl ⟨by decide, tb3 8 rfl rfl⟩
set_option maxRecDepth 20000 in
theorem ca_8_15 : callOK 8 51 168 := Or.inl ⟨by decide, tb5 192 rfl rfl⟩
set_option maxRecDepth 20000 in
theorem ca_8_16 : callOK 8 52 98 := Or.inl ⟨by decide, tb3 16 rfl rfl⟩
set_option maxRecDepth 20000 in
theorem ca_8_17 : callOK 8 55 169 := Or.inl ⟨by decide, tb5 196 rfl rfl⟩
set_option maxRecDepth 20000 in
theorem ca_8_18 : callOK 8 56 99 := Or.inl ⟨by decide, tb3 21 rfl rfl⟩
set_option maxRecDepth 20000 in
theorem ca_8_19 : callOK 8 59 170 := Or.inl ⟨by decide, tb5 200 rfl rfl⟩
set_option maxRecDepth 20000 in
theorem ca_8_20 : callOK 8 60 100 := Or.inl ⟨by decide, tb3 33 rfl rfl⟩
set_option maxRecDepth 20000 in
theorem ca_8_21 : callOK 8 63 174 := Or.inl ⟨by decide, tb5 208 rfl rfl⟩
set_option maxRecDepth 20000 in
theorem ca_8_22 : callOK 8 64 101 := Or.inl ⟨by decide, tb3 68 rfl rfl⟩
set_option maxRecDepth 20000 in
theorem ca_8_23 : callOK 8 67 175 := Or.inl ⟨by decide, tb5 228 rfl rfl⟩
set_option maxRecDepth 20000 in
theorem ca_8_24 : callOK 8 68 102 := Or.inl ⟨by decide, tb3 72 rfl rfl⟩
set_option maxRecDepth 20000 in
theorem ca_8_25 : callOK 8 71 176 := Or.inl ⟨by decide, tb5 232 rfl rfl⟩
set_option maxRecDepth 20000 in
theorem ca_8_26 : callOK 8 72 103 := Or.inl ⟨by decide, tb3 77 rfl rfl⟩
set_option maxRecDepth 20000 in
theorem ca_8_27 : callOK 8 75 178 := Or.inl ⟨by decide, tb5 236 rfl rfl⟩
set_option maxRecDepth 20000 in
theorem ca_8_28 : callOK 8 76 105 := Or.inl ⟨by decide, tb3 99 rfl rfl⟩
set_option maxRecDepth 20000 in
theorem ca_8_29 : callOK 8 79 184 := Or.inl ⟨by decide, tb6 4 rfl rfl⟩
set_option maxRecDepth 20000 in
theorem ca_8_30 : callOK 8 80 106 := Or.inl ⟨by decide, tb3 122 rfl rfl⟩
set_option maxRecDepth 20000 in
theorem ca_8_31 : callOK 8 83 185 := Or.inl ⟨by decide, tb6 22 rfl rfl⟩
set_option maxRecDepth 20000 in
theorem ca_8_32 : callOK 8 84 109 := Or.inl ⟨by decide, tb3 131 rfl rfl⟩
set_option maxRecDepth 20000 in
theorem ca_8_33 : callOK 8 87 186 := Or.inl ⟨by decide, tb6 26 rfl rfl⟩
set_option maxRecDepth 20000 in
theorem ca_8_34 : callOK 8 88 110 := Or.inl ⟨by decide, tb3 135 rfl rfl⟩
set_option maxRecDepth 20000 in
theorem ca_8_35 : callOK 8 91 187 := Or.inl ⟨by decide, tb6 30 rfl rfl⟩
set_option maxRecDepth 20000 in
theorem ca_8_36 : callOK 8 92 111 := Or.inl ⟨by decide, tb3 146 rfl rfl⟩
set_option maxRecDepth 20000 in
theorem ca_8_37 : callOK 8 95 188 := Or.inl ⟨by decide, tb6 38 rfl rfl⟩
set_option maxRecDepth 20000 in
theorem ca_8_38 : callOK 8 96 113 := Or.inl ⟨by decide, tb3 150 rfl rfl⟩
set_option maxRecDepth 20000 in
theorem ca_8_39 : callOK 8 100 189 := Or.inl ⟨by decide, tb6 46 rfl rfl⟩
set_option maxRecDepth 20000 in
theorem ca_8_40 : callOK 8 101 114 := Or.inl ⟨by decide, tb3 155 rfl rfl⟩
set_option maxRecDepth 20000 in
theorem ca_8_41 : callOK 8 104 194 := Or.inl ⟨by decide, tb6 51 rfl rfl⟩
set_option maxRecDepth 20000 in
theorem ca_8_42 : callOK 8 105 115 := Or.inl ⟨by decide, tb3 174 rfl rfl⟩
set_option maxRecDepth 20000 in
theorem ca_8_43 : callOK 8 108 195 := Or.inl ⟨by decide, tb6 59 rfl rfl⟩
set_option maxRecDepth 20000 in
theorem ca_8_44 : callOK 8 109 116 := Or.inl ⟨by decide, tb3 178 rfl rfl⟩
set_option maxRecDepth 20000 in
theorem ca_8_45 : callOK 8 112 196 := Or.inl ⟨by decide, tb6 67 rfl rfl⟩
set_option maxRecDepth 20000 in
theorem ca_8_46 : callOK 8 113 117 := Or.inl ⟨by decide, tb3 183 rfl rfl⟩
set_option maxRecDepth 20000 in
theorem ca_8_47 : callOK 8 116 197 := Or.inl ⟨by decide, tb6 75 rfl rfl⟩
set_option maxRecDepth 20000 in
theorem ca_8_48 : callOK 8 117 118 := Or.inl ⟨by decide, tb3 214 rfl rfl⟩
set_option maxRecDepth 20000 in
theorem ca_8_49 : callOK 8 120 199 := Or.inl ⟨by decide, tb6 82 rfl rfl⟩
set_option maxRecDepth 20000 in
theorem ca_8_50 : callOK 8 121 119 := Or.inl ⟨by decide, tb3 233 rfl rfl⟩
set_option maxRecDepth 20000 in
theorem ca_8_51 : callOK 8 124 202 := Or.inl ⟨by decide, tb6 90 rfl rfl⟩
set_option maxRecDepth 20000 in
theorem ca_8_52 : callOK 8 125 120 := Or.inl ⟨by decide, tb4 8 rfl rfl⟩
set_option maxRecDepth 20000 in
theorem ca_8_53 : callOK 8 128 203 := Or.inl ⟨by decide, tb6 102 rfl rfl⟩
set_option maxRecDepth 20000 in
theorem ca_8_54 : callOK 8 129 121 := Or.inl ⟨by decide, tb4 16 rfl rfl⟩
set_option maxRecDepth 20000 in
theorem ca_8_55 : callOK 8 133 204 := Or.inl ⟨by decide, tb6 106 rfl rfl⟩
set_option maxRecDepth 20000 in
theorem ca_8_56 : callOK 8 134 122 := Or.inl ⟨by decide, tb4 21 rfl rfl⟩
set_option maxRecDepth 20000 in
theorem ca_8_57 : callOK 8 137 205 := Or.inl ⟨by decide, tb6 110 rfl rfl⟩
set_option maxRecDepth 20000 in
theorem ca_8_58 : callOK 8 138 123 := Or.inl ⟨by decide, tb4 26 rfl rfl⟩
set_option maxRecDepth 20000 in
theorem ca_8_59 : callOK 8 141 207 := Or.inl ⟨by decide, tb6 114 rfl rfl⟩
set_option maxRecDepth 20000 in
theorem ca_8_60 : callOK 8 142 124 := Or.inl ⟨by decide, tb4 38 rfl rfl⟩
set_option maxRecDepth 20000 in
theorem ca_8_61 : callOK 8 145 208 := Or.inl ⟨by decide, tb6 122 rfl rfl⟩
set_option maxRecDepth 20000 in
theorem ca_8_62 : callOK 8 146 125 := Or.inl ⟨by decide, tb4 51 rfl rfl⟩
set_option maxRecDepth 20000 in
theorem ca_8_63 : callOK 8 150 210 := Or.inl ⟨by decide, tb6 126 rfl rfl⟩
set_option maxRecDepth 20000 in
theorem ca_8_64 : callOK 8 151 126 := Or.inl ⟨by decide, tb4 65 rfl rfl⟩
set_option maxRecDepth 20000 in
theorem ca_8_65 : callOK 8 154 211 := Or.inl ⟨by decide, tb6 134 rfl rfl⟩
set_option maxRecDepth 20000 in
theorem ca_8_66 : callOK 8 155 127 := Or.inl ⟨by decide, tb4 77 rfl rfl⟩
set_option maxRecDepth 20000 in
theorem ca_8_67 : callOK 8 159 212 := Or.inl ⟨by decide, tb6 138 rfl rfl⟩
set_option maxRecDepth 20000 in
theorem ca_8_68 : callOK 8 160 128 := Or.inl ⟨by decide, tb4 89 rfl rfl⟩
set_option maxRecDepth 20000 in
theorem ca_8_69 : callOK 8 163 215 := Or.inl ⟨by decide, tb6 142 rfl rfl⟩
set_option maxRecDepth 20000 in
theorem ca_8 : ∀ e ∈ callsL.getD 8 [], callOK 8 e.1 e.2 := (List.forall_mem_cons.mpr ⟨ca_8_0, (List.forall_mem_cons.mpr ⟨ca_8_1, (List.forall_mem_cons.mpr ⟨ca_8_2, (List.forall_mem_cons.mpr ⟨ca_8_3, (List.forall_mem_cons.mpr ⟨ca_8_4, (List.forall_mem_cons.mpr ⟨ca_8_5, (List.forall_mem_cons.mpr ⟨ca_8_6, (List.forall_mem_cons.mpr ⟨ca_8_7, (List.forall_mem_cons.mpr ⟨ca_8_8, (List.forall_mem_cons.mpr ⟨ca_8_9, (List.forall_mem_cons.mpr ⟨ca_8_10, (List.forall_mem_cons.mpr ⟨ca_8_11, (List.forall_mem_cons.mpr ⟨ca_8_12, (List.forall_mem_cons.mpr ⟨ca_8_13, (List.forall_mem_cons.mpr ⟨ca_8_14, (List.forall_mem_cons.mpr ⟨ca_8_15, (List.forall_mem_cons.mpr ⟨ca_8_16, (List.forall_mem_cons.mpr ⟨ca_8_17, (List.forall_mem_cons.mpr ⟨ca_8_18, (List.forall_mem_cons.mpr ⟨ca_8_19, (List.forall_mem_cons.mpr ⟨ca_8_20, (List.forall_mem_cons.mpr ⟨ca_8_21, (List.forall_mem_cons.mpr ⟨ca_8_22, (List.forall_mem_cons.mpr ⟨ca_8_23, (List.forall_mem_cons.mpr ⟨ca_8_24, (List.forall_mem_cons.mpr ⟨ca_8_25, (List.forall_mem_cons.mpr ⟨ca_8_26, (List.forall_mem_cons.mpr ⟨ca_8_27, (List.forall_mem_cons.mpr ⟨ca_8_28, (List.forall_mem_cons.mpr ⟨ca_8_29, (List.forall_mem_cons.mpr ⟨ca_8_30, (List.forall_mem_cons.mpr ⟨ca_8_31, (List.forall_mem_cons.mpr ⟨ca_8_32, (List.forall_mem_cons.mpr ⟨ca_8_33, (List.forall_mem_cons.mpr ⟨ca_8_34, (List.forall_mem_cons.mpr ⟨ca_8_35, (List.forall_mem_cons.mpr ⟨ca_8_36, (List.forall_mem_cons.mpr ⟨ca_8_37, (List.forall_mem_cons.mpr ⟨ca_8_38, (List.forall_mem_cons.mpr ⟨ca_8_39, (List.forall_mem_cons.mpr ⟨ca_8_40, (List.forall_mem_cons.mpr ⟨ca_8_41, (List.forall_mem_cons.mpr ⟨ca_8_42, (List.forall_mem_cons.mpr ⟨ca_8_43, (List.forall_mem_cons.mpr ⟨ca_8_44, (List.forall_mem_cons.mpr ⟨ca_8_45, (List.forall_mem_cons.mpr ⟨ca_8_46, (List.forall_mem_cons.mpr ⟨ca_8_47, (List.forall_mem_cons.mpr ⟨ca_8_48, (List.forall_mem_cons.mpr ⟨ca_8_49, (List.forall_mem_cons.mpr ⟨ca_8_50, (List.forall_mem_cons.mpr ⟨ca_8_51, (List.forall_mem_cons.mpr ⟨ca_8_52, (List.forall_mem_cons.mpr ⟨ca_8_53, (List.forall_mem_cons.mpr ⟨ca_8_54, (List.forall_mem_cons.mpr ⟨ca_8_55, (List.forall_mem_cons.mpr ⟨ca_8_56, (List.forall_mem_cons.mpr ⟨ca_8_57, (List.forall_mem_cons.mpr ⟨ca_8_58, (List.forall_mem_cons.mpr ⟨ca_8_59, (List.forall_mem_cons.mpr ⟨ca_8_60, (List.forall_mem_cons.mpr ⟨ca_8_61, (List.forall_mem_cons.mpr ⟨ca_8_62, (List.forall_mem_cons.mpr ⟨ca_8_63, (List.forall_mem_cons.mpr ⟨ca_8_64, (List.forall_mem_cons.mpr ⟨ca_8_65, (List.forall_mem_cons.mpr ⟨ca_8_66, (List.forall_mem_cons.mpr ⟨ca_8_67, (List.forall_mem_cons.mpr ⟨ca_8_68, (List.forall_mem_cons.mpr ⟨ca_8_69, (fun _ h => absurd h List.not_mem_nil)⟩)⟩)⟩)⟩)⟩)⟩)⟩)⟩)⟩)⟩)⟩)⟩)⟩)⟩)⟩)⟩)⟩)⟩)⟩)⟩)⟩)⟩)⟩)⟩)⟩)⟩)⟩)⟩)⟩)⟩)⟩)⟩)⟩)⟩)⟩)⟩)⟩)⟩)⟩)⟩)⟩)⟩)⟩)⟩)⟩)⟩)⟩)⟩)⟩)⟩)⟩)⟩)⟩)⟩)⟩)⟩)⟩)⟩)⟩)⟩)⟩)⟩)⟩)⟩)⟩)⟩)⟩)⟩)⟩)⟩)
set_option maxRecDepth 20000 in
theorem ca_9 : ∀ e ∈ callsL.getD 9 [], callOK 9 e.1 e.2 := (fun _ h => absurd h List.not_mem_nil)
set_option maxRecDepth 20000 in
theorem ca_10 : ∀ e ∈ callsL.getD 10 [], callOK 10 e.1 e.2 := (fun _ h => absurd h List.not_mem_nil)
set_option maxRecDepth 20000 in
theorem ca_11 : ∀ e ∈ callsL.getD 11 [], callOK 11 e.1 e.2 := (fun _ h => absurd h List.not_mem_nil)
theorem ca_all {own idx q : Nat} (h : callOf own idx = some q) : callOK own idx q := by
  have hm := lkN_mem h
  match own, hm with
  | 0, hm => exact ca_0 (idx, q) hm
  | 1, hm => exact ca_1 (idx, q) hm
  | 2, hm => exact ca_2 (idx, q) hm
  | 3, hm => exact ca_3 (idx, q) hm
  | 4, hm => exact ca_4 (idx, q) hm
  | 5, hm => exact ca_5 (idx, q) hm
  | 6, hm => exact ca_6 (idx, q) hm
  | 7, hm => exact ca_7 (idx, q) hm
  | 8, hm => exact ca_8 (idx, q) hm
  | 9, hm => exact ca_9 (idx, q) hm
  | 10, hm => exact ca_10 (idx, q) hm
  | 11, hm => exact ca_11 (idx, q) hm
  | k + 12, hm => simp [callsL] at hm
def fldsL : List (List (Nat × (Nat × Nat))) := [[(12, (0, 0)), (21, (0, 1)), (33, (5, 3)), (48, (5, 4)), (54, (5, 2))], [(11, (1, 0)), (15, (1, 1)), (18, (1, 4)), (22, (1, 3)), (25, (1, 2))], [(12, (2, 0)), (18, (2, 1)), (22, (2, 2)), (25, (2, 3)), (28, (2, 4)), (34, (2, 8)), (75, (2, 5)), (79, (2, 6)), (83, (2, 7)), (93, (4, 4)), (125, (5, 2)), (142, (5, 3)), (148, (5, 4)), (157, (5, 5)), (177, (4, 6)), (183, (4, 5))], [(9, (3, 0)), (15, (3, 1)), (18, (3, 2)), (21, (3, 3)), (24, (5, 2)), (30, (3, 4)), (31, (3, 5)), (58, (3, 6)), (61, (3, 7)), (64, (3, 8))], [(9, (4, 0)), (13, (4, 1)), (17, (4, 2)), (29, (4, 3)), (36, (4, 5)), (39, (4, 6)), (42, (4, 4))], [(11, (5, 0)), (15, (5, 1)), (24, (5, 2)), (28, (5, 3)), (31, (5, 4)), (34, (5, 5))], [(12, (6, 1)), (16, (2, 0)), (20, (6, 0)), (24, (6, 2)), (31, (6, 3)), (38, (6, 4)), (45, (6, 5)), (59, (4, 1)), (67, (2, 8)), (125, (3, 6)), (129, (3, 7)), (132, (3, 8)), (138, (5, 2)), (179, (5, 3)), (189, (5, 5)), (250, (1, 4)), (259, (5, 4))], [(7, (7, 1)), (13, (7, 13)), (17, (7, 14)), (21, (7, 15)), (24, (7, 16)), (27, (7, 17)), (30, (7, 18)), (34, (7, 19)), (37, (7, 21)), (40, (7, 22)), (43, (7, 25)), (46, (7, 0)), (50, (7, 2)), (57, (7, 3)), (60, (7, 5)), (63, (7, 4)), (70, (7, 6)), (73, (7, 7)), (76, (7, 8)), (94, (7, 9)), (97, (7, 10)), (138, (7, 11)), (144, (7, 12)), (160, (7, 23)), (163, (7, 24)), (205, (7, 20)), (235, (7, 26)), (238, (7, 28)), (244, (7, 27))], [], [], [], []]
def fldOf (own idx : Nat) : Option (Nat × Nat) := lkN (fldsL.getD own []) idx
def fldOK (own idx ci k : Nat) : Prop := ∃ q : vw_C, vwCl[ci]? = some q ∧ k < q.2.2 ∧ Cond.fieldLink (oName own) idx q.1 (q.2.1 k).2.1 (q.2.1 k).2.2.1 ∈ gtbl
set_option maxRecDepth 20000 in
theorem fa_0_0 : fldOK 0 12 0 0 := ⟨_, rfl, by decide, tb2 6 rfl rfl⟩
set_option maxRecDepth 20000 in
theorem fa_0_1 : fldOK 0 21 0 1 := ⟨_, rfl, by decide, tb2 7 rfl rfl⟩
set_option maxRecDepth 20000 in
theorem fa_0_2 : fldOK 0 33 5 3 := ⟨_, rfl, by decide, tb1 82 rfl rfl⟩
set_option maxRecDepth 20000 in
theorem fa_0_3 : fldOK 0 48 5 4 := ⟨_, rfl, by decide, tb1 87 rfl rfl⟩
set_option maxRecDepth 20000 in
theorem fa_0_4 : fldOK 0 54 5 2 := ⟨_, rfl, by decide, tb1 79 rfl rfl⟩
theorem fa_0 : ∀ e ∈ fldsL.getD 0 [], fldOK 0 e.1 e.2.1 e.2.2 := (List.forall_mem_cons.mpr ⟨fa_0_0, (List.forall_mem_cons.mpr ⟨fa_0_1, (List.forall_mem_cons.mpr ⟨fa_0_2, (List.forall_mem_cons.mpr ⟨fa_0_3, (List.forall_mem_cons.mpr ⟨fa_0_4, (fun _ h => absurd h List.not_mem_nil)⟩)⟩)⟩)⟩)⟩)
set_option maxRecDepth 20000 in
theorem fa_1_0 : fldOK 1 11 1 0 := ⟨_, rfl, by decide, tb2 19 rfl rfl⟩
set_option maxRecDepth 20000 in
theorem fa_1_1 : fldOK 1 15 1 1 := ⟨_, rfl, by decide, tb2 20 rfl rfl⟩
set_option maxRecDepth 20000 in
theorem fa_1_2 : fldOK 1 18 1 4 := ⟨_, rfl, by decide, tb2 23 rfl rfl⟩
set_option maxRecDepth 20000 in
theorem fa_1_3 : fldOK 1 22 1 3 := ⟨_, rfl, by decide, tb2 22 rfl rfl⟩
set_option maxRecDepth 20000 in
theorem fa_1_4 : fldOK 1 25 1 2 := ⟨_, rfl, by decide, tb2 21 rfl rfl⟩
theorem fa_1 : ∀ e ∈ fldsL.getD 1 [], fldOK 1 e.1 e.2.1 e.2.2 := (List.forall_mem_cons.mpr ⟨fa_1_0, (List.forall_mem_cons.mpr ⟨fa_1_1, (List.forall_mem_cons.mpr ⟨fa_1_2, (List.forall_mem_cons.mpr ⟨fa_1_3, (List.forall_mem_cons.mpr ⟨fa_1_4, (fun _ h => absurd h List.not_mem_nil)⟩)⟩)⟩)⟩)⟩)
set_option maxRecDepth 20000 in
theorem fa_2_0 : fldOK 2 12 2 0 := ⟨_, rfl, by decide, tb1 169 rfl rfl⟩
set_option maxRecDepth 20000 in
theorem fa_2_1 : fldOK 2 18 2 1 := ⟨_, rfl, by decide, tb1 171 rfl rfl⟩
set_option maxRecDepth 20000 in
theorem fa_2_2 : fldOK 2 22 2 2 := ⟨_, rfl, by decide, tb1 172 rfl rfl⟩
set_option maxRecDepth 20000 in
theorem fa_2_3 : fldOK 2 25 2 3 := ⟨_, rfl, by decide, tb1 173 rfl rfl⟩
set_option maxRecDepth 20000 in
theorem fa_2_4 : fldOK 2 28 2 4 := ⟨_, rfl, by decide, tb1 174 rfl rfl⟩
set_option maxRecDepth 20000 in
theorem fa_2_5 : fldOK 2 34 2 8 := ⟨_, rfl, by decide, tb1 178 rfl rfl⟩
set_option maxRecDepth 20000 in
theorem fa_2_6 : fldOK 2 75 2 5 := ⟨_, rfl, by decide, tb1 175 rfl rfl⟩
set_option maxRecDepth 20000 in
theorem fa_2_7 : fldOK 2 79 2 6 := ⟨_, rfl, by decide, tb1 176 rfl rfl⟩
set_option maxRecDepth 20000 in
theorem fa_2_8 : fldOK 2 83 2 7 := ⟨_, rfl, by decide, tb1 177 rfl rfl⟩
set_option maxRecDepth 20000 in
theorem fa_2_9 : fldOK 2 93 4 4 := ⟨_, rfl, by decide, tb1 47 rfl rfl⟩
set_option maxRecDepth 20000 in
theorem fa_2_10 : fldOK 2 125 5 2 := ⟨_, rfl, by decide, tb1 80 rfl rfl⟩
set_option maxRecDepth 20000 in
theorem fa_2_11 : fldOK 2 142 5 3 := ⟨_, rfl, by decide, tb1 84 rfl rfl⟩
set_option maxRecDepth 20000 in
theorem fa_2_12 : fldOK 2 148 5 4 := ⟨_, rfl, by decide, tb1 88 rfl rfl⟩
set_option maxRecDepth 20000 in
theorem fa_2_13 : fldOK 2 157 5 5 := ⟨_, rfl, by decide, tb1 91 rfl rfl⟩
set_option maxRecDepth 20000 in
theorem fa_2_14 : fldOK 2 177 4 6 := ⟨_, rfl, by decide, tb1 52 rfl rfl⟩
set_option maxRecDepth 20000 in
theorem fa_2_15 : fldOK 2 183 4 5 := ⟨_, rfl, by decide, tb1 50 rfl rfl⟩
theorem fa_2 : ∀ e ∈ fldsL.getD 2 [], fldOK 2 e.1 e.2.1 e.2.2 := (List.forall_mem_cons.mpr ⟨fa_2_0, (List.forall_mem_cons.mpr ⟨fa_2_1, (List.forall_mem_cons.mpr ⟨fa_2_2, (List.forall_mem_cons.mpr ⟨fa_2_3, (List.forall_mem_cons.mpr ⟨fa_2_4, (List.forall_mem_cons.mpr ⟨fa_2_5, (List.forall_mem_cons.mpr ⟨fa_2_6, (List.forall_mem_cons.mpr ⟨fa_2_7, (List.forall_mem_cons.mpr ⟨fa_2_8, (List.forall_mem_cons.mpr ⟨fa_2_9, (List.forall_mem_cons.mpr ⟨fa_2_10, (List.forall_mem_cons.mpr ⟨fa_2_11, (List.forall_mem_cons.mpr ⟨fa_2_12, (List.forall_mem_cons.mpr ⟨fa_2_13, (List.forall_mem_cons.mpr ⟨fa_2_14, (List.forall_mem_cons.mpr ⟨fa_2_15, (fun _ h => absurd h List.not_mem_nil)⟩)⟩)⟩)⟩)⟩)⟩)⟩)⟩)⟩)⟩)⟩)⟩)⟩)⟩)⟩)⟩)
set_option maxRecDepth 20000 in
theorem fa_3_0 : fldOK 3 9 3 0 := ⟨_, rfl, by decide, tb1 205 rfl rfl⟩
set_option maxRecDepth 20000 in
theorem fa_3_1 : fldOK 3 15 3 1 := ⟨_, rfl, by decide, tb1 206 rfl rfl⟩
set_option maxRecDepth 20000 in
theorem fa_3_2 : fldOK 3 18 3 2 := ⟨_, rfl, by decide, tb1 207 rfl rfl⟩
set_option maxRecDepth 20000 in
theorem fa_3_3 : fldOK 3 21 3 3 := ⟨_, rfl, by decide, tb1 208 rfl rfl⟩
set_option maxRecDepth 20000 in
theorem fa_3_4 : fldOK 3 24 5 2 := ⟨_, rfl, by decide, tb1 77 rfl rfl⟩
set_option maxRecDepth 20000 in
theorem fa_3_5 : fldOK 3 30 3 4 := ⟨_, rfl, by decide, tb1 209 rfl rfl⟩
set_option maxRecDepth 20000 in
theorem fa_3_6 : fldOK 3 31 3 5 := ⟨_, rfl, by decide, tb1 210 rfl rfl⟩
set_option maxRecDepth 20000 in
theorem fa_3_7 : fldOK 3 58 3 6 := ⟨_, rfl, by decide, tb1 211 rfl rfl⟩
set_option maxRecDepth 20000 in
theorem fa_3_8 : fldOK 3 61 3 7 := ⟨_, rfl, by decide, tb1 213 rfl rfl⟩
set_option maxRecDepth 20000 in
theorem fa_3_9 : fldOK 3 64 3 8 := ⟨_, rfl, by decide, tb1 215 rfl rfl⟩
theorem fa_3 : ∀ e ∈ fldsL.getD 3 [], fldOK 3 e.1 e.2.1 e.2.2 := (List.forall_mem_cons.mpr ⟨fa_3_0, (List.forall_mem_cons.mpr ⟨fa_3_1, (List.forall_mem_cons.mpr ⟨fa_3_2, (List.forall_mem_cons.mpr ⟨fa_3_3, (List.forall_mem_cons.mpr ⟨fa_3_4, (List.forall_mem_cons.mpr ⟨fa_3_5, (List.forall_mem_cons.mpr ⟨fa_3_6, (List.forall_mem_cons.mpr ⟨fa_3_7, (List.forall_mem_cons.mpr ⟨fa_3_8, (List.forall_mem_cons.mpr ⟨fa_3_9, (fun _ h => absurd h List.not_mem_nil)⟩)⟩)⟩)⟩)⟩)⟩)⟩)⟩)⟩)⟩)
set_option maxRecDepth 20000 in
theorem fa_4_0 : fldOK 4 9 4 0 := ⟨_, rfl, by decide, tb1 42 rfl rfl⟩
set_option maxRecDepth 20000 in
theorem fa_4_1 : fldOK 4 13 4 1 := ⟨_, rfl, by decide, tb1 43 rfl rfl⟩
set_option maxRecDepth 20000 in
theorem fa_4_2 : fldOK 4 17 4 2 := ⟨_, rfl, by decide, tb1 45 rfl rfl⟩
set_option maxRecDepth 20000 in
theorem fa_4_3 : fldOK 4 29 4 3 := ⟨_, rfl, by decide, tb1 46 rfl rfl⟩
set_option maxRecDepth 20000 in
theorem fa_4_4 : fldOK 4 36 4 5 := ⟨_, rfl, by decide, tb1 49 rfl rfl⟩
set_option maxRecDepth 20000 in
theorem fa_4_5 : fldOK 4 39 4 6 := ⟨_, rfl, by decide, tb1 51 rfl rfl⟩
set_option maxRecDepth 20000 in
theorem fa_4_6 : fldOK 4 42 4 4 := ⟨_, rfl, by decide, tb1 48 rfl rfl⟩
theorem fa_4 : ∀ e ∈ fldsL.getD 4 [], fldOK 4 e.1 e.2.1 e.2.2 := (List.forall_mem_cons.mpr ⟨fa_4_0, (List.forall_mem_cons.mpr ⟨fa_4_1, (List.forall_mem_cons.mpr ⟨fa_4_2, (List.forall_mem_cons.mpr ⟨fa_4_3, (List.forall_mem_cons.mpr ⟨fa_4_4, (List.forall_mem_cons.mpr ⟨fa_4_5, (List.forall_mem_cons.mpr ⟨fa_4_6, (fun _ h => absurd h List.not_mem_nil)⟩)⟩)⟩)⟩)⟩)⟩)⟩)
set_option maxRecDepth 20000 in
theorem fa_5_0 : fldOK 5 11 5 0 := ⟨_, rfl, by decide, tb1 75 rfl rfl⟩
set_option maxRecDepth 20000 in
theorem fa_5_1 : fldOK 5 15 5 1 := ⟨_, rfl, by decide, tb1 76 rfl rfl⟩
set_option maxRecDepth 20000 in
theorem fa_5_2 : fldOK 5 24 5 2 := ⟨_, rfl, by decide, tb1 78 rfl rfl⟩
set_option maxRecDepth 20000 in
theorem fa_5_3 : fldOK 5 28 5 3 := ⟨_, rfl, by decide, tb1 83 rfl rfl⟩
set_option maxRecDepth 20000 in
theorem fa_5_4 : fldOK 5 31 5 4 := ⟨_, rfl, by decide, tb1 86 rfl rfl⟩
set_option maxRecDepth 20000 in
theorem fa_5_5 : fldOK 5 34 5 5 := ⟨_, rfl, by decide, tb1 90 rfl rfl⟩
theorem fa_5 : ∀ e ∈ fldsL.getD 5 [], fldOK 5 e.1 e.2.1 e.2.2 := (List.forall_mem_cons.mpr ⟨fa_5_0, (List.forall_mem_cons.mpr ⟨fa_5_1, (List.forall_mem_cons.mpr ⟨fa_5_2, (List.forall_mem_cons.mpr ⟨fa_5_3, (List.forall_mem_cons.mpr ⟨fa_5_4, (List.forall_mem_cons.mpr ⟨fa_5_5, (fun _ h => absurd h List.not_mem_nil)⟩)⟩)⟩)⟩)⟩)⟩)
set_option maxRecDepth 20000 in
theorem fa_6_0 : fldOK 6 12 6 1 := ⟨_, rfl, by decide, tb2 39 rfl rfl⟩
set_option maxRecDepth 20000 in
theorem fa_6_1 : fldOK 6 16 2 0 := ⟨_, rfl, by decide, tb1 170 rfl rfl⟩
set_option maxRecDepth 20000 in
theorem fa_6_2 : fldOK 6 20 6 0 := ⟨_, rfl, by decide, tb2 38 rfl rfl⟩
set_option maxRecDepth 20000 in
theorem fa_6_3 : fldOK 6 24 6 2 := ⟨_, rfl, by decide, tb2 40 rfl rfl⟩
set_option maxRecDepth 20000 in
theorem fa_6_4 : fldOK 6 31 6 3 := ⟨_, rfl, by decide, tb2 41 rfl rfl⟩
set_option maxRecDepth 20000 in
theorem fa_6_5 : fldOK 6 38 6 4 := ⟨_, rfl, by decide, tb2 42 rfl rfl⟩
set_option maxRecDepth 20000 in
theorem fa_6_6 : fldOK 6 45 6 5 := ⟨_, rfl, by decide, tb2 43 rfl rfl⟩
set_option maxRecDepth 20000 in
theorem fa_6_7 : fldOK 6 59 4 1 := ⟨_, rfl, by decide, tb1 44 rfl rfl⟩
set_option maxRecDepth 20000 in
theorem fa_6_8 : fldOK 6 67 2 8 := ⟨_, rfl, by decide, tb1 179 rfl rfl⟩
set_option maxRecDepth 20000 in
theorem fa_6_9 : fldOK 6 125 3 6 := ⟨_, rfl, by decide, tb1 212 rfl rfl⟩
set_option maxRecDepth 20000 in
theorem fa_6_10 : fldOK 6 129 3 7 := ⟨_, rfl, by decide, tb1 214 rfl rfl⟩
set_option maxRecDepth 20000 in
theorem fa_6_11 : fldOK 6 132 3 8 := ⟨_, rfl, by decide, tb1 216 rfl rfl⟩
set_option maxRecDepth 20000 in
theorem fa_6_12 : fldOK 6 138 5 2 := ⟨_, rfl, by decide, tb1 81 rfl rfl⟩
set_option maxRecDepth 20000 in
theorem fa_6_13 : fldOK 6 179 5 3 := ⟨_, rfl, by decide, tb1 85 rfl rfl⟩
set_option maxRecDepth 20000 in
theorem fa_6_14 : fldOK 6 189 5 5 := ⟨_, rfl, by decide, tb1 92 rfl rfl⟩
set_option maxRecDepth 20000 in
theorem fa_6_15 : fldOK 6 250 1 4 := ⟨_, rfl, by decide, tb2 24 rfl rfl⟩
set_option maxRecDepth 20000 in
theorem fa_6_16 : fldOK 6 259 5 4 := ⟨_, rfl, by decide, tb1 89 rfl rfl⟩
theorem fa_6 : ∀ e ∈ fldsL.getD 6 [], fldOK 6 e.1 e.2.1 e.2.2 := (List.forall_mem_cons.mpr ⟨fa_6_0, (List.forall_mem_cons.mpr ⟨fa_6_1, (List.forall_mem_cons.mpr ⟨fa_6_2, (List.forall_mem_cons.mpr ⟨fa_6_3, (List.forall_mem_cons.mpr ⟨fa_6_4, (List.forall_mem_cons.mpr ⟨fa_6_5, (List.forall_mem_cons.mpr ⟨fa_6_6, (List.forall_mem_cons.mpr ⟨fa_6_7, (List.forall_mem_cons.mpr ⟨fa_6_8, (List.forall_mem_cons.mpr ⟨fa_6_9, (List.forall_mem_cons.mpr ⟨fa_6_10, (List.forall_mem_cons.mpr ⟨fa_6_11, (List.forall_mem_cons.mpr ⟨fa_6_12, (List.forall_mem_cons.mpr ⟨fa_6_13, (List.forall_mem_cons.mpr ⟨fa_6_14, (List.forall_mem_cons.mpr ⟨fa_6_15, (List.forall_mem_cons.mpr ⟨fa_6_16, (fun _ h => absurd h List.not_mem_nil)⟩)⟩)⟩)⟩)⟩)⟩)⟩)⟩)⟩)⟩)⟩)⟩)⟩)⟩)⟩)⟩)⟩)
set_option maxRecDepth 20000 in
theorem fa_7_0 : fldOK 7 7 7 1 := ⟨_, rfl, by decide, tb4 185 rfl rfl⟩
set_option maxRecDepth 20000 in
theorem fa_7_1 : fldOK 7 13 7 13 := ⟨_, rfl, by decide, tb4 197 rfl rfl⟩
set_option maxRecDepth 20000 in
theorem fa_7_2 : fldOK 7 17 7 14 := ⟨_, rfl, by decide, tb4 198 rfl rfl⟩
set_option maxRecDepth 20000 in
theorem fa_7_3 : fldOK 7 21 7 15 := ⟨_, rfl, by decide, tb4 199 rfl rfl⟩
set_option maxRecDepth 20000 in
theorem fa_7_4 : fldOK 7 24 7 16 := ⟨_, rfl, by decide, tb4 200 rfl rfl⟩
set_option maxRecDepth 20000 in
theorem fa_7_5 : fldOK 7 27 7 17 := ⟨_, rfl, by decide, tb4 201 rfl rfl⟩
set_option maxRecDepth 20000 in
theorem fa_7_6 : fldOK 7 30 7 18 := ⟨_, rfl, by decide, tb4 202 rfl rfl⟩
set_option maxRecDepth 20000 in
theorem fa_7_7 : fldOK 7 34 7 19 := ⟨_, rfl, by decide, tb4 203 rfl rfl⟩
set_option maxRecDepth 20000 in
theorem fa_7_8 : fldOK 7 37 7 21 := ⟨_, rfl, by decide, tb4 205 rfl rfl⟩
set_option maxRecDepth 20000 in
theorem fa_7_9 : fldOK 7 40 7 22 := ⟨_, rfl, by decide, tb4 206 rfl rfl⟩
set_option maxRecDepth 20000 in
theorem fa_7_10 : fldOK 7 43 7 25 := ⟨_, rfl, by decide, tb4 209 rfl rfl⟩
set_option maxRecDepth 20000 in
theorem fa_7_11 : fldOK 7 46 7 0 := ⟨_, rfl, by decide, tb4 184 rfl rfl⟩
set_option maxRecDepth 20000 in
theorem fa_7_12 : fldOK 7 50 7 2 := ⟨_, rfl, by decide, tb4 186 rfl rfl⟩
set_option maxRecDepth 20000 in
theorem fa_7_13 : fldOK 7 57 7 3 := ⟨_, rfl, by decide, tb4 187 rfl rfl⟩
set_option maxRecDepth 20000 in
theorem fa_7_14 : fldOK 7 60 7 5 := ⟨_, rfl, by decide, tb4 189 rfl rfl⟩
set_option maxRecDepth 20000 in
theorem fa_7_15 : fldOK 7 63 7 4 := ⟨_, rfl, by decide, tb4 188 rfl rfl⟩
set_option maxRecDepth 20000 in
theorem fa_7_16 : fldOK 7 70 7 6 := ⟨_, rfl, by decide, tb4 190 rfl rfl⟩
set_option maxRecDepth 20000 in
theorem fa_7_17 : fldOK 7 73 7 7 := ⟨_, rfl, by decide, tb4 191 rfl rfl⟩
set_option maxRecDepth 20000 in
theorem fa_7_18 : fldOK 7 76 7 8 := ⟨_, rfl, by decide, tb4 192 rfl rfl⟩
set_option maxRecDepth 20000 in
theorem fa_7_19 : fldOK 7 94 7 9 := ⟨_, rfl, by decide, tb4 193 rfl rfl⟩
set_option maxRecDepth 20000 in
theorem fa_7_20 : fldOK 7 97 7 10 := ⟨_, rfl, by decide, tb4 194 rfl rfl⟩
set_option maxRecDepth 20000 in
theorem fa_7_21 : fldOK 7 138 7 11 := ⟨_, rfl, by decide, tb4 195 rfl rfl⟩
set_option maxRecDepth 20000 in
theorem fa_7_22 : fldOK 7 144 7 12 := ⟨_, rfl, by decide, tb4 196 rfl rfl⟩
set_option maxRecDepth 20000 in
theorem fa_7_23 : fldOK 7 160 7 23 := ⟨_, rfl, by decide, tb4 207 rfl rfl⟩
set_option maxRecDepth 20000 in
theorem fa_7_24 : fldOK 7 163 7 24 := ⟨_, rfl, by decide, tb4 208 rfl rfl⟩
set_option maxRecDepth 20000 in
theorem fa_7_25 : fldOK 7 205 7 20 := ⟨_, rfl, by decide, tb4 204 rfl rfl⟩
set_option maxRecDepth 20000 in
theorem fa_7_26 : fldOK 7 235 7 26 := ⟨_, rfl, by decide, tb4 210 rfl rfl⟩
set_option maxRecDepth 20000 in
theorem fa_7_27 : fldOK 7 238 7 28 := ⟨_, rfl, by decide, tb4 212 rfl rfl⟩
set_option maxRecDepth 20000 in
theorem fa_7_28 : fldOK 7 244 7 27 := ⟨_, rfl, by decide, tb4 211 rfl rfl⟩
theorem fa_7 : ∀ e ∈ fldsL.getD 7 [], fldOK 7 e.1 e.2.1 e.2.2 := (List.forall_mem_cons.mpr ⟨fa_7_0, (List.forall_mem_cons.mpr ⟨fa_7_1, (List.forall_mem_cons.mpr ⟨fa_7_2, (List.forall_mem_cons.mpr ⟨fa_7_3, (List.forall_mem_cons.mpr ⟨fa_7_4, (List.forall_mem_cons.mpr ⟨fa_7_5, (List.forall_mem_cons.mpr ⟨fa_7_6, (List.forall_mem_cons.mpr ⟨fa_7_7, (List.forall_mem_cons.mpr ⟨fa_7_8, (List.forall_mem_cons.mpr ⟨fa_7_9, (List.forall_mem_cons.mpr ⟨fa_7_10, (List.forall_mem_cons.mpr ⟨fa_7_11, (List.forall_mem_cons.mpr ⟨fa_7_12, (List.forall_mem_cons.mpr ⟨fa_7_13, (List.forall_mem_cons.mpr ⟨fa_7_14, (List.forall_mem_cons.mpr ⟨fa_7_15, (List.forall_mem_cons.mpr ⟨fa_7_16, (List.forall_mem_cons.mpr ⟨fa_7_17, (List.forall_mem_cons.mpr ⟨fa_7_18, (List.forall_mem_cons.mpr ⟨fa_7_19, (List.forall_mem_cons.mpr ⟨fa_7_20, (List.forall_mem_cons.mpr ⟨fa_7_21, (List.forall_mem_cons.mpr ⟨fa_7_22, (List.forall_mem_cons.mpr ⟨fa_7_23, (List.forall_mem_cons.mpr ⟨fa_7_24, (List.forall_mem_cons.mpr ⟨fa_7_25, (List.forall_mem_cons.mpr ⟨fa_7_26, (List.forall_mem_cons.mpr ⟨fa_7_27, (List.forall_mem_cons.mpr ⟨fa_7_28, (fun _ h => absurd h List.not_mem_nil)⟩)⟩)⟩)⟩)⟩)⟩)⟩)⟩)⟩)⟩)⟩)⟩)⟩)⟩)⟩)⟩)⟩)⟩)⟩)⟩)⟩)⟩)⟩)⟩)⟩)⟩)⟩)⟩)⟩)
theorem fa_8 : ∀ e ∈ fldsL.getD 8 [], fldOK 8 e.1 e.2.1 e.2.2 := (fun _ h => absurd h List.not_mem_nil)
theorem fa_9 : ∀ e ∈ fldsL.getD 9 [], fldOK 9 e.1 e.2.1 e.2.2 := (fun _ h => absurd h List.not_mem_nil)
theorem fa_10 : ∀ e ∈ fldsL.getD 10 [], fldOK 10 e.1 e.2.1 e.2.2 := (fun _ h => absurd h List.not_mem_nil)
theorem fa_11 : ∀ e ∈ fldsL.getD 11 [], fldOK 11 e.1 e.2.1 e.2.2 := (fun _ h => absurd h List.not_mem_nil)
theorem fa_all {own idx ci k : Nat} (h : fldOf own idx = some (ci, k)) : fldOK own idx ci k := by
  have hm := lkN_mem h
  match own, hm with
  | 0, hm => exact fa_0 (idx, (ci, k)) hm
  | 1, hm => exact fa_1 (idx, (ci, k)) hm
  | 2, hm => exact fa_2 (idx, (ci, k)) hm
  | 3, hm => exact fa_3 (idx, (ci, k)) hm
  | 4, hm => exact fa_4 (idx, (ci, k)) hm
  | 5, hm => exact fa_5 (idx, (ci, k)) hm
  | 6, hm => exact fa_6 (idx, (ci, k)) hm
  | 7, hm => exact fa_7 (idx, (ci, k)) hm
  | 8, hm => exact fa_8 (idx, (ci, k)) hm
  | 9, hm => exact fa_9 (idx, (ci, k)) hm
  | 10, hm => exact fa_10 (idx, (ci, k)) hm
  | 11, hm => exact fa_11 (idx, (ci, k)) hm
  | k + 12, hm => simp [fldsL] at hm
def newsL : List (List (Nat × Nat)) := [[(9, 3), (18, 5)], [], [(9, 4), (31, 5)], [], [], [], [(9, 2), (21, 3), (28, 0), (35, 1), (42, 5)], [], [(8, 6), (16, 7)], [], [], []]
def newOf (own idx : Nat) : Option Nat := lkN (newsL.getD own []) idx
def newOK (own idx ci : Nat) : Prop := ∃ q : vw_C, vwCl[ci]? = some q ∧ Cond.classLink (oName own) idx q.1 ∈ gtbl
theorem na_0_0 : newOK 0 9 3 := ⟨_, rfl, tb2 2 rfl rfl⟩
theorem na_0_1 : newOK 0 18 5 := ⟨_, rfl, tb2 4 rfl rfl⟩
theorem na_0 : ∀ e ∈ newsL.getD 0 [], newOK 0 e.1 e.2 := (List.forall_mem_cons.mpr ⟨na_0_0, (List.forall_mem_cons.mpr ⟨na_0_1, (fun _ h => absurd h List.not_mem_nil)⟩)⟩)
theorem na_1 : ∀ e ∈ newsL.getD 1 [], newOK 1 e.1 e.2 := (fun _ h => absurd h List.not_mem_nil)
theorem na_2_0 : newOK 2 9 4 := ⟨_, rfl, tb1 36 rfl rfl⟩
theorem na_2_1 : newOK 2 31 5 := ⟨_, rfl, tb1 69 rfl rfl⟩
theorem na_2 : ∀ e ∈ newsL.getD 2 [], newOK 2 e.1 e.2 := (List.forall_mem_cons.mpr ⟨na_2_0, (List.forall_mem_cons.mpr ⟨na_2_1, (fun _ h => absurd h List.not_mem_nil)⟩)⟩)
theorem na_3 : ∀ e ∈ newsL.getD 3 [], newOK 3 e.1 e.2 := (fun _ h => absurd h List.not_mem_nil)
theorem na_4 : ∀ e ∈ newsL.getD 4 [], newOK 4 e.1 e.2 := (fun _ h => absurd h List.not_mem_nil)
theorem na_5 : ∀ e ∈ newsL.getD 5 [], newOK 5 e.1 e.2 := (fun _ h => absurd h List.not_mem_nil)
theorem na_6_0 : newOK 6 9 2 := ⟨_, rfl, tb1 30 rfl rfl⟩
theorem na_6_1 : newOK 6 21 3 := ⟨_, rfl, tb1 199 rfl rfl⟩
theorem na_6_2 : newOK 6 28 0 := ⟨_, rfl, tb1 236 rfl rfl⟩
theorem na_6_3 : newOK 6 35 1 := ⟨_, rfl, tb2 13 rfl rfl⟩
theorem na_6_4 : newOK 6 42 5 := ⟨_, rfl, tb2 36 rfl rfl⟩
theorem na_6 : ∀ e ∈ newsL.getD 6 [], newOK 6 e.1 e.2 := (List.forall_mem_cons.mpr ⟨na_6_0, (List.forall_mem_cons.mpr ⟨na_6_1, (List.forall_mem_cons.mpr ⟨na_6_2, (List.forall_mem_cons.mpr ⟨na_6_3, (List.forall_mem_cons.mpr ⟨na_6_4, (fun _ h => absurd h List.not_mem_nil)⟩)⟩)⟩)⟩)⟩)
theorem na_7 : ∀ e ∈ newsL.getD 7 [], newOK 7 e.1 e.2 := (fun _ h => absurd h List.not_mem_nil)
theorem na_8_0 : newOK 8 8 6 := ⟨_, rfl, tb1 22 rfl rfl⟩
theorem na_8_1 : newOK 8 16 7 := ⟨_, rfl, tb4 178 rfl rfl⟩
theorem na_8 : ∀ e ∈ newsL.getD 8 [], newOK 8 e.1 e.2 := (List.forall_mem_cons.mpr ⟨na_8_0, (List.forall_mem_cons.mpr ⟨na_8_1, (fun _ h => absurd h List.not_mem_nil)⟩)⟩)
theorem na_9 : ∀ e ∈ newsL.getD 9 [], newOK 9 e.1 e.2 := (fun _ h => absurd h List.not_mem_nil)
theorem na_10 : ∀ e ∈ newsL.getD 10 [], newOK 10 e.1 e.2 := (fun _ h => absurd h List.not_mem_nil)
theorem na_11 : ∀ e ∈ newsL.getD 11 [], newOK 11 e.1 e.2 := (fun _ h => absurd h List.not_mem_nil)
theorem na_all {own idx ci : Nat} (h : newOf own idx = some ci) : newOK own idx ci := by
  have hm := lkN_mem h
  match own, hm with
  | 0, hm => exact na_0 (idx, ci) hm
  | 1, hm => exact na_1 (idx, ci) hm
  | 2, hm => exact na_2 (idx, ci) hm
  | 3, hm => exact na_3 (idx, ci) hm
  | 4, hm => exact na_4 (idx, ci) hm
  | 5, hm => exact na_5 (idx, ci) hm
  | 6, hm => exact na_6 (idx, ci) hm
  | 7, hm => exact na_7 (idx, ci) hm
  | 8, hm => exact na_8 (idx, ci) hm
  | 9, hm => exact na_9 (idx, ci) hm
  | 10, hm => exact na_10 (idx, ci) hm
  | 11, hm => exact na_11 (idx, ci) hm
  | k + 12, hm => simp [newsL] at hm
def ng1 : Int32 := -1
def ng2 : Int32 := -2
def ngL : Int64 := -1
def kI : Int → Int32
  | .ofNat k => nI k
  | .negSucc 0 => ng1
  | .negSucc 1 => ng2
  | .negSucc k => Int32.ofInt (.negSucc k)
theorem kI_eq (n : Int) : kI n = Int32.ofInt n := by
  match n with
  | .ofNat k => exact (Int32.ofInt_eq_ofNat (n := k)).symm
  | .negSucc 0 => rfl
  | .negSucc 1 => rfl
  | .negSucc (k + 2) => rfl
def kL : Int → Int64
  | .ofNat k => lN k
  | .negSucc 0 => ngL
  | .negSucc k => Int64.ofInt (.negSucc k)
def lconL : List (List (Nat × Int)) := [[], [], [], [], [], [], [(177, -1)], [(80, 97), (82, 122), (88, 96), (90, 48), (92, 57), (227, 2), (270, -1), (272, 4), (281, 99)], [], [], [(314, 6148914691236517205), (316, 3689348814741910323), (318, 1085102592571150095)], []]
def lcon (own idx : Nat) : Option Int := lkN (lconL.getD own []) idx
theorem la_0 : ∀ e ∈ lconL.getD 0 [], Cond.constantLong (oName 0) e.1 (kL e.2) ∈ gtbl := (fun _ h => absurd h List.not_mem_nil)
theorem la_1 : ∀ e ∈ lconL.getD 1 [], Cond.constantLong (oName 1) e.1 (kL e.2) ∈ gtbl := (fun _ h => absurd h List.not_mem_nil)
theorem la_2 : ∀ e ∈ lconL.getD 2 [], Cond.constantLong (oName 2) e.1 (kL e.2) ∈ gtbl := (fun _ h => absurd h List.not_mem_nil)
theorem la_3 : ∀ e ∈ lconL.getD 3 [], Cond.constantLong (oName 3) e.1 (kL e.2) ∈ gtbl := (fun _ h => absurd h List.not_mem_nil)
theorem la_4 : ∀ e ∈ lconL.getD 4 [], Cond.constantLong (oName 4) e.1 (kL e.2) ∈ gtbl := (fun _ h => absurd h List.not_mem_nil)
theorem la_5 : ∀ e ∈ lconL.getD 5 [], Cond.constantLong (oName 5) e.1 (kL e.2) ∈ gtbl := (fun _ h => absurd h List.not_mem_nil)
theorem la_6_0 : Cond.constantLong (oName 6) 177 (kL (-1)) ∈ gtbl := tb3 154 (by decide +kernel) (by decide +kernel)
theorem la_6 : ∀ e ∈ lconL.getD 6 [], Cond.constantLong (oName 6) e.1 (kL e.2) ∈ gtbl := (List.forall_mem_cons.mpr ⟨la_6_0, (fun _ h => absurd h List.not_mem_nil)⟩)
theorem la_7_0 : Cond.constantLong (oName 7) 80 (kL (97)) ∈ gtbl := tb5 65 (by decide +kernel) (by decide +kernel)
theorem la_7_1 : Cond.constantLong (oName 7) 82 (kL (122)) ∈ gtbl := tb5 66 (by decide +kernel) (by decide +kernel)
theorem la_7_2 : Cond.constantLong (oName 7) 88 (kL (96)) ∈ gtbl := tb5 67 (by decide +kernel) (by decide +kernel)
theorem la_7_3 : Cond.constantLong (oName 7) 90 (kL (48)) ∈ gtbl := tb5 68 (by decide +kernel) (by decide +kernel)
theorem la_7_4 : Cond.constantLong (oName 7) 92 (kL (57)) ∈ gtbl := tb5 69 (by decide +kernel) (by decide +kernel)
theorem la_7_5 : Cond.constantLong (oName 7) 227 (kL (2)) ∈ gtbl := tb5 187 (by decide +kernel) (by decide +kernel)
theorem la_7_6 : Cond.constantLong (oName 7) 270 (kL (-1)) ∈ gtbl := tb6 12 (by decide +kernel) (by decide +kernel)
theorem la_7_7 : Cond.constantLong (oName 7) 272 (kL (4)) ∈ gtbl := tb6 13 (by decide +kernel) (by decide +kernel)
theorem la_7_8 : Cond.constantLong (oName 7) 281 (kL (99)) ∈ gtbl := tb6 50 (by decide +kernel) (by decide +kernel)
theorem la_7 : ∀ e ∈ lconL.getD 7 [], Cond.constantLong (oName 7) e.1 (kL e.2) ∈ gtbl := (List.forall_mem_cons.mpr ⟨la_7_0, (List.forall_mem_cons.mpr ⟨la_7_1, (List.forall_mem_cons.mpr ⟨la_7_2, (List.forall_mem_cons.mpr ⟨la_7_3, (List.forall_mem_cons.mpr ⟨la_7_4, (List.forall_mem_cons.mpr ⟨la_7_5, (List.forall_mem_cons.mpr ⟨la_7_6, (List.forall_mem_cons.mpr ⟨la_7_7, (List.forall_mem_cons.mpr ⟨la_7_8, (fun _ h => absurd h List.not_mem_nil)⟩)⟩)⟩)⟩)⟩)⟩)⟩)⟩)⟩)
theorem la_8 : ∀ e ∈ lconL.getD 8 [], Cond.constantLong (oName 8) e.1 (kL e.2) ∈ gtbl := (fun _ h => absurd h List.not_mem_nil)
theorem la_9 : ∀ e ∈ lconL.getD 9 [], Cond.constantLong (oName 9) e.1 (kL e.2) ∈ gtbl := (fun _ h => absurd h List.not_mem_nil)
theorem la_10_0 : Cond.constantLong (oName 10) 314 (kL (6148914691236517205)) ∈ gtbl := tb3 93 (by decide +kernel) (by decide +kernel)
theorem la_10_1 : Cond.constantLong (oName 10) 316 (kL (3689348814741910323)) ∈ gtbl := tb3 94 (by decide +kernel) (by decide +kernel)
theorem la_10_2 : Cond.constantLong (oName 10) 318 (kL (1085102592571150095)) ∈ gtbl := tb3 95 (by decide +kernel) (by decide +kernel)
theorem la_10 : ∀ e ∈ lconL.getD 10 [], Cond.constantLong (oName 10) e.1 (kL e.2) ∈ gtbl := (List.forall_mem_cons.mpr ⟨la_10_0, (List.forall_mem_cons.mpr ⟨la_10_1, (List.forall_mem_cons.mpr ⟨la_10_2, (fun _ h => absurd h List.not_mem_nil)⟩)⟩)⟩)
theorem la_11 : ∀ e ∈ lconL.getD 11 [], Cond.constantLong (oName 11) e.1 (kL e.2) ∈ gtbl := (fun _ h => absurd h List.not_mem_nil)
theorem la_all {own idx : Nat} {v : Int} (h : lcon own idx = some v) : Cond.constantLong (oName own) idx (kL v) ∈ gtbl := by
  have hm := lkN_mem h
  match own, hm with
  | 0, hm => exact la_0 (idx, v) hm
  | 1, hm => exact la_1 (idx, v) hm
  | 2, hm => exact la_2 (idx, v) hm
  | 3, hm => exact la_3 (idx, v) hm
  | 4, hm => exact la_4 (idx, v) hm
  | 5, hm => exact la_5 (idx, v) hm
  | 6, hm => exact la_6 (idx, v) hm
  | 7, hm => exact la_7 (idx, v) hm
  | 8, hm => exact la_8 (idx, v) hm
  | 9, hm => exact la_9 (idx, v) hm
  | 10, hm => exact la_10 (idx, v) hm
  | 11, hm => exact la_11 (idx, v) hm
  | k + 12, hm => simp [lconL] at hm
def iconL : List (List (Nat × Int)) := [[], [], [], [], [], [], [], [], [], [(265, 1431655765), (266, 858993459), (267, 252645135)], [], []]
def icon (own idx : Nat) : Option Int := lkN (iconL.getD own []) idx
theorem ia_0 : ∀ e ∈ iconL.getD 0 [], Cond.constant (oName 0) e.1 (kI e.2) ∈ gtbl := (fun _ h => absurd h List.not_mem_nil)
theorem ia_1 : ∀ e ∈ iconL.getD 1 [], Cond.constant (oName 1) e.1 (kI e.2) ∈ gtbl := (fun _ h => absurd h List.not_mem_nil)
theorem ia_2 : ∀ e ∈ iconL.getD 2 [], Cond.constant (oName 2) e.1 (kI e.2) ∈ gtbl := (fun _ h => absurd h List.not_mem_nil)
theorem ia_3 : ∀ e ∈ iconL.getD 3 [], Cond.constant (oName 3) e.1 (kI e.2) ∈ gtbl := (fun _ h => absurd h List.not_mem_nil)
theorem ia_4 : ∀ e ∈ iconL.getD 4 [], Cond.constant (oName 4) e.1 (kI e.2) ∈ gtbl := (fun _ h => absurd h List.not_mem_nil)
theorem ia_5 : ∀ e ∈ iconL.getD 5 [], Cond.constant (oName 5) e.1 (kI e.2) ∈ gtbl := (fun _ h => absurd h List.not_mem_nil)
theorem ia_6 : ∀ e ∈ iconL.getD 6 [], Cond.constant (oName 6) e.1 (kI e.2) ∈ gtbl := (fun _ h => absurd h List.not_mem_nil)
theorem ia_7 : ∀ e ∈ iconL.getD 7 [], Cond.constant (oName 7) e.1 (kI e.2) ∈ gtbl := (fun _ h => absurd h List.not_mem_nil)
theorem ia_8 : ∀ e ∈ iconL.getD 8 [], Cond.constant (oName 8) e.1 (kI e.2) ∈ gtbl := (fun _ h => absurd h List.not_mem_nil)
theorem ia_9_0 : Cond.constant (oName 9) 265 (kI (1431655765)) ∈ gtbl := tb3 211 (by decide +kernel) (by decide +kernel)
theorem ia_9_1 : Cond.constant (oName 9) 266 (kI (858993459)) ∈ gtbl := tb3 212 (by decide +kernel) (by decide +kernel)
theorem ia_9_2 : Cond.constant (oName 9) 267 (kI (252645135)) ∈ gtbl := tb3 213 (by decide +kernel) (by decide +kernel)
theorem ia_9 : ∀ e ∈ iconL.getD 9 [], Cond.constant (oName 9) e.1 (kI e.2) ∈ gtbl := (List.forall_mem_cons.mpr ⟨ia_9_0, (List.forall_mem_cons.mpr ⟨ia_9_1, (List.forall_mem_cons.mpr ⟨ia_9_2, (fun _ h => absurd h List.not_mem_nil)⟩)⟩)⟩)
theorem ia_10 : ∀ e ∈ iconL.getD 10 [], Cond.constant (oName 10) e.1 (kI e.2) ∈ gtbl := (fun _ h => absurd h List.not_mem_nil)
theorem ia_11 : ∀ e ∈ iconL.getD 11 [], Cond.constant (oName 11) e.1 (kI e.2) ∈ gtbl := (fun _ h => absurd h List.not_mem_nil)
theorem ia_all {own idx : Nat} {v : Int} (h : icon own idx = some v) : Cond.constant (oName own) idx (kI v) ∈ gtbl := by
  have hm := lkN_mem h
  match own, hm with
  | 0, hm => exact ia_0 (idx, v) hm
  | 1, hm => exact ia_1 (idx, v) hm
  | 2, hm => exact ia_2 (idx, v) hm
  | 3, hm => exact ia_3 (idx, v) hm
  | 4, hm => exact ia_4 (idx, v) hm
  | 5, hm => exact ia_5 (idx, v) hm
  | 6, hm => exact ia_6 (idx, v) hm
  | 7, hm => exact ia_7 (idx, v) hm
  | 8, hm => exact ia_8 (idx, v) hm
  | 9, hm => exact ia_9 (idx, v) hm
  | 10, hm => exact ia_10 (idx, v) hm
  | 11, hm => exact ia_11 (idx, v) hm
  | k + 12, hm => simp [iconL] at hm
/-- the texts: by their places 0 land, 1 issue, 2 fact, 3 deed, 4 rule, 5 law, 6 whole, 7 inner, 8 the message -/
def sTexts : List String := ["land", "issue", "fact", "deed", "rule", "law", "whole", "inner", "no such land, issue or question"]
def sconL : List (List (Nat × Nat)) := [[], [], [(38, 0), (44, 1), (46, 2), (48, 3), (50, 4), (52, 5), (54, 6), (56, 7)], [], [], [], [(94, 8)], [(114, 0), (120, 1), (122, 2), (124, 4), (126, 5), (128, 3), (130, 6), (132, 7)], [], [], [], []]
def scon (own idx : Nat) : Option Nat := lkN (sconL.getD own []) idx
theorem lb_obj : Cond.instanceMethod objectInit ∈ gtbl ∧ Cond.code objectInit ⟨#[0xb1]⟩ 1 none ∈ gtbl := ⟨tb1 28 rfl rfl, tb1 29 rfl rfl⟩
theorem lb_max : Cond.static Lib.Math.max.name ∈ gtbl ∧ Cond.initialized "java/lang/Math" ∈ gtbl ∧ Cond.code Lib.Math.max.name Lib.Math.max.code 2 (some .int) ∈ gtbl := ⟨tb2 92 rfl rfl, tb1 14 rfl rfl, tb2 93 rfl rfl⟩
theorem lb_min : Cond.static Lib.Math.min.name ∈ gtbl ∧ Cond.initialized "java/lang/Math" ∈ gtbl ∧ Cond.code Lib.Math.min.name Lib.Math.min.code 2 (some .int) ∈ gtbl := ⟨tb2 89 rfl rfl, tb1 14 rfl rfl, tb2 90 rfl rfl⟩
theorem lb_copy : Cond.native arraycopyName ∈ gtbl ∧ Cond.static arraycopyName ∈ gtbl ∧ Cond.initialized "java/lang/System" ∈ gtbl := ⟨tb3 201 rfl rfl, tb3 200 rfl rfl, tb1 20 rfl rfl⟩
theorem lb_byte : Cond.arrayClass .byte ∈ gtbl := tb1 68 rfl rfl
theorem lb_int : Cond.arrayClass .int ∈ gtbl := tb1 106 rfl rfl
theorem lb_long : Cond.arrayClass .long ∈ gtbl := tb5 32 rfl rfl
theorem lb_boolean : Cond.arrayClass .boolean ∈ gtbl := tb5 33 rfl rfl
def liveL : List (List (Nat × List Nat)) := [[], [(15, [0, 1, 3, 4, 5]), (61, [0, 1, 3, 4, 5]), (67, [4])], [(9, [0, 1, 3, 4]), (54, [0, 1, 3, 4])], [(17, [0, 2, 3, 4, 5, 6, 7]), (43, [0, 2, 3, 4, 5, 6, 7, 8, 9]), (89, [0, 2, 3, 4, 5, 6, 7, 8, 9]), (110, [0, 2, 3, 4, 5, 6, 7, 8, 9])], [], [(2, [0, 1, 3]), (26, [0, 1, 3, 4, 5]), (69, [0, 1, 3, 4, 5])], [(2, [0, 1, 2]), (25, [0, 1, 2, 3, 4]), (66, [0, 1, 2, 3, 4])], [], [], [(34, [0])], [(28, [0, 1])], [(9, [])], [(20, [])], [], [(4, [0, 1, 2])], [(39, [0, 1, 2]), (82, [2])], [], [], [], [], [(45, [0, 1, 2]), (66, [0, 1, 2]), (113, [0, 1]), (140, []), (145, [])], [(112, [0, 1, 2, 3, 4]), (131, [0])], [], [(96, [])], [(47, [0])], [], [(26, []), (31, [])], [(23, []), (24, [])], [(13, [0, 1]), (43, [])], [(2, [0, 1, 2]), (34, [])], [], [], [(22, [0, 1, 2, 3, 4]), (63, [0, 1, 2, 3, 4, 5]), (91, [0, 1, 2, 3, 4])], [(16, []), (17, [])], [(17, [])], [(17, [0, 2]), (160, [0, 2, 3]), (174, [0, 2]), (180, [])], [(23, []), (25, [])], [(4, [0, 1, 3]), (34, [0, 1, 3])], [(4, [0, 1, 2]), (33, [0, 1, 2, 3]), (39, [0, 1, 2])], [(11, [0, 3, 4, 5, 6]), (55, [4]), (77, [7]), (101, [0, 4, 5]), (112, [0, 4, 5]), (134, []), (135, []), (164, [0]), (168, [])], [(41, [3]), (42, [])], [], [], [(4, [0, 1, 2, 3]), (24, [0, 1, 2, 3])], [(4, [0, 1, 2]), (43, [0, 1, 2])], [], [(17, [])], [(3, [0, 1, 2]), (46, [])], [], [(0, [0]), (40, [0]), (126, [])], [(0, [0]), (60, [0]), (79, [])], [(0, [0]), (64, [0]), (82, [])], [], [(14, [0]), (28, [0]), (48, []), (53, [])], [], [], [], [(30, [])], [(30, [])], [(31, [])], [(35, [])], [(31, [])], [(28, [])], [(16, []), (17, [])], [(16, []), (17, [])], [(16, []), (17, [])], [(16, []), (17, [])], [(20, []), (21, [])], [], [(20, [])], [(17, [])], [(21, [])], [(18, [])], [(18, [])], [(27, [])], [(24, [])], [(29, [])], [(31, [0, 1, 2]), (32, [0, 1, 2]), (52, [])], [], [(12, [])], [(4, [0, 1, 2, 3]), (25, [0, 1, 2, 3])], [(4, [0, 1, 2])], [(4, [0, 1, 2, 3]), (32, [0, 1, 2, 3])], [(21, [])], [(4, [0, 1, 2, 3]), (24, [0, 1, 2, 3])], [(4, [0, 1, 2]), (24, [0, 1, 2])], [(2, [0, 1, 2, 3]), (39, [0, 1, 2, 3]), (45, [])], [(28, [0, 1])], [(2, [0, 1, 2]), (26, [0, 1, 2])], [(16, []), (29, [0, 1, 2, 3]), (87, [0, 1, 2, 3]), (129, [0, 1, 2, 3])], [(46, [])], [], [], [(15, []), (69, [2])], [], [], [(21, []), (103, [])], [], [], [], [(58, [])], [], [(29, [0, 2, 3]), (65, [0, 2, 3])], [(58, [])], [(5, [0, 2, 3, 4]), (34, [0, 2, 3, 4])], [(19, []), (59, [])], [(19, []), (67, [])], [(12, []), (17, [])], [(13, []), (14, [])], [(42, [0, 1, 3, 4, 5]), (71, [0, 1, 3, 4, 5])], [(33, [0, 2, 3, 4, 5]), (70, [0, 2, 3, 4, 5])], [(33, [0, 2, 3, 4, 5]), (70, [0, 2, 3, 4, 5])], [], [(10, []), (19, [0, 1, 2, 4]), (47, [0, 1, 2, 4, 5]), (76, [0, 1, 2, 4, 5])], [(22, [])], [(27, [])], [(4, [0, 1, 2]), (49, [0, 1, 2])], [(28, [])], [(72, [])], [(22, [])], [(18, [])], [(28, []), (30, [0, 1, 2, 3, 4])], [(22, [])], [(22, [])], [], [(27, [])], [(25, [])], [(31, [])], [], [], [], [(17, []), (18, [])], [(3, [0, 1, 2])], [], [(22, [])], [(8, [0]), (34, [0]), (138, [0]), (201, [0]), (237, []), (265, [0]), (326, [0]), (361, []), (364, [])], [(24, [0]), (36, [])], [(4, [0, 1, 3])], [(24, []), (25, [])], [(84, []), (85, [])], [(14, [0, 1, 2]), (41, [])], [], [(2, [0, 1, 2])], [(32, []), (37, [])], [(25, [0]), (32, [])], [], [(36, [0])], [], [], [], [(57, [0, 1, 2]), (62, [0, 1, 2]), (79, [0, 1, 2]), (86, []), (121, [0, 1, 2]), (126, [0, 1, 2]), (170, [0])], [(54, [0, 1, 2]), (59, [0, 1, 2]), (76, [0, 1, 2]), (83, [])], [(16, [0, 1, 3]), (52, [0, 1, 3, 4]), (57, [0, 1, 3, 4]), (75, [0, 1, 3, 4]), (82, [])], [(79, [0]), (90, [0, 1]), (130, [0, 1]), (133, [0, 1]), (138, [0, 1]), (214, [0]), (233, [0]), (240, [])], [(2, [0, 1]), (23, [0, 1]), (47, [0, 1]), (68, [0, 1]), (90, [0, 1])], [(58, [0, 2, 3]), (80, [0, 2, 3]), (108, [0, 2, 4]), (139, [0, 2, 4]), (172, [0, 2, 4]), (205, [0, 2, 4])], [], [], [], [], [], [(4, [0, 1, 2, 3]), (37, [0, 1, 3])], [(4, [0, 1, 2, 3]), (31, [0, 1, 3])], [(55, [])], [(26, [])], [(31, [])], [(27, []), (28, [])], [(33, [0, 1, 2, 3]), (34, [0, 1, 2, 3]), (98, [])], [(38, []), (39, [])], [(26, [])], [(23, [])], [(2, [0, 1, 2])], [], [(15, [0, 2]), (114, [0, 2])], [(21, []), (69, [])], [(31, []), (54, [])], [(19, [0, 1, 2, 3]), (51, [0, 1, 3])], [(24, [0, 3, 4, 5]), (54, [0, 3, 5]), (76, [0, 4, 5])], [(21, [0, 1, 2, 3, 4]), (40, [0, 1, 2, 3, 4, 5, 6]), (70, [0, 1, 2, 3, 4, 6]), (98, [0, 1, 2, 3, 4]), (115, [])], [(18, [0, 1, 2, 3]), (41, [0]), (45, []), (57, [1]), (99, [4]), (101, [])], [(11, [0, 2, 4, 5, 6]), (38, [4]), (62, [7])], [], [], [(34, []), (35, [])], [(33, []), (41, [])], [(41, [2]), (54, [])], [(21, []), (28, [0, 1, 2, 3, 4]), (61, [0, 1, 2, 4])], [(32, []), (42, [0, 1, 2, 3, 4, 5]), (59, [0, 1, 2, 3, 4, 5, 6, 7]), (89, [0, 1, 2, 3, 4, 5, 7]), (115, [0, 1, 2, 3, 4, 5]), (131, [])], [(32, []), (39, [0, 1, 2, 3, 4]), (69, [0, 1, 2, 3, 4]), (89, [])], [(25, [0, 1, 2, 3]), (38, [0, 1, 2, 3, 4]), (66, [0, 1, 3, 4])], [(2, [0, 1, 2, 3]), (37, [0, 1, 2, 3])], [(4, [0, 1, 2, 3]), (31, [0, 1, 3])], [], [(4, [1, 2])], [(21, []), (39, [])], [(22, [])], [(9, [0, 1, 2]), (46, [0, 2]), (47, [0, 2])], [(44, []), (57, [0, 1, 2, 3, 4, 5, 6]), (83, [0, 1, 2, 3, 4, 5, 6, 7, 8]), (147, [0, 1, 2, 3, 4, 5, 6, 7, 8]), (191, [])], [(21, []), (25, [0, 1, 2, 4]), (54, [0, 1, 2, 4, 5, 6, 7]), (108, [0, 1, 2, 4, 5, 7]), (109, [0, 1, 2, 4, 5, 7]), (117, [0, 1, 2, 4, 5, 6])], [(17, [0, 1, 2])], [(11, [0, 1]), (49, [0]), (51, [0, 1])], [], [(33, []), (34, [])], [(34, []), (35, [])], [(34, []), (36, [0, 1, 2, 3, 4]), (70, []), (71, []), (86, [])], [(50, []), (51, [])], [(4, [0, 1, 2, 3]), (33, [0, 1, 3])], [(42, []), (61, [0, 2, 3, 4]), (105, [0, 2, 3, 4])], [(30, []), (55, [0, 1, 2, 3, 4]), (99, [0, 1, 2, 4]), (111, [0, 1, 2, 3, 4])], [], [(26, []), (40, [0, 1, 2, 3]), (101, [0, 1, 2, 3]), (110, [0, 1, 2, 3])], [(26, [0, 1])], [(28, []), (30, [0, 1, 2]), (32, [0, 1, 2, 3]), (79, [0, 1, 2, 3]), (104, [])], [(4, [0, 1, 2])], [(4, [0, 1, 2]), (33, [0, 2])], [], [], [(23, [0, 1, 2, 3, 4]), (425, [0, 1, 2, 3, 4]), (1154, [0, 1, 2, 3, 4]), (1190, [0, 1, 2, 3, 4]), (1380, [0, 1, 2, 3, 4]), (1404, [0, 1, 2, 3, 4]), (1437, [0, 1, 2, 3, 4])], [], [], [(5, [0, 1, 2, 3])]]
