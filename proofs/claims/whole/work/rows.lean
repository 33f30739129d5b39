section
-- ===== PART A: goes FIRST, ahead of the names: the tables' words, and 'selects' of the private methods out of them =====
/-- a private method of a class that the tables say can be made, by its rows of tables_1 -/
def lw_okq (q : MethodName × Nat) : Prop := (q.1.cls ≠ "java/lang/invoke/MethodHandle" ∧ q.1.cls ≠ "java/lang/invoke/VarHandle") ∧ Cond.instantiable q.1.cls q.2 ∈ tables_1 ∧ Cond.privateMethod q.1 ∈ tables_1 ∧ Cond.instanceMethod q.1 ∈ tables_1
theorem lw_p0 : lw_okq (⟨"RenvoiDesk$Tape", "readWord", "()V"⟩, 7) := ⟨⟨by decide +kernel, by decide +kernel⟩, List.mem_of_getElem? (i := 37) (by decide +kernel), List.mem_of_getElem? (i := 342) (by decide +kernel), List.mem_of_getElem? (i := 343) (by decide +kernel)⟩
theorem lw_p1 : lw_okq (⟨"RenvoiDesk$Tape", "readNumber", "()V"⟩, 7) := ⟨⟨by decide +kernel, by decide +kernel⟩, List.mem_of_getElem? (i := 37) (by decide +kernel), List.mem_of_getElem? (i := 347) (by decide +kernel), List.mem_of_getElem? (i := 348) (by decide +kernel)⟩
theorem lw_p2 : lw_okq (⟨"RenvoiDesk$Reader", "readLine", "()Z"⟩, 9) := ⟨⟨by decide +kernel, by decide +kernel⟩, List.mem_of_getElem? (i := 31) (by decide +kernel), List.mem_of_getElem? (i := 351) (by decide +kernel), List.mem_of_getElem? (i := 352) (by decide +kernel)⟩
theorem lw_p3 : lw_okq (⟨"RenvoiDesk$Reader", "keyword", "()I"⟩, 9) := ⟨⟨by decide +kernel, by decide +kernel⟩, List.mem_of_getElem? (i := 31) (by decide +kernel), List.mem_of_getElem? (i := 355) (by decide +kernel), List.mem_of_getElem? (i := 356) (by decide +kernel)⟩
theorem lw_p4 : lw_okq (⟨"RenvoiDesk$Reader", "readLand", "()Z"⟩, 9) := ⟨⟨by decide +kernel, by decide +kernel⟩, List.mem_of_getElem? (i := 31) (by decide +kernel), List.mem_of_getElem? (i := 359) (by decide +kernel), List.mem_of_getElem? (i := 360) (by decide +kernel)⟩
theorem lw_p5 : lw_okq (⟨"RenvoiDesk$Reader", "wrong", "(I)Z"⟩, 9) := ⟨⟨by decide +kernel, by decide +kernel⟩, List.mem_of_getElem? (i := 31) (by decide +kernel), List.mem_of_getElem? (i := 363) (by decide +kernel), List.mem_of_getElem? (i := 364) (by decide +kernel)⟩
theorem lw_p6 : lw_okq (⟨"RenvoiDesk$Reader", "giveName", "(II)Z"⟩, 9) := ⟨⟨by decide +kernel, by decide +kernel⟩, List.mem_of_getElem? (i := 31) (by decide +kernel), List.mem_of_getElem? (i := 367) (by decide +kernel), List.mem_of_getElem? (i := 368) (by decide +kernel)⟩
theorem lw_p7 : lw_okq (⟨"RenvoiDesk$Reader", "isName", "()Z"⟩, 9) := ⟨⟨by decide +kernel, by decide +kernel⟩, List.mem_of_getElem? (i := 31) (by decide +kernel), List.mem_of_getElem? (i := 371) (by decide +kernel), List.mem_of_getElem? (i := 372) (by decide +kernel)⟩
theorem lw_p8 : lw_okq (⟨"RenvoiDesk$Reader", "find", "(I)I"⟩, 9) := ⟨⟨by decide +kernel, by decide +kernel⟩, List.mem_of_getElem? (i := 31) (by decide +kernel), List.mem_of_getElem? (i := 375) (by decide +kernel), List.mem_of_getElem? (i := 376) (by decide +kernel)⟩
theorem lw_p9 : lw_okq (⟨"RenvoiDesk$Reader", "takeNumber", "(I)I"⟩, 9) := ⟨⟨by decide +kernel, by decide +kernel⟩, List.mem_of_getElem? (i := 31) (by decide +kernel), List.mem_of_getElem? (i := 379) (by decide +kernel), List.mem_of_getElem? (i := 380) (by decide +kernel)⟩
theorem lw_p10 : lw_okq (⟨"RenvoiDesk$Reader", "takeStop", "()Z"⟩, 9) := ⟨⟨by decide +kernel, by decide +kernel⟩, List.mem_of_getElem? (i := 31) (by decide +kernel), List.mem_of_getElem? (i := 387) (by decide +kernel), List.mem_of_getElem? (i := 388) (by decide +kernel)⟩
theorem lw_p11 : lw_okq (⟨"RenvoiDesk$Reader", "readIssue", "()Z"⟩, 9) := ⟨⟨by decide +kernel, by decide +kernel⟩, List.mem_of_getElem? (i := 31) (by decide +kernel), List.mem_of_getElem? (i := 391) (by decide +kernel), List.mem_of_getElem? (i := 392) (by decide +kernel)⟩
theorem lw_p12 : lw_okq (⟨"RenvoiDesk$Reader", "readFact", "()Z"⟩, 9) := ⟨⟨by decide +kernel, by decide +kernel⟩, List.mem_of_getElem? (i := 31) (by decide +kernel), List.mem_of_getElem? (i := 399) (by decide +kernel), List.mem_of_getElem? (i := 400) (by decide +kernel)⟩
theorem lw_p13 : lw_okq (⟨"RenvoiDesk$Reader", "numberOf", "(I)I"⟩, 9) := ⟨⟨by decide +kernel, by decide +kernel⟩, List.mem_of_getElem? (i := 31) (by decide +kernel), List.mem_of_getElem? (i := 403) (by decide +kernel), List.mem_of_getElem? (i := 404) (by decide +kernel)⟩
theorem lw_p14 : lw_okq (⟨"RenvoiDesk$Reader", "readDeed", "()Z"⟩, 9) := ⟨⟨by decide +kernel, by decide +kernel⟩, List.mem_of_getElem? (i := 31) (by decide +kernel), List.mem_of_getElem? (i := 411) (by decide +kernel), List.mem_of_getElem? (i := 412) (by decide +kernel)⟩
theorem lw_p15 : lw_okq (⟨"RenvoiDesk$Reader", "readRule", "()Z"⟩, 9) := ⟨⟨by decide +kernel, by decide +kernel⟩, List.mem_of_getElem? (i := 31) (by decide +kernel), List.mem_of_getElem? (i := 419) (by decide +kernel), List.mem_of_getElem? (i := 420) (by decide +kernel)⟩
def lw_privs_1 : List (MethodName × Nat) := [(⟨"RenvoiDesk$Tape", "readWord", "()V"⟩, 7), (⟨"RenvoiDesk$Tape", "readNumber", "()V"⟩, 7), (⟨"RenvoiDesk$Reader", "readLine", "()Z"⟩, 9), (⟨"RenvoiDesk$Reader", "keyword", "()I"⟩, 9), (⟨"RenvoiDesk$Reader", "readLand", "()Z"⟩, 9), (⟨"RenvoiDesk$Reader", "wrong", "(I)Z"⟩, 9), (⟨"RenvoiDesk$Reader", "giveName", "(II)Z"⟩, 9), (⟨"RenvoiDesk$Reader", "isName", "()Z"⟩, 9), (⟨"RenvoiDesk$Reader", "find", "(I)I"⟩, 9), (⟨"RenvoiDesk$Reader", "takeNumber", "(I)I"⟩, 9), (⟨"RenvoiDesk$Reader", "takeStop", "()Z"⟩, 9), (⟨"RenvoiDesk$Reader", "readIssue", "()Z"⟩, 9), (⟨"RenvoiDesk$Reader", "readFact", "()Z"⟩, 9), (⟨"RenvoiDesk$Reader", "numberOf", "(I)I"⟩, 9), (⟨"RenvoiDesk$Reader", "readDeed", "()Z"⟩, 9), (⟨"RenvoiDesk$Reader", "readRule", "()Z"⟩, 9)]
theorem lw_r1 : ∀ q ∈ lw_privs_1, lw_okq q := List.forall_mem_cons.mpr ⟨lw_p0, List.forall_mem_cons.mpr ⟨lw_p1, List.forall_mem_cons.mpr ⟨lw_p2, List.forall_mem_cons.mpr ⟨lw_p3, List.forall_mem_cons.mpr ⟨lw_p4, List.forall_mem_cons.mpr ⟨lw_p5, List.forall_mem_cons.mpr ⟨lw_p6, List.forall_mem_cons.mpr ⟨lw_p7, List.forall_mem_cons.mpr ⟨lw_p8, List.forall_mem_cons.mpr ⟨lw_p9, List.forall_mem_cons.mpr ⟨lw_p10, List.forall_mem_cons.mpr ⟨lw_p11, List.forall_mem_cons.mpr ⟨lw_p12, List.forall_mem_cons.mpr ⟨lw_p13, List.forall_mem_cons.mpr ⟨lw_p14, List.forall_mem_cons.mpr ⟨lw_p15, fun _ h => absurd h List.not_mem_nil⟩⟩⟩⟩⟩⟩⟩⟩⟩⟩⟩⟩⟩⟩⟩⟩
theorem lw_p16 : lw_okq (⟨"RenvoiDesk$Reader", "readLaw", "()Z"⟩, 9) := ⟨⟨by decide +kernel, by decide +kernel⟩, List.mem_of_getElem? (i := 31) (by decide +kernel), List.mem_of_getElem? (i := 443) (by decide +kernel), List.mem_of_getElem? (i := 444) (by decide +kernel)⟩
theorem lw_p17 : lw_okq (⟨"RenvoiDesk$Roads", "goesOn", "(I)Z"⟩, 9) := ⟨⟨by decide +kernel, by decide +kernel⟩, List.mem_of_getElem? (i := 200) (by decide +kernel), List.mem_of_getElem? (i := 541) (by decide +kernel), List.mem_of_getElem? (i := 542) (by decide +kernel)⟩
theorem lw_p18 : lw_okq (⟨"RenvoiDesk$Roads", "loopLands", "()I"⟩, 9) := ⟨⟨by decide +kernel, by decide +kernel⟩, List.mem_of_getElem? (i := 200) (by decide +kernel), List.mem_of_getElem? (i := 567) (by decide +kernel), List.mem_of_getElem? (i := 568) (by decide +kernel)⟩
theorem lw_p19 : lw_okq (⟨"RenvoiDesk$Roads", "comesNear", "(IZ)I"⟩, 9) := ⟨⟨by decide +kernel, by decide +kernel⟩, List.mem_of_getElem? (i := 200) (by decide +kernel), List.mem_of_getElem? (i := 598) (by decide +kernel), List.mem_of_getElem? (i := 599) (by decide +kernel)⟩
theorem lw_p20 : lw_okq (⟨"RenvoiDesk$Told", "firstOther", "(I)I"⟩, 6) := ⟨⟨by decide +kernel, by decide +kernel⟩, List.mem_of_getElem? (i := 70) (by decide +kernel), List.mem_of_getElem? (i := 767) (by decide +kernel), List.mem_of_getElem? (i := 768) (by decide +kernel)⟩
theorem lw_p21 : lw_okq (⟨"RenvoiDesk$Told", "swapCells", "(II)V"⟩, 6) := ⟨⟨by decide +kernel, by decide +kernel⟩, List.mem_of_getElem? (i := 70) (by decide +kernel), List.mem_of_getElem? (i := 780) (by decide +kernel), List.mem_of_getElem? (i := 781) (by decide +kernel)⟩
theorem lw_p22 : lw_okq (⟨"java/lang/Throwable", "fillInStackTrace", "(I)Ljava/lang/Throwable;"⟩, 6) := ⟨⟨by decide +kernel, by decide +kernel⟩, List.mem_of_getElem? (i := 867) (by decide +kernel), List.mem_of_getElem? (i := 865) (by decide +kernel), List.mem_of_getElem? (i := 866) (by decide +kernel)⟩
theorem lw_p23 : lw_okq (⟨"RenvoiDeskModel", "puts", "(I)V"⟩, 29) := ⟨⟨by decide +kernel, by decide +kernel⟩, List.mem_of_getElem? (i := 899) (by decide +kernel), List.mem_of_getElem? (i := 1003) (by decide +kernel), List.mem_of_getElem? (i := 1004) (by decide +kernel)⟩
theorem lw_p24 : lw_okq (⟨"RenvoiDeskModel", "beginsReading", "()V"⟩, 29) := ⟨⟨by decide +kernel, by decide +kernel⟩, List.mem_of_getElem? (i := 899) (by decide +kernel), List.mem_of_getElem? (i := 1014) (by decide +kernel), List.mem_of_getElem? (i := 1015) (by decide +kernel)⟩
theorem lw_p25 : lw_okq (⟨"RenvoiDeskModel", "steps", "()V"⟩, 29) := ⟨⟨by decide +kernel, by decide +kernel⟩, List.mem_of_getElem? (i := 899) (by decide +kernel), List.mem_of_getElem? (i := 1018) (by decide +kernel), List.mem_of_getElem? (i := 1019) (by decide +kernel)⟩
theorem lw_p26 : lw_okq (⟨"RenvoiDeskModel", "see", "(I)I"⟩, 29) := ⟨⟨by decide +kernel, by decide +kernel⟩, List.mem_of_getElem? (i := 899) (by decide +kernel), List.mem_of_getElem? (i := 1022) (by decide +kernel), List.mem_of_getElem? (i := 1023) (by decide +kernel)⟩
theorem lw_p27 : lw_okq (⟨"RenvoiDeskModel", "lineHere", "()Z"⟩, 29) := ⟨⟨by decide +kernel, by decide +kernel⟩, List.mem_of_getElem? (i := 899) (by decide +kernel), List.mem_of_getElem? (i := 1031) (by decide +kernel), List.mem_of_getElem? (i := 1032) (by decide +kernel)⟩
theorem lw_p28 : lw_okq (⟨"RenvoiDeskModel", "is", "(Ljava/lang/String;)Z"⟩, 29) := ⟨⟨by decide +kernel, by decide +kernel⟩, List.mem_of_getElem? (i := 899) (by decide +kernel), List.mem_of_getElem? (i := 1036) (by decide +kernel), List.mem_of_getElem? (i := 1037) (by decide +kernel)⟩
theorem lw_p29 : lw_okq (⟨"RenvoiDeskModel", "must", "(ZI)Z"⟩, 29) := ⟨⟨by decide +kernel, by decide +kernel⟩, List.mem_of_getElem? (i := 899) (by decide +kernel), List.mem_of_getElem? (i := 1050) (by decide +kernel), List.mem_of_getElem? (i := 1051) (by decide +kernel)⟩
theorem lw_p30 : lw_okq (⟨"RenvoiDeskModel", "manyOf", "(I)I"⟩, 29) := ⟨⟨by decide +kernel, by decide +kernel⟩, List.mem_of_getElem? (i := 899) (by decide +kernel), List.mem_of_getElem? (i := 1054) (by decide +kernel), List.mem_of_getElem? (i := 1055) (by decide +kernel)⟩
theorem lw_p31 : lw_okq (⟨"RenvoiDeskModel", "landLine", "()Z"⟩, 29) := ⟨⟨by decide +kernel, by decide +kernel⟩, List.mem_of_getElem? (i := 899) (by decide +kernel), List.mem_of_getElem? (i := 1058) (by decide +kernel), List.mem_of_getElem? (i := 1059) (by decide +kernel)⟩
def lw_privs_2 : List (MethodName × Nat) := [(⟨"RenvoiDesk$Reader", "readLaw", "()Z"⟩, 9), (⟨"RenvoiDesk$Roads", "goesOn", "(I)Z"⟩, 9), (⟨"RenvoiDesk$Roads", "loopLands", "()I"⟩, 9), (⟨"RenvoiDesk$Roads", "comesNear", "(IZ)I"⟩, 9), (⟨"RenvoiDesk$Told", "firstOther", "(I)I"⟩, 6), (⟨"RenvoiDesk$Told", "swapCells", "(II)V"⟩, 6), (⟨"java/lang/Throwable", "fillInStackTrace", "(I)Ljava/lang/Throwable;"⟩, 6), (⟨"RenvoiDeskModel", "puts", "(I)V"⟩, 29), (⟨"RenvoiDeskModel", "beginsReading", "()V"⟩, 29), (⟨"RenvoiDeskModel", "steps", "()V"⟩, 29), (⟨"RenvoiDeskModel", "see", "(I)I"⟩, 29), (⟨"RenvoiDeskModel", "lineHere", "()Z"⟩, 29), (⟨"RenvoiDeskModel", "is", "(Ljava/lang/String;)Z"⟩, 29), (⟨"RenvoiDeskModel", "must", "(ZI)Z"⟩, 29), (⟨"RenvoiDeskModel", "manyOf", "(I)I"⟩, 29), (⟨"RenvoiDeskModel", "landLine", "()Z"⟩, 29)]
theorem lw_r2 : ∀ q ∈ lw_privs_2, lw_okq q := List.forall_mem_cons.mpr ⟨lw_p16, List.forall_mem_cons.mpr ⟨lw_p17, List.forall_mem_cons.mpr ⟨lw_p18, List.forall_mem_cons.mpr ⟨lw_p19, List.forall_mem_cons.mpr ⟨lw_p20, List.forall_mem_cons.mpr ⟨lw_p21, List.forall_mem_cons.mpr ⟨lw_p22, List.forall_mem_cons.mpr ⟨lw_p23, List.forall_mem_cons.mpr ⟨lw_p24, List.forall_mem_cons.mpr ⟨lw_p25, List.forall_mem_cons.mpr ⟨lw_p26, List.forall_mem_cons.mpr ⟨lw_p27, List.forall_mem_cons.mpr ⟨lw_p28, List.forall_mem_cons.mpr ⟨lw_p29, List.forall_mem_cons.mpr ⟨lw_p30, List.forall_mem_cons.mpr ⟨lw_p31, fun _ h => absurd h List.not_mem_nil⟩⟩⟩⟩⟩⟩⟩⟩⟩⟩⟩⟩⟩⟩⟩⟩
theorem lw_p32 : lw_okq (⟨"RenvoiDeskModel", "newName", "()Z"⟩, 29) := ⟨⟨by decide +kernel, by decide +kernel⟩, List.mem_of_getElem? (i := 899) (by decide +kernel), List.mem_of_getElem? (i := 1062) (by decide +kernel), List.mem_of_getElem? (i := 1063) (by decide +kernel)⟩
theorem lw_p33 : lw_okq (⟨"RenvoiDeskModel", "isName", "()Z"⟩, 29) := ⟨⟨by decide +kernel, by decide +kernel⟩, List.mem_of_getElem? (i := 899) (by decide +kernel), List.mem_of_getElem? (i := 1066) (by decide +kernel), List.mem_of_getElem? (i := 1067) (by decide +kernel)⟩
theorem lw_p34 : lw_okq (⟨"RenvoiDeskModel", "isNamed", "()Z"⟩, 29) := ⟨⟨by decide +kernel, by decide +kernel⟩, List.mem_of_getElem? (i := 899) (by decide +kernel), List.mem_of_getElem? (i := 1072) (by decide +kernel), List.mem_of_getElem? (i := 1073) (by decide +kernel)⟩
theorem lw_p35 : lw_okq (⟨"RenvoiDeskModel", "named", "(I)I"⟩, 29) := ⟨⟨by decide +kernel, by decide +kernel⟩, List.mem_of_getElem? (i := 899) (by decide +kernel), List.mem_of_getElem? (i := 1076) (by decide +kernel), List.mem_of_getElem? (i := 1077) (by decide +kernel)⟩
theorem lw_p36 : lw_okq (⟨"RenvoiDeskModel", "takesNumber", "(II)Z"⟩, 29) := ⟨⟨by decide +kernel, by decide +kernel⟩, List.mem_of_getElem? (i := 899) (by decide +kernel), List.mem_of_getElem? (i := 1080) (by decide +kernel), List.mem_of_getElem? (i := 1081) (by decide +kernel)⟩
theorem lw_p37 : lw_okq (⟨"RenvoiDeskModel", "adds", "(IJ)V"⟩, 29) := ⟨⟨by decide +kernel, by decide +kernel⟩, List.mem_of_getElem? (i := 899) (by decide +kernel), List.mem_of_getElem? (i := 1084) (by decide +kernel), List.mem_of_getElem? (i := 1085) (by decide +kernel)⟩
theorem lw_p38 : lw_okq (⟨"RenvoiDeskModel", "issueLine", "()Z"⟩, 29) := ⟨⟨by decide +kernel, by decide +kernel⟩, List.mem_of_getElem? (i := 899) (by decide +kernel), List.mem_of_getElem? (i := 1088) (by decide +kernel), List.mem_of_getElem? (i := 1089) (by decide +kernel)⟩
theorem lw_p39 : lw_okq (⟨"RenvoiDeskModel", "factLine", "()Z"⟩, 29) := ⟨⟨by decide +kernel, by decide +kernel⟩, List.mem_of_getElem? (i := 899) (by decide +kernel), List.mem_of_getElem? (i := 1092) (by decide +kernel), List.mem_of_getElem? (i := 1093) (by decide +kernel)⟩
theorem lw_p40 : lw_okq (⟨"RenvoiDeskModel", "takes", "(I)Z"⟩, 29) := ⟨⟨by decide +kernel, by decide +kernel⟩, List.mem_of_getElem? (i := 899) (by decide +kernel), List.mem_of_getElem? (i := 1096) (by decide +kernel), List.mem_of_getElem? (i := 1097) (by decide +kernel)⟩
theorem lw_p41 : lw_okq (⟨"RenvoiDeskModel", "deedLine", "()Z"⟩, 29) := ⟨⟨by decide +kernel, by decide +kernel⟩, List.mem_of_getElem? (i := 899) (by decide +kernel), List.mem_of_getElem? (i := 1100) (by decide +kernel), List.mem_of_getElem? (i := 1101) (by decide +kernel)⟩
theorem lw_p42 : lw_okq (⟨"RenvoiDeskModel", "ruleLine", "()Z"⟩, 29) := ⟨⟨by decide +kernel, by decide +kernel⟩, List.mem_of_getElem? (i := 899) (by decide +kernel), List.mem_of_getElem? (i := 1104) (by decide +kernel), List.mem_of_getElem? (i := 1105) (by decide +kernel)⟩
theorem lw_p43 : lw_okq (⟨"RenvoiDeskModel", "lawLine", "()Z"⟩, 29) := ⟨⟨by decide +kernel, by decide +kernel⟩, List.mem_of_getElem? (i := 899) (by decide +kernel), List.mem_of_getElem? (i := 1108) (by decide +kernel), List.mem_of_getElem? (i := 1109) (by decide +kernel)⟩
theorem lw_p44 : lw_okq (⟨"RenvoiDeskModel", "isLand", "(I)Z"⟩, 29) := ⟨⟨by decide +kernel, by decide +kernel⟩, List.mem_of_getElem? (i := 899) (by decide +kernel), List.mem_of_getElem? (i := 1116) (by decide +kernel), List.mem_of_getElem? (i := 1117) (by decide +kernel)⟩
theorem lw_p45 : lw_okq (⟨"RenvoiDeskModel", "rulesOf", "(I)I"⟩, 29) := ⟨⟨by decide +kernel, by decide +kernel⟩, List.mem_of_getElem? (i := 899) (by decide +kernel), List.mem_of_getElem? (i := 1120) (by decide +kernel), List.mem_of_getElem? (i := 1121) (by decide +kernel)⟩
theorem lw_p46 : lw_okq (⟨"RenvoiDeskModel", "ruledBy", "(I)I"⟩, 29) := ⟨⟨by decide +kernel, by decide +kernel⟩, List.mem_of_getElem? (i := 899) (by decide +kernel), List.mem_of_getElem? (i := 1124) (by decide +kernel), List.mem_of_getElem? (i := 1125) (by decide +kernel)⟩
theorem lw_p47 : lw_okq (⟨"RenvoiDeskModel", "ruleOf", "(II)I"⟩, 29) := ⟨⟨by decide +kernel, by decide +kernel⟩, List.mem_of_getElem? (i := 899) (by decide +kernel), List.mem_of_getElem? (i := 1128) (by decide +kernel), List.mem_of_getElem? (i := 1129) (by decide +kernel)⟩
def lw_privs_3 : List (MethodName × Nat) := [(⟨"RenvoiDeskModel", "newName", "()Z"⟩, 29), (⟨"RenvoiDeskModel", "isName", "()Z"⟩, 29), (⟨"RenvoiDeskModel", "isNamed", "()Z"⟩, 29), (⟨"RenvoiDeskModel", "named", "(I)I"⟩, 29), (⟨"RenvoiDeskModel", "takesNumber", "(II)Z"⟩, 29), (⟨"RenvoiDeskModel", "adds", "(IJ)V"⟩, 29), (⟨"RenvoiDeskModel", "issueLine", "()Z"⟩, 29), (⟨"RenvoiDeskModel", "factLine", "()Z"⟩, 29), (⟨"RenvoiDeskModel", "takes", "(I)Z"⟩, 29), (⟨"RenvoiDeskModel", "deedLine", "()Z"⟩, 29), (⟨"RenvoiDeskModel", "ruleLine", "()Z"⟩, 29), (⟨"RenvoiDeskModel", "lawLine", "()Z"⟩, 29), (⟨"RenvoiDeskModel", "isLand", "(I)Z"⟩, 29), (⟨"RenvoiDeskModel", "rulesOf", "(I)I"⟩, 29), (⟨"RenvoiDeskModel", "ruledBy", "(I)I"⟩, 29), (⟨"RenvoiDeskModel", "ruleOf", "(II)I"⟩, 29)]
theorem lw_r3 : ∀ q ∈ lw_privs_3, lw_okq q := List.forall_mem_cons.mpr ⟨lw_p32, List.forall_mem_cons.mpr ⟨lw_p33, List.forall_mem_cons.mpr ⟨lw_p34, List.forall_mem_cons.mpr ⟨lw_p35, List.forall_mem_cons.mpr ⟨lw_p36, List.forall_mem_cons.mpr ⟨lw_p37, List.forall_mem_cons.mpr ⟨lw_p38, List.forall_mem_cons.mpr ⟨lw_p39, List.forall_mem_cons.mpr ⟨lw_p40, List.forall_mem_cons.mpr ⟨lw_p41, List.forall_mem_cons.mpr ⟨lw_p42, List.forall_mem_cons.mpr ⟨lw_p43, List.forall_mem_cons.mpr ⟨lw_p44, List.forall_mem_cons.mpr ⟨lw_p45, List.forall_mem_cons.mpr ⟨lw_p46, List.forall_mem_cons.mpr ⟨lw_p47, fun _ h => absurd h List.not_mem_nil⟩⟩⟩⟩⟩⟩⟩⟩⟩⟩⟩⟩⟩⟩⟩⟩
theorem lw_p48 : lw_okq (⟨"RenvoiDeskModel", "isFact", "(I)Z"⟩, 29) := ⟨⟨by decide +kernel, by decide +kernel⟩, List.mem_of_getElem? (i := 899) (by decide +kernel), List.mem_of_getElem? (i := 1136) (by decide +kernel), List.mem_of_getElem? (i := 1137) (by decide +kernel)⟩
theorem lw_p49 : lw_okq (⟨"RenvoiDeskModel", "isIssue", "(I)Z"⟩, 29) := ⟨⟨by decide +kernel, by decide +kernel⟩, List.mem_of_getElem? (i := 899) (by decide +kernel), List.mem_of_getElem? (i := 1144) (by decide +kernel), List.mem_of_getElem? (i := 1145) (by decide +kernel)⟩
theorem lw_p50 : lw_okq (⟨"RenvoiDeskModel", "pointsTo", "(II)I"⟩, 29) := ⟨⟨by decide +kernel, by decide +kernel⟩, List.mem_of_getElem? (i := 899) (by decide +kernel), List.mem_of_getElem? (i := 1149) (by decide +kernel), List.mem_of_getElem? (i := 1150) (by decide +kernel)⟩
theorem lw_p51 : lw_okq (⟨"RenvoiDeskModel", "isDeed", "(I)Z"⟩, 29) := ⟨⟨by decide +kernel, by decide +kernel⟩, List.mem_of_getElem? (i := 899) (by decide +kernel), List.mem_of_getElem? (i := 1165) (by decide +kernel), List.mem_of_getElem? (i := 1166) (by decide +kernel)⟩
theorem lw_p52 : lw_okq (⟨"RenvoiDeskModel", "laysRoad", "(II)V"⟩, 29) := ⟨⟨by decide +kernel, by decide +kernel⟩, List.mem_of_getElem? (i := 899) (by decide +kernel), List.mem_of_getElem? (i := 1173) (by decide +kernel), List.mem_of_getElem? (i := 1174) (by decide +kernel)⟩
theorem lw_p53 : lw_okq (⟨"RenvoiDeskModel", "comesTo", "(I)V"⟩, 29) := ⟨⟨by decide +kernel, by decide +kernel⟩, List.mem_of_getElem? (i := 899) (by decide +kernel), List.mem_of_getElem? (i := 1177) (by decide +kernel), List.mem_of_getElem? (i := 1178) (by decide +kernel)⟩
theorem lw_p54 : lw_okq (⟨"RenvoiDeskModel", "isWhole", "(II)Z"⟩, 29) := ⟨⟨by decide +kernel, by decide +kernel⟩, List.mem_of_getElem? (i := 899) (by decide +kernel), List.mem_of_getElem? (i := 1181) (by decide +kernel), List.mem_of_getElem? (i := 1182) (by decide +kernel)⟩
theorem lw_p55 : lw_okq (⟨"RenvoiDeskModel", "wasThere", "(I)Z"⟩, 29) := ⟨⟨by decide +kernel, by decide +kernel⟩, List.mem_of_getElem? (i := 899) (by decide +kernel), List.mem_of_getElem? (i := 1185) (by decide +kernel), List.mem_of_getElem? (i := 1186) (by decide +kernel)⟩
theorem lw_p56 : lw_okq (⟨"RenvoiDeskModel", "loopOf", "(II)I"⟩, 29) := ⟨⟨by decide +kernel, by decide +kernel⟩, List.mem_of_getElem? (i := 899) (by decide +kernel), List.mem_of_getElem? (i := 1201) (by decide +kernel), List.mem_of_getElem? (i := 1202) (by decide +kernel)⟩
theorem lw_p57 : lw_okq (⟨"RenvoiDeskModel", "areSo", "(III)Z"⟩, 29) := ⟨⟨by decide +kernel, by decide +kernel⟩, List.mem_of_getElem? (i := 899) (by decide +kernel), List.mem_of_getElem? (i := 1209) (by decide +kernel), List.mem_of_getElem? (i := 1210) (by decide +kernel)⟩
theorem lw_p58 : lw_okq (⟨"RenvoiDeskModel", "comesBy", "(III)I"⟩, 29) := ⟨⟨by decide +kernel, by decide +kernel⟩, List.mem_of_getElem? (i := 899) (by decide +kernel), List.mem_of_getElem? (i := 1215) (by decide +kernel), List.mem_of_getElem? (i := 1216) (by decide +kernel)⟩
theorem lw_p59 : lw_okq (⟨"RenvoiDeskModel", "plainly", "(III)I"⟩, 29) := ⟨⟨by decide +kernel, by decide +kernel⟩, List.mem_of_getElem? (i := 899) (by decide +kernel), List.mem_of_getElem? (i := 1219) (by decide +kernel), List.mem_of_getElem? (i := 1220) (by decide +kernel)⟩
theorem lw_p60 : lw_okq (⟨"RenvoiDeskModel", "ownLand", "(II)I"⟩, 29) := ⟨⟨by decide +kernel, by decide +kernel⟩, List.mem_of_getElem? (i := 899) (by decide +kernel), List.mem_of_getElem? (i := 1235) (by decide +kernel), List.mem_of_getElem? (i := 1236) (by decide +kernel)⟩
theorem lw_p61 : lw_okq (⟨"RenvoiDeskModel", "ownAnswer", "(II)I"⟩, 29) := ⟨⟨by decide +kernel, by decide +kernel⟩, List.mem_of_getElem? (i := 899) (by decide +kernel), List.mem_of_getElem? (i := 1243) (by decide +kernel), List.mem_of_getElem? (i := 1244) (by decide +kernel)⟩
theorem lw_p62 : lw_okq (⟨"RenvoiDeskModel", "standsIn", "(II)Z"⟩, 29) := ⟨⟨by decide +kernel, by decide +kernel⟩, List.mem_of_getElem? (i := 899) (by decide +kernel), List.mem_of_getElem? (i := 1256) (by decide +kernel), List.mem_of_getElem? (i := 1257) (by decide +kernel)⟩
theorem lw_p63 : lw_okq (⟨"RenvoiDeskModel", "whereOf", "(I)I"⟩, 29) := ⟨⟨by decide +kernel, by decide +kernel⟩, List.mem_of_getElem? (i := 899) (by decide +kernel), List.mem_of_getElem? (i := 1264) (by decide +kernel), List.mem_of_getElem? (i := 1265) (by decide +kernel)⟩
def lw_privs_4 : List (MethodName × Nat) := [(⟨"RenvoiDeskModel", "isFact", "(I)Z"⟩, 29), (⟨"RenvoiDeskModel", "isIssue", "(I)Z"⟩, 29), (⟨"RenvoiDeskModel", "pointsTo", "(II)I"⟩, 29), (⟨"RenvoiDeskModel", "isDeed", "(I)Z"⟩, 29), (⟨"RenvoiDeskModel", "laysRoad", "(II)V"⟩, 29), (⟨"RenvoiDeskModel", "comesTo", "(I)V"⟩, 29), (⟨"RenvoiDeskModel", "isWhole", "(II)Z"⟩, 29), (⟨"RenvoiDeskModel", "wasThere", "(I)Z"⟩, 29), (⟨"RenvoiDeskModel", "loopOf", "(II)I"⟩, 29), (⟨"RenvoiDeskModel", "areSo", "(III)Z"⟩, 29), (⟨"RenvoiDeskModel", "comesBy", "(III)I"⟩, 29), (⟨"RenvoiDeskModel", "plainly", "(III)I"⟩, 29), (⟨"RenvoiDeskModel", "ownLand", "(II)I"⟩, 29), (⟨"RenvoiDeskModel", "ownAnswer", "(II)I"⟩, 29), (⟨"RenvoiDeskModel", "standsIn", "(II)Z"⟩, 29), (⟨"RenvoiDeskModel", "whereOf", "(I)I"⟩, 29)]
theorem lw_r4 : ∀ q ∈ lw_privs_4, lw_okq q := List.forall_mem_cons.mpr ⟨lw_p48, List.forall_mem_cons.mpr ⟨lw_p49, List.forall_mem_cons.mpr ⟨lw_p50, List.forall_mem_cons.mpr ⟨lw_p51, List.forall_mem_cons.mpr ⟨lw_p52, List.forall_mem_cons.mpr ⟨lw_p53, List.forall_mem_cons.mpr ⟨lw_p54, List.forall_mem_cons.mpr ⟨lw_p55, List.forall_mem_cons.mpr ⟨lw_p56, List.forall_mem_cons.mpr ⟨lw_p57, List.forall_mem_cons.mpr ⟨lw_p58, List.forall_mem_cons.mpr ⟨lw_p59, List.forall_mem_cons.mpr ⟨lw_p60, List.forall_mem_cons.mpr ⟨lw_p61, List.forall_mem_cons.mpr ⟨lw_p62, List.forall_mem_cons.mpr ⟨lw_p63, fun _ h => absurd h List.not_mem_nil⟩⟩⟩⟩⟩⟩⟩⟩⟩⟩⟩⟩⟩⟩⟩⟩
theorem lw_p64 : lw_okq (⟨"RenvoiDeskModel", "allLands", "()I"⟩, 29) := ⟨⟨by decide +kernel, by decide +kernel⟩, List.mem_of_getElem? (i := 899) (by decide +kernel), List.mem_of_getElem? (i := 1272) (by decide +kernel), List.mem_of_getElem? (i := 1273) (by decide +kernel)⟩
theorem lw_p65 : lw_okq (⟨"RenvoiDeskModel", "canBe", "(III)Z"⟩, 29) := ⟨⟨by decide +kernel, by decide +kernel⟩, List.mem_of_getElem? (i := 899) (by decide +kernel), List.mem_of_getElem? (i := 1287) (by decide +kernel), List.mem_of_getElem? (i := 1288) (by decide +kernel)⟩
theorem lw_p66 : lw_okq (⟨"RenvoiDeskModel", "becomes", "(II)I"⟩, 29) := ⟨⟨by decide +kernel, by decide +kernel⟩, List.mem_of_getElem? (i := 899) (by decide +kernel), List.mem_of_getElem? (i := 1295) (by decide +kernel), List.mem_of_getElem? (i := 1296) (by decide +kernel)⟩
theorem lw_p67 : lw_okq (⟨"RenvoiDeskModel", "keeps", "()V"⟩, 29) := ⟨⟨by decide +kernel, by decide +kernel⟩, List.mem_of_getElem? (i := 899) (by decide +kernel), List.mem_of_getElem? (i := 1299) (by decide +kernel), List.mem_of_getElem? (i := 1300) (by decide +kernel)⟩
theorem lw_p68 : lw_okq (⟨"RenvoiDeskModel", "headedBy", "(I)I"⟩, 29) := ⟨⟨by decide +kernel, by decide +kernel⟩, List.mem_of_getElem? (i := 899) (by decide +kernel), List.mem_of_getElem? (i := 1319) (by decide +kernel), List.mem_of_getElem? (i := 1320) (by decide +kernel)⟩
theorem lw_p69 : lw_okq (⟨"RenvoiDeskModel", "trades", "(II)V"⟩, 29) := ⟨⟨by decide +kernel, by decide +kernel⟩, List.mem_of_getElem? (i := 899) (by decide +kernel), List.mem_of_getElem? (i := 1331) (by decide +kernel), List.mem_of_getElem? (i := 1332) (by decide +kernel)⟩
theorem lw_p70 : lw_okq (⟨"RenvoiDeskModel", "allRules", "()I"⟩, 29) := ⟨⟨by decide +kernel, by decide +kernel⟩, List.mem_of_getElem? (i := 899) (by decide +kernel), List.mem_of_getElem? (i := 1347) (by decide +kernel), List.mem_of_getElem? (i := 1348) (by decide +kernel)⟩
theorem lw_p71 : lw_okq (⟨"RenvoiDeskModel", "heads", "()I"⟩, 29) := ⟨⟨by decide +kernel, by decide +kernel⟩, List.mem_of_getElem? (i := 899) (by decide +kernel), List.mem_of_getElem? (i := 1351) (by decide +kernel), List.mem_of_getElem? (i := 1352) (by decide +kernel)⟩
def lw_privs_5 : List (MethodName × Nat) := [(⟨"RenvoiDeskModel", "allLands", "()I"⟩, 29), (⟨"RenvoiDeskModel", "canBe", "(III)Z"⟩, 29), (⟨"RenvoiDeskModel", "becomes", "(II)I"⟩, 29), (⟨"RenvoiDeskModel", "keeps", "()V"⟩, 29), (⟨"RenvoiDeskModel", "headedBy", "(I)I"⟩, 29), (⟨"RenvoiDeskModel", "trades", "(II)V"⟩, 29), (⟨"RenvoiDeskModel", "allRules", "()I"⟩, 29), (⟨"RenvoiDeskModel", "heads", "()I"⟩, 29)]
theorem lw_r5 : ∀ q ∈ lw_privs_5, lw_okq q := List.forall_mem_cons.mpr ⟨lw_p64, List.forall_mem_cons.mpr ⟨lw_p65, List.forall_mem_cons.mpr ⟨lw_p66, List.forall_mem_cons.mpr ⟨lw_p67, List.forall_mem_cons.mpr ⟨lw_p68, List.forall_mem_cons.mpr ⟨lw_p69, List.forall_mem_cons.mpr ⟨lw_p70, List.forall_mem_cons.mpr ⟨lw_p71, fun _ h => absurd h List.not_mem_nil⟩⟩⟩⟩⟩⟩⟩⟩
def lw_privs : List (MethodName × Nat) := lw_privs_1 ++ (lw_privs_2 ++ (lw_privs_3 ++ (lw_privs_4 ++ (lw_privs_5))))
def lw_tbl : List Cond := k2_sels lw_privs ++ tables_1
theorem lw_privs_ok : ∀ q ∈ lw_privs, lw_okq q := by
  show ∀ q ∈ lw_privs_1 ++ (lw_privs_2 ++ (lw_privs_3 ++ (lw_privs_4 ++ (lw_privs_5)))), lw_okq q
  exact List.forall_mem_append.mpr ⟨lw_r1, List.forall_mem_append.mpr ⟨lw_r2, List.forall_mem_append.mpr ⟨lw_r3, List.forall_mem_append.mpr ⟨lw_r4, lw_r5⟩⟩⟩⟩
end
section
/-! names, by wip/whole/tools/gen02.py -/
def gtbl : List Cond := lw_tbl.filter goodWord
theorem tb1 {w : Cond} (i : Nat) (h : tables_1_1[i]? = some w) (hg : goodWord w = true) : w ∈ gtbl := List.mem_filter.mpr ⟨List.mem_append_right _ (List.mem_append_left _ (List.mem_of_getElem? h)), hg⟩
theorem tb2 {w : Cond} (i : Nat) (h : tables_1_2[i]? = some w) (hg : goodWord w = true) : w ∈ gtbl := List.mem_filter.mpr ⟨List.mem_append_right _ (List.mem_append_right _ (List.mem_append_left _ (List.mem_of_getElem? h))), hg⟩
theorem tb3 {w : Cond} (i : Nat) (h : tables_1_3[i]? = some w) (hg : goodWord w = true) : w ∈ gtbl := List.mem_filter.mpr ⟨List.mem_append_right _ (List.mem_append_right _ (List.mem_append_right _ (List.mem_append_left _ (List.mem_of_getElem? h)))), hg⟩
theorem tb4 {w : Cond} (i : Nat) (h : tables_1_4[i]? = some w) (hg : goodWord w = true) : w ∈ gtbl := List.mem_filter.mpr ⟨List.mem_append_right _ (List.mem_append_right _ (List.mem_append_right _ (List.mem_append_right _ (List.mem_append_left _ (List.mem_of_getElem? h))))), hg⟩
theorem tb5 {w : Cond} (i : Nat) (h : tables_1_5[i]? = some w) (hg : goodWord w = true) : w ∈ gtbl := List.mem_filter.mpr ⟨List.mem_append_right _ (List.mem_append_right _ (List.mem_append_right _ (List.mem_append_right _ (List.mem_append_right _ (List.mem_append_left _ (List.mem_of_getElem? h)))))), hg⟩
theorem tb6 {w : Cond} (i : Nat) (h : tables_1_6[i]? = some w) (hg : goodWord w = true) : w ∈ gtbl := List.mem_filter.mpr ⟨List.mem_append_right _ (List.mem_append_right _ (List.mem_append_right _ (List.mem_append_right _ (List.mem_append_right _ (List.mem_append_right _ (List.mem_of_getElem? h)))))), hg⟩
theorem tbp {y : MethodName} {n : Nat} (h : (y, n) ∈ lw_privs) (hg : goodWord (Cond.selects y.cls y y) = true) : Cond.selects y.cls y y ∈ gtbl := List.mem_filter.mpr ⟨List.mem_append_left _ (List.mem_map.mpr ⟨(y, n), h, rfl⟩), hg⟩
def RX0 : String := "RenvoiDesk$Deeds"
def TX0 : u_T := fun k => match k with
  | 0 => ("RenvoiDesk$Deeds", "roads", "LRenvoiDesk$Roads;", true)
  | _ => ("RenvoiDesk$Deeds", "trial", "LRenvoiDesk$Told;", true)
def tyX0 : Nat → FieldType := fun k => match k with
  | 0 => .object "RenvoiDesk$Roads"
  | _ => .object "RenvoiDesk$Told"
theorem nmX0 : ∀ a, a < 2 → ∀ b, b < 2 → a ≠ b → (TX0 a).2.1 ≠ (TX0 b).2.1 := by decide +kernel
theorem tyX0_ok : ∀ k, k < 2 → parseFieldDescriptor (TX0 k).2.2.1 = some (tyX0 k) := by decide +kernel
def RX1 : String := "RenvoiDesk$Past"
def TX1 : u_T := fun k => match k with
  | 0 => ("RenvoiDesk$Past", "before", "[I", true)
  | 1 => ("RenvoiDesk$Past", "kept", "[I", true)
  | 2 => ("RenvoiDesk$Past", "nextRow", "I", false)
  | 3 => ("RenvoiDesk$Past", "laid", "I", false)
  | _ => ("RenvoiDesk$Past", "acts", "I", false)
def tyX1 : Nat → FieldType := fun k => match k with
  | 0 => .array .int
  | 1 => .array .int
  | 2 => .int
  | 3 => .int
  | _ => .int
theorem nmX1 : ∀ a, a < 5 → ∀ b, b < 5 → a ≠ b → (TX1 a).2.1 ≠ (TX1 b).2.1 := by decide +kernel
theorem tyX1_ok : ∀ k, k < 5 → parseFieldDescriptor (TX1 k).2.2.1 = some (tyX1 k) := by decide +kernel
def RX2 : String := "RenvoiDesk$Reader"
def TX2 : u_T := fun k => match k with
  | 0 => ("RenvoiDesk$Reader", "tape", "LRenvoiDesk$Tape;", true)
  | 1 => ("RenvoiDesk$Reader", "keywords", "[I", true)
  | 2 => ("RenvoiDesk$Reader", "names", "[I", true)
  | 3 => ("RenvoiDesk$Reader", "sorts", "[I", true)
  | 4 => ("RenvoiDesk$Reader", "numbers", "[I", true)
  | 5 => ("RenvoiDesk$Reader", "named", "I", false)
  | 6 => ("RenvoiDesk$Reader", "laws", "J", false)
  | 7 => ("RenvoiDesk$Reader", "fault", "I", false)
  | _ => ("RenvoiDesk$Reader", "draft", "LRenvoiDesk$Told;", false)
def tyX2 : Nat → FieldType := fun k => match k with
  | 0 => .object "RenvoiDesk$Tape"
  | 1 => .array .int
  | 2 => .array .int
  | 3 => .array .int
  | 4 => .array .int
  | 5 => .int
  | 6 => .long
  | 7 => .int
  | _ => .object "RenvoiDesk$Told"
theorem nmX2 : ∀ a, a < 9 → ∀ b, b < 9 → a ≠ b → (TX2 a).2.1 ≠ (TX2 b).2.1 := by decide +kernel
theorem tyX2_ok : ∀ k, k < 9 → parseFieldDescriptor (TX2 k).2.2.1 = some (tyX2 k) := by decide +kernel
def RX3 : String := "RenvoiDesk$Roads"
def TX3 : u_T := fun k => match k with
  | 0 => ("RenvoiDesk$Roads", "next", "[I", true)
  | 1 => ("RenvoiDesk$Roads", "theories", "[I", true)
  | 2 => ("RenvoiDesk$Roads", "laws", "[I", true)
  | 3 => ("RenvoiDesk$Roads", "steps", "[I", true)
  | 4 => ("RenvoiDesk$Roads", "lands", "I", false)
  | 5 => ("RenvoiDesk$Roads", "whole", "I", false)
  | 6 => ("RenvoiDesk$Roads", "length", "I", false)
  | 7 => ("RenvoiDesk$Roads", "how", "I", false)
  | _ => ("RenvoiDesk$Roads", "end", "I", false)
def tyX3 : Nat → FieldType := fun k => match k with
  | 0 => .array .int
  | 1 => .array .int
  | 2 => .array .int
  | 3 => .array .int
  | 4 => .int
  | 5 => .int
  | 6 => .int
  | 7 => .int
  | _ => .int
theorem nmX3 : ∀ a, a < 9 → ∀ b, b < 9 → a ≠ b → (TX3 a).2.1 ≠ (TX3 b).2.1 := by decide +kernel
theorem tyX3_ok : ∀ k, k < 9 → parseFieldDescriptor (TX3 k).2.2.1 = some (tyX3 k) := by decide +kernel
def RX4 : String := "RenvoiDesk$Tape"
def TX4 : u_T := fun k => match k with
  | 0 => ("RenvoiDesk$Tape", "bytes", "[B", true)
  | 1 => ("RenvoiDesk$Tape", "length", "I", false)
  | 2 => ("RenvoiDesk$Tape", "at", "I", false)
  | 3 => ("RenvoiDesk$Tape", "limit", "I", false)
  | 4 => ("RenvoiDesk$Tape", "token", "I", false)
  | 5 => ("RenvoiDesk$Tape", "place", "I", false)
  | _ => ("RenvoiDesk$Tape", "value", "I", false)
def tyX4 : Nat → FieldType := fun k => match k with
  | 0 => .array .byte
  | 1 => .int
  | 2 => .int
  | 3 => .int
  | 4 => .int
  | 5 => .int
  | _ => .int
theorem nmX4 : ∀ a, a < 7 → ∀ b, b < 7 → a ≠ b → (TX4 a).2.1 ≠ (TX4 b).2.1 := by decide +kernel
theorem tyX4_ok : ∀ k, k < 7 → parseFieldDescriptor (TX4 k).2.2.1 = some (tyX4 k) := by decide +kernel
def RX5 : String := "RenvoiDesk$Told"
def TX5 : u_T := fun k => match k with
  | 0 => ("RenvoiDesk$Told", "cells", "[I", true)
  | 1 => ("RenvoiDesk$Told", "needs", "[I", true)
  | 2 => ("RenvoiDesk$Told", "lands", "I", false)
  | 3 => ("RenvoiDesk$Told", "issues", "I", false)
  | 4 => ("RenvoiDesk$Told", "facts", "I", false)
  | _ => ("RenvoiDesk$Told", "deeds", "I", false)
def tyX5 : Nat → FieldType := fun k => match k with
  | 0 => .array .int
  | 1 => .array .int
  | 2 => .int
  | 3 => .int
  | 4 => .int
  | _ => .int
theorem nmX5 : ∀ a, a < 6 → ∀ b, b < 6 → a ≠ b → (TX5 a).2.1 ≠ (TX5 b).2.1 := by decide +kernel
theorem tyX5_ok : ∀ k, k < 6 → parseFieldDescriptor (TX5 k).2.2.1 = some (tyX5 k) := by decide +kernel
def RX6 : String := "RenvoiDesk"
def TX6 : u_T := fun k => match k with
  | 0 => ("RenvoiDesk", "tape", "LRenvoiDesk$Tape;", true)
  | 1 => ("RenvoiDesk", "reader", "LRenvoiDesk$Reader;", true)
  | 2 => ("RenvoiDesk", "roads", "LRenvoiDesk$Roads;", true)
  | 3 => ("RenvoiDesk", "deeds", "LRenvoiDesk$Deeds;", true)
  | 4 => ("RenvoiDesk", "past", "LRenvoiDesk$Past;", true)
  | _ => ("RenvoiDesk", "told", "LRenvoiDesk$Told;", false)
def tyX6 : Nat → FieldType := fun k => match k with
  | 0 => .object "RenvoiDesk$Tape"
  | 1 => .object "RenvoiDesk$Reader"
  | 2 => .object "RenvoiDesk$Roads"
  | 3 => .object "RenvoiDesk$Deeds"
  | 4 => .object "RenvoiDesk$Past"
  | _ => .object "RenvoiDesk$Told"
theorem nmX6 : ∀ a, a < 6 → ∀ b, b < 6 → a ≠ b → (TX6 a).2.1 ≠ (TX6 b).2.1 := by decide +kernel
theorem tyX6_ok : ∀ k, k < 6 → parseFieldDescriptor (TX6 k).2.2.1 = some (tyX6 k) := by decide +kernel
def RX7 : String := "RenvoiDeskModel"
def TX7 : u_T := fun k => match k with
  | 0 => ("RenvoiDeskModel", "thrown", "I", false)
  | 1 => ("RenvoiDeskModel", "tape", "[B", true)
  | 2 => ("RenvoiDeskModel", "taped", "I", false)
  | 3 => ("RenvoiDeskModel", "size", "I", false)
  | 4 => ("RenvoiDeskModel", "from", "I", false)
  | 5 => ("RenvoiDeskModel", "to", "I", false)
  | 6 => ("RenvoiDeskModel", "token", "I", false)
  | 7 => ("RenvoiDeskModel", "value", "I", false)
  | 8 => ("RenvoiDeskModel", "word", "J", false)
  | 9 => ("RenvoiDeskModel", "fault", "I", false)
  | 10 => ("RenvoiDeskModel", "faultPlace", "I", false)
  | 11 => ("RenvoiDeskModel", "numberHere", "I", false)
  | 12 => ("RenvoiDeskModel", "bench", "I", false)
  | 13 => ("RenvoiDeskModel", "many", "[I", true)
  | 14 => ("RenvoiDeskModel", "names", "[J", true)
  | 15 => ("RenvoiDeskModel", "deeds", "[I", true)
  | 16 => ("RenvoiDeskModel", "s", "[I", true)
  | 17 => ("RenvoiDeskModel", "read", "[I", true)
  | 18 => ("RenvoiDeskModel", "said", "[Z", true)
  | 19 => ("RenvoiDeskModel", "undone", "[I", true)
  | 20 => ("RenvoiDeskModel", "undos", "I", false)
  | 21 => ("RenvoiDeskModel", "kept", "[I", true)
  | 22 => ("RenvoiDeskModel", "isKept", "[Z", true)
  | 23 => ("RenvoiDeskModel", "nameHere", "J", false)
  | 24 => ("RenvoiDeskModel", "foundHere", "I", false)
  | 25 => ("RenvoiDeskModel", "row", "[I", true)
  | 26 => ("RenvoiDeskModel", "rowMany", "I", false)
  | 27 => ("RenvoiDeskModel", "how", "I", false)
  | _ => ("RenvoiDeskModel", "last", "I", false)
def tyX7 : Nat → FieldType := fun k => match k with
  | 0 => .int
  | 1 => .array .byte
  | 2 => .int
  | 3 => .int
  | 4 => .int
  | 5 => .int
  | 6 => .int
  | 7 => .int
  | 8 => .long
  | 9 => .int
  | 10 => .int
  | 11 => .int
  | 12 => .int
  | 13 => .array .int
  | 14 => .array .long
  | 15 => .array .int
  | 16 => .array .int
  | 17 => .array .int
  | 18 => .array .boolean
  | 19 => .array .int
  | 20 => .int
  | 21 => .array .int
  | 22 => .array .boolean
  | 23 => .long
  | 24 => .int
  | 25 => .array .int
  | 26 => .int
  | 27 => .int
  | _ => .int
theorem nmX7 : ∀ a, a < 29 → ∀ b, b < 29 → a ≠ b → (TX7 a).2.1 ≠ (TX7 b).2.1 := by decide +kernel
theorem tyX7_ok : ∀ k, k < 29 → parseFieldDescriptor (TX7 k).2.2.1 = some (tyX7 k) := by decide +kernel
abbrev vwCl : List vw_C := [(RX0, TX0, 2), (RX1, TX1, 5), (RX2, TX2, 9), (RX3, TX3, 9), (RX4, TX4, 7), (RX5, TX5, 6), (RX6, TX6, 6), (RX7, TX7, 29)]
def cTys : List (Nat → FieldType) := [tyX0, tyX1, tyX2, tyX3, tyX4, tyX5, tyX6, tyX7]
def cTy (ci : Nat) : Nat → FieldType := cTys.getD ci (fun _ => .int)
/-- a class of the system, as the tables have it -/
def cOK (ci : Nat) (q : vw_C) : Prop := (∀ w ∈ u_ws q.1 q.2.1 q.2.2, w ∈ gtbl) ∧ (∀ k, k < q.2.2 → parseFieldDescriptor (q.2.1 k).2.2.1 = some (cTy ci k)) ∧ (∀ a, a < q.2.2 → ∀ b, b < q.2.2 → a ≠ b → (q.2.1 a).2.1 ≠ (q.2.1 b).2.1) ∧ Cond.instantiable q.1 q.2.2 ∈ gtbl ∧ Cond.initialized q.1 ∈ gtbl ∧ (∀ k, k < q.2.2 → (q.2.1 k).1 = q.1)
set_option maxRecDepth 20000 in
theorem cw_0 : ∀ w ∈ u_ws RX0 TX0 2, w ∈ gtbl := (List.forall_mem_cons.mpr ⟨tb2 8 rfl rfl, (List.forall_mem_cons.mpr ⟨tb2 10 rfl rfl, (fun _ h => absurd h List.not_mem_nil)⟩)⟩)
theorem cx_0 : cOK 0 (RX0, TX0, 2) := ⟨cw_0, tyX0_ok, nmX0, tb1 237 rfl rfl, tb1 10 rfl rfl, by decide +kernel⟩
set_option maxRecDepth 20000 in
theorem cw_1 : ∀ w ∈ u_ws RX1 TX1 5, w ∈ gtbl := (List.forall_mem_cons.mpr ⟨tb2 25 rfl rfl, (List.forall_mem_cons.mpr ⟨tb2 27 rfl rfl, (List.forall_mem_cons.mpr ⟨tb2 29 rfl rfl, (List.forall_mem_cons.mpr ⟨tb2 31 rfl rfl, (List.forall_mem_cons.mpr ⟨tb2 33 rfl rfl, (fun _ h => absurd h List.not_mem_nil)⟩)⟩)⟩)⟩)⟩)
theorem cx_1 : cOK 1 (RX1, TX1, 5) := ⟨cw_1, tyX1_ok, nmX1, tb2 14 rfl rfl, tb1 11 rfl rfl, by decide +kernel⟩
set_option maxRecDepth 20000 in
theorem cw_2 : ∀ w ∈ u_ws RX2 TX2 9, w ∈ gtbl := (List.forall_mem_cons.mpr ⟨tb1 180 rfl rfl, (List.forall_mem_cons.mpr ⟨tb1 182 rfl rfl, (List.forall_mem_cons.mpr ⟨tb1 184 rfl rfl, (List.forall_mem_cons.mpr ⟨tb1 186 rfl rfl, (List.forall_mem_cons.mpr ⟨tb1 188 rfl rfl, (List.forall_mem_cons.mpr ⟨tb1 190 rfl rfl, (List.forall_mem_cons.mpr ⟨tb1 192 rfl rfl, (List.forall_mem_cons.mpr ⟨tb1 194 rfl rfl, (List.forall_mem_cons.mpr ⟨tb1 196 rfl rfl, (fun _ h => absurd h List.not_mem_nil)⟩)⟩)⟩)⟩)⟩)⟩)⟩)⟩)⟩)
theorem cx_2 : cOK 2 (RX2, TX2, 9) := ⟨cw_2, tyX2_ok, nmX2, tb1 31 rfl rfl, tb1 2 rfl rfl, by decide +kernel⟩
set_option maxRecDepth 20000 in
theorem cw_3 : ∀ w ∈ u_ws RX3 TX3 9, w ∈ gtbl := (List.forall_mem_cons.mpr ⟨tb1 217 rfl rfl, (List.forall_mem_cons.mpr ⟨tb1 219 rfl rfl, (List.forall_mem_cons.mpr ⟨tb1 221 rfl rfl, (List.forall_mem_cons.mpr ⟨tb1 223 rfl rfl, (List.forall_mem_cons.mpr ⟨tb1 225 rfl rfl, (List.forall_mem_cons.mpr ⟨tb1 227 rfl rfl, (List.forall_mem_cons.mpr ⟨tb1 229 rfl rfl, (List.forall_mem_cons.mpr ⟨tb1 231 rfl rfl, (List.forall_mem_cons.mpr ⟨tb1 233 rfl rfl, (fun _ h => absurd h List.not_mem_nil)⟩)⟩)⟩)⟩)⟩)⟩)⟩)⟩)⟩)
theorem cx_3 : cOK 3 (RX3, TX3, 9) := ⟨cw_3, tyX3_ok, nmX3, tb1 200 rfl rfl, tb1 9 rfl rfl, by decide +kernel⟩
set_option maxRecDepth 20000 in
theorem cw_4 : ∀ w ∈ u_ws RX4 TX4 7, w ∈ gtbl := (List.forall_mem_cons.mpr ⟨tb1 53 rfl rfl, (List.forall_mem_cons.mpr ⟨tb1 55 rfl rfl, (List.forall_mem_cons.mpr ⟨tb1 57 rfl rfl, (List.forall_mem_cons.mpr ⟨tb1 59 rfl rfl, (List.forall_mem_cons.mpr ⟨tb1 61 rfl rfl, (List.forall_mem_cons.mpr ⟨tb1 63 rfl rfl, (List.forall_mem_cons.mpr ⟨tb1 65 rfl rfl, (fun _ h => absurd h List.not_mem_nil)⟩)⟩)⟩)⟩)⟩)⟩)⟩)
theorem cx_4 : cOK 4 (RX4, TX4, 7) := ⟨cw_4, tyX4_ok, nmX4, tb1 37 rfl rfl, tb1 3 rfl rfl, by decide +kernel⟩
set_option maxRecDepth 20000 in
theorem cw_5 : ∀ w ∈ u_ws RX5 TX5 6, w ∈ gtbl := (List.forall_mem_cons.mpr ⟨tb1 93 rfl rfl, (List.forall_mem_cons.mpr ⟨tb1 95 rfl rfl, (List.forall_mem_cons.mpr ⟨tb1 97 rfl rfl, (List.forall_mem_cons.mpr ⟨tb1 99 rfl rfl, (List.forall_mem_cons.mpr ⟨tb1 101 rfl rfl, (List.forall_mem_cons.mpr ⟨tb1 103 rfl rfl, (fun _ h => absurd h List.not_mem_nil)⟩)⟩)⟩)⟩)⟩)⟩)
theorem cx_5 : cOK 5 (RX5, TX5, 6) := ⟨cw_5, tyX5_ok, nmX5, tb1 70 rfl rfl, tb1 4 rfl rfl, by decide +kernel⟩
set_option maxRecDepth 20000 in
theorem cw_6 : ∀ w ∈ u_ws RX6 TX6 6, w ∈ gtbl := (List.forall_mem_cons.mpr ⟨tb2 44 rfl rfl, (List.forall_mem_cons.mpr ⟨tb2 46 rfl rfl, (List.forall_mem_cons.mpr ⟨tb2 48 rfl rfl, (List.forall_mem_cons.mpr ⟨tb2 50 rfl rfl, (List.forall_mem_cons.mpr ⟨tb2 52 rfl rfl, (List.forall_mem_cons.mpr ⟨tb2 54 rfl rfl, (fun _ h => absurd h List.not_mem_nil)⟩)⟩)⟩)⟩)⟩)⟩)
theorem cx_6 : cOK 6 (RX6, TX6, 6) := ⟨cw_6, tyX6_ok, nmX6, tb1 23 rfl rfl, tb1 1 rfl rfl, by decide +kernel⟩
set_option maxRecDepth 20000 in
theorem cw_7 : ∀ w ∈ u_ws RX7 TX7 29, w ∈ gtbl := (List.forall_mem_cons.mpr ⟨tb4 213 rfl rfl, (List.forall_mem_cons.mpr ⟨tb4 215 rfl rfl, (List.forall_mem_cons.mpr ⟨tb4 217 rfl rfl, (List.forall_mem_cons.mpr ⟨tb4 219 rfl rfl, (List.forall_mem_cons.mpr ⟨tb4 221 rfl rfl, (List.forall_mem_cons.mpr ⟨tb4 223 rfl rfl, (List.forall_mem_cons.mpr ⟨tb4 225 rfl rfl, (List.forall_mem_cons.mpr ⟨tb4 227 rfl rfl, (List.forall_mem_cons.mpr ⟨tb4 229 rfl rfl, (List.forall_mem_cons.mpr ⟨tb4 231 rfl rfl, (List.forall_mem_cons.mpr ⟨tb4 233 rfl rfl, (List.forall_mem_cons.mpr ⟨tb4 235 rfl rfl, (List.forall_mem_cons.mpr ⟨tb4 237 rfl rfl, (List.forall_mem_cons.mpr ⟨tb4 239 rfl rfl, (List.forall_mem_cons.mpr ⟨tb5 1 rfl rfl, (List.forall_mem_cons.mpr ⟨tb5 3 rfl rfl, (List.forall_mem_cons.mpr ⟨tb5 5 rfl rfl, (List.forall_mem_cons.mpr ⟨tb5 7 rfl rfl, (List.forall_mem_cons.mpr ⟨tb5 9 rfl rfl, (List.forall_mem_cons.mpr ⟨tb5 11 rfl rfl, (List.forall_mem_cons.mpr ⟨tb5 13 rfl rfl, (List.forall_mem_cons.mpr ⟨tb5 15 rfl rfl, (List.forall_mem_cons.mpr ⟨tb5 17 rfl rfl, (List.forall_mem_cons.mpr ⟨tb5 19 rfl rfl, (List.forall_mem_cons.mpr ⟨tb5 21 rfl rfl, (List.forall_mem_cons.mpr ⟨tb5 23 rfl rfl, (List.forall_mem_cons.mpr ⟨tb5 25 rfl rfl, (List.forall_mem_cons.mpr ⟨tb5 27 rfl rfl, (List.forall_mem_cons.mpr ⟨tb5 29 rfl rfl, (fun _ h => absurd h List.not_mem_nil)⟩)⟩)⟩)⟩)⟩)⟩)⟩)⟩)⟩)⟩)⟩)⟩)⟩)⟩)⟩)⟩)⟩)⟩)⟩)⟩)⟩)⟩)⟩)⟩)⟩)⟩)⟩)⟩)⟩)
theorem cx_7 : cOK 7 (RX7, TX7, 29) := ⟨cw_7, tyX7_ok, nmX7, tb4 179 rfl rfl, tb1 12 rfl rfl, by decide +kernel⟩
theorem cx_all : ∀ (ci : Nat) (q : vw_C), vwCl[ci]? = some q → cOK ci q := by
  intro ci q h
  match ci, h with
  | 0, h => cases h; exact cx_0
  | 1, h => cases h; exact cx_1
  | 2, h => cases h; exact cx_2
  | 3, h => cases h; exact cx_3
  | 4, h => cases h; exact cx_4
  | 5, h => cases h; exact cx_5
  | 6, h => cases h; exact cx_6
  | 7, h => cases h; exact cx_7
  | k + 8, h => simp [vwCl] at h
def oNames : List String := ["RenvoiDesk$Deeds", "RenvoiDesk$Past", "RenvoiDesk$Reader", "RenvoiDesk$Roads", "RenvoiDesk$Tape", "RenvoiDesk$Told", "RenvoiDesk", "RenvoiDeskModel", "RenvoiDeskLaw", "java/lang/Integer", "java/lang/Long", "java/util/Arrays"]
def oName (o : Nat) : String := oNames.getD o ""
def mOwns : List Nat := [0, 0, 0, 0, 0, 0, 0, 1, 1, 1, 1, 1, 1, 2, 2, 2, 2, 2, 2, 2, 2, 2, 2, 2, 2, 2, 2, 2, 2, 2, 2, 3, 3, 3, 3, 3, 3, 3, 3, 3, 3, 3, 3, 3, 3, 4, 4, 4, 4, 4, 4, 4, 4, 4, 5, 5, 5, 5, 5, 5, 5, 5, 5, 5, 5, 5, 5, 5, 5, 5, 5, 5, 5, 5, 5, 5, 5, 5, 5, 5, 5, 5, 5, 5, 5, 5, 5, 5, 5, 5, 5, 6, 6, 6, 6, 6, 6, 6, 6, 6, 6, 6, 6, 6, 6, 6, 6, 6, 6, 6, 6, 6, 6, 6, 6, 6, 6, 6, 6, 6, 6, 6, 6, 6, 6, 6, 6, 6, 6, 7, 7, 7, 7, 7, 7, 7, 7, 7, 7, 7, 7, 7, 7, 7, 7, 7, 7, 7, 7, 7, 7, 7, 7, 7, 7, 7, 7, 7, 7, 7, 7, 7, 7, 7, 7, 7, 7, 7, 7, 7, 7, 7, 7, 7, 7, 7, 7, 7, 7, 7, 7, 7, 7, 7, 7, 7, 7, 7, 7, 7, 7, 7, 7, 7, 7, 7, 7, 7, 7, 7, 7, 7, 7, 7, 7, 7, 7, 7, 7, 7, 7, 7, 7, 7, 7, 7, 8, 8, 9, 10, 11]
def mMaxLs : List Nat := [1, 6, 5, 11, 2, 6, 5, 1, 1, 2, 2, 3, 3, 1, 3, 3, 1, 2, 1, 2, 4, 5, 6, 3, 3, 2, 1, 1, 2, 3, 2, 1, 6, 2, 2, 4, 2, 4, 4, 8, 5, 2, 2, 4, 4, 1, 2, 3, 2, 1, 1, 1, 2, 1, 1, 1, 2, 3, 3, 2, 1, 2, 2, 2, 2, 2, 2, 3, 1, 2, 3, 2, 3, 2, 3, 4, 3, 6, 1, 1, 4, 3, 4, 2, 4, 3, 4, 2, 3, 5, 4, 1, 6, 4, 3, 2, 5, 3, 2, 2, 4, 4, 4, 5, 5, 4, 4, 1, 1, 6, 7, 7, 3, 6, 3, 2, 4, 3, 2, 4, 4, 5, 5, 5, 3, 3, 1, 3, 2, 1, 1, 6, 3, 6, 2, 2, 3, 4, 2, 1, 3, 2, 3, 1, 1, 4, 2, 3, 1, 3, 3, 3, 5, 3, 2, 5, 2, 2, 2, 2, 3, 4, 4, 3, 2, 3, 3, 5, 3, 2, 2, 3, 2, 5, 4, 4, 4, 6, 7, 6, 8, 3, 3, 4, 4, 4, 5, 8, 5, 5, 4, 4, 1, 3, 3, 2, 3, 10, 8, 3, 2, 4, 3, 3, 6, 4, 4, 5, 5, 4, 4, 2, 4, 3, 3, 2, 5, 7, 1, 2, 4]
def mKinds : List Nat := [2, 0, 0, 0, 0, 0, 0, 2, 0, 0, 0, 0, 0, 2, 1, 0, 0, 0, 0, 0, 0, 0, 0, 0, 0, 0, 0, 0, 0, 0, 0, 2, 0, 1, 0, 0, 0, 0, 0, 0, 0, 0, 0, 0, 0, 2, 0, 0, 0, 0, 0, 0, 1, 1, 2, 0, 0, 0, 0, 0, 0, 0, 0, 0, 0, 0, 0, 0, 0, 0, 0, 0, 0, 0, 0, 0, 0, 0, 1, 1, 0, 0, 0, 0, 0, 0, 0, 0, 0, 0, 0, 2, 0, 0, 0, 0, 0, 0, 0, 0, 0, 0, 0, 0, 1, 0, 0, 1, 1, 0, 0, 0, 1, 0, 0, 0, 0, 0, 0, 0, 0, 0, 0, 0, 0, 0, 0, 0, 0, 2, 0, 1, 0, 0, 0, 0, 0, 1, 0, 0, 0, 0, 0, 0, 0, 0, 0, 0, 0, 0, 0, 0, 0, 0, 0, 0, 0, 0, 0, 0, 0, 0, 0, 0, 0, 0, 0, 0, 0, 0, 0, 0, 0, 0, 0, 0, 0, 0, 0, 0, 0, 0, 0, 0, 0, 0, 0, 0, 0, 0, 0, 0, 0, 1, 0, 0, 0, 0, 0, 0, 0, 0, 0, 0, 0, 0, 0, 0, 0, 0, 0, 0, 0, 0, 0, 0, 1, 1, 1, 1, 1]
def mArgs : List Nat := [0, 2, 2, 3, 1, 2, 1, 0, 0, 1, 1, 2, 2, 0, 1, 1, 0, 0, 0, 0, 0, 0, 0, 2, 1, 1, 0, 0, 0, 1, 1, 0, 2, 2, 1, 1, 1, 0, 0, 2, 2, 1, 1, 1, 0, 0, 1, 1, 1, 0, 0, 0, 2, 1, 0, 0, 1, 2, 2, 1, 0, 1, 1, 1, 1, 1, 1, 2, 0, 1, 2, 1, 2, 1, 2, 3, 2, 4, 1, 1, 1, 0, 1, 1, 1, 0, 2, 1, 1, 2, 2, 0, 5, 1, 2, 1, 3, 2, 1, 1, 3, 3, 1, 2, 2, 3, 3, 1, 1, 2, 2, 2, 3, 1, 2, 1, 0, 2, 1, 2, 2, 4, 3, 2, 1, 2, 0, 2, 1, 0, 0, 3, 1, 5, 1, 0, 2, 1, 1, 0, 2, 1, 1, 0, 0, 2, 1, 0, 0, 0, 0, 0, 0, 0, 0, 1, 1, 1, 1, 1, 2, 1, 1, 2, 1, 2, 2, 3, 2, 1, 1, 1, 1, 2, 3, 3, 1, 2, 2, 3, 3, 2, 2, 3, 3, 3, 2, 2, 2, 1, 2, 1, 0, 1, 2, 1, 0, 2, 3, 1, 0, 2, 2, 2, 4, 3, 1, 2, 1, 2, 2, 0, 2, 0, 0, 1, 5, 1, 1, 1, 2]
def mRets : List (Option FieldType) := [none, some .int, some .boolean, some .int, none, some .boolean, some .boolean, none, none, none, some .boolean, some .boolean, some .boolean, none, some .int, some .int, some .boolean, some .boolean, some .boolean, some .boolean, some .boolean, some .boolean, some .boolean, some .boolean, some .int, some .int, some .boolean, some .boolean, some .int, some .int, some .boolean, none, none, some .int, some .boolean, none, some .int, some .long, some .int, some .int, some .int, some .int, some .int, some .int, some .int, none, some .boolean, none, none, none, none, none, some .int, some .int, none, none, none, none, none, none, none, none, none, some .boolean, some .boolean, some .boolean, some .boolean, some .boolean, some .int, some .int, none, some .int, none, some .int, some .int, none, some .int, none, some .int, some .boolean, some .int, some .int, some .int, some .int, some .int, some .int, none, none, some .int, none, none, none, some .int, some .int, some .int, some .int, some .int, some .int, some .int, some .int, some .int, some .int, some .int, some .int, some .int, some .int, some .int, some .boolean, some .boolean, some .int, some .int, some .int, some .int, some .long, some .int, some .int, some .int, some .int, some .int, some .int, some .int, some .boolean, some .int, some .int, some .int, some .boolean, some .int, some .boolean, some .int, none, some .int, some .boolean, none, some .int, some .int, none, some .boolean, some .long, some .boolean, some .boolean, some .boolean, some .int, some .int, some .boolean, some .boolean, none, some .boolean, some .boolean, some .boolean, some .boolean, some .boolean, some .boolean, some .boolean, some .boolean, none, some .int, some .boolean, some .boolean, some .boolean, some .boolean, some .int, some .int, some .int, some .int, some .int, some .int, some .boolean, some .int, some .int, some .int, some .int, some .boolean, none, none, some .int, some .int, some .int, some .int, some .int, some .int, some .int, some .int, some .int, some .boolean, some .int, some .int, some .int, some .int, some .int, some .long, some .boolean, some .int, some .int, some .int, some .int, some .int, some .int, some .int, some .boolean, some .int, none, some .int, some .int, some .int, some .boolean, some .int, some .int, some .int, some .int, none, some .boolean, some .int, some .boolean, some .int, some .int, some .int, some .int, some .boolean, some .int, some .int, none]
def mCs : List Nat := [8, 0, 0, 0, 0, 0, 0, 2, 0, 0, 0, 0, 0, 9, 0, 0, 0, 0, 0, 0, 0, 0, 0, 0, 0, 0, 0, 0, 0, 0, 0, 4, 0, 0, 0, 0, 0, 0, 0, 0, 0, 0, 0, 0, 0, 1, 0, 0, 0, 0, 0, 0, 0, 0, 2, 0, 0, 0, 0, 0, 0, 0, 0, 0, 0, 0, 0, 0, 0, 0, 0, 0, 0, 0, 0, 0, 0, 0, 0, 0, 0, 0, 0, 0, 0, 0, 0, 0, 0, 0, 0, 30, 0, 0, 0, 0, 0, 0, 0, 0, 0, 0, 0, 0, 0, 0, 0, 0, 0, 0, 0, 0, 0, 0, 0, 0, 0, 0, 0, 0, 0, 0, 0, 0, 0, 0, 0, 0, 0, 11, 0, 0, 0, 0, 0, 0, 0, 0, 0, 0, 0, 0, 0, 0, 0, 0, 0, 0, 0, 0, 0, 0, 0, 0, 0, 0, 0, 0, 0, 0, 0, 0, 0, 0, 0, 0, 0, 0, 0, 0, 0, 0, 0, 0, 0, 0, 0, 0, 0, 0, 0, 0, 0, 0, 0, 0, 0, 0, 0, 0, 0, 0, 0, 0, 0, 0, 0, 0, 0, 0, 0, 0, 0, 0, 0, 0, 0, 0, 0, 0, 0, 0, 0, 0, 0, 0, 1, 0, 0, 0, 0]
def mSs : List Nat := [134, 0, 0, 0, 0, 0, 0, 1246, 0, 0, 0, 0, 0, 881, 0, 0, 0, 0, 0, 0, 0, 0, 0, 0, 0, 0, 0, 0, 0, 0, 0, 25, 0, 0, 0, 0, 0, 0, 0, 0, 0, 0, 0, 0, 0, 700, 0, 0, 0, 0, 0, 0, 0, 0, 94, 0, 0, 0, 0, 0, 0, 0, 0, 0, 0, 0, 0, 0, 0, 0, 0, 0, 0, 0, 0, 0, 0, 0, 0, 0, 0, 0, 0, 0, 0, 0, 0, 0, 0, 0, 0, 2411, 0, 0, 0, 0, 0, 0, 0, 0, 0, 0, 0, 0, 0, 0, 0, 0, 0, 0, 0, 0, 0, 0, 0, 0, 0, 0, 0, 0, 0, 0, 0, 0, 0, 0, 0, 0, 0, 2258, 0, 0, 0, 0, 0, 0, 0, 0, 0, 0, 0, 0, 0, 0, 0, 0, 0, 0, 0, 0, 0, 0, 0, 0, 0, 0, 0, 0, 0, 0, 0, 0, 0, 0, 0, 0, 0, 0, 0, 0, 0, 0, 0, 0, 0, 0, 0, 0, 0, 0, 0, 0, 0, 0, 0, 0, 0, 0, 0, 0, 0, 0, 0, 0, 0, 0, 0, 0, 0, 0, 0, 0, 0, 0, 0, 0, 0, 0, 0, 0, 0, 0, 0, 0, 0, 0, 6, 0, 0, 0, 0]
def mCodes : List ByteArray := [prog_2_method_1_code, prog_2_method_2_code, prog_2_method_3_code, prog_2_method_4_code, prog_2_method_5_code, prog_2_method_6_code, prog_2_method_7_code, prog_3_method_1_code, prog_3_method_2_code, prog_3_method_3_code, prog_3_method_4_code, prog_3_method_5_code, prog_3_method_6_code, prog_4_method_1_code, prog_4_method_2_code, prog_4_method_3_code, prog_4_method_4_code, prog_4_method_5_code, prog_4_method_6_code, prog_4_method_7_code, prog_4_method_8_code, prog_4_method_9_code, prog_4_method_10_code, prog_4_method_11_code, prog_4_method_12_code, prog_4_method_13_code, prog_4_method_14_code, prog_4_method_15_code, prog_4_method_16_code, prog_4_method_17_code, prog_4_method_18_code, prog_5_method_1_code, prog_5_method_2_code, prog_5_method_3_code, prog_5_method_4_code, prog_5_method_5_code, prog_5_method_6_code, prog_5_method_7_code, prog_5_method_8_code, prog_5_method_9_code, prog_5_method_10_code, prog_5_method_11_code, prog_5_method_12_code, prog_5_method_13_code, prog_5_method_14_code, prog_6_method_1_code, prog_6_method_2_code, prog_6_method_3_code, prog_6_method_4_code, prog_6_method_5_code, prog_6_method_6_code, prog_6_method_7_code, prog_6_method_8_code, prog_6_method_9_code, prog_7_method_1_code, prog_7_method_2_code, prog_7_method_3_code, prog_7_method_4_code, prog_7_method_5_code, prog_7_method_6_code, prog_7_method_7_code, prog_7_method_8_code, prog_7_method_9_code, prog_7_method_10_code, prog_7_method_11_code, prog_7_method_12_code, prog_7_method_13_code, prog_7_method_14_code, prog_7_method_15_code, prog_7_method_16_code, prog_7_method_17_code, prog_7_method_18_code, prog_7_method_19_code, prog_7_method_20_code, prog_7_method_21_code, prog_7_method_22_code, prog_7_method_23_code, prog_7_method_24_code, prog_7_method_25_code, prog_7_method_26_code, prog_7_method_27_code, prog_7_method_28_code, prog_7_method_29_code, prog_7_method_30_code, prog_7_method_31_code, prog_7_method_32_code, prog_7_method_33_code, prog_7_method_34_code, prog_7_method_35_code, prog_7_method_36_code, prog_7_method_37_code, prog_1_method_1_code, prog_1_method_2_code, prog_1_method_3_code, prog_1_method_4_code, prog_1_method_5_code, prog_1_method_6_code, prog_1_method_7_code, prog_1_method_8_code, prog_1_method_9_code, prog_1_method_10_code, prog_1_method_11_code, prog_1_method_12_code, prog_1_method_13_code, prog_1_method_14_code, prog_1_method_15_code, prog_1_method_16_code, prog_1_method_17_code, prog_1_method_18_code, prog_1_method_19_code, prog_1_method_20_code, prog_1_method_21_code, prog_1_method_22_code, prog_1_method_23_code, prog_1_method_24_code, prog_1_method_25_code, prog_1_method_26_code, prog_1_method_27_code, prog_1_method_28_code, prog_1_method_29_code, prog_1_method_30_code, prog_1_method_31_code, prog_1_method_32_code, prog_1_method_33_code, prog_1_method_34_code, prog_1_method_35_code, prog_1_method_36_code, prog_1_method_37_code, prog_1_method_38_code, prog_9_method_1_code, prog_9_method_2_code, prog_9_method_3_code, prog_9_method_4_code, prog_9_method_5_code, prog_9_method_6_code, prog_9_method_7_code, prog_9_method_8_code, prog_9_method_9_code, prog_9_method_10_code, prog_9_method_11_code, prog_9_method_12_code, prog_9_method_13_code, prog_9_method_14_code, prog_9_method_15_code, prog_9_method_16_code, prog_9_method_17_code, prog_9_method_18_code, prog_9_method_19_code, prog_9_method_20_code, prog_9_method_21_code, prog_9_method_22_code, prog_9_method_23_code, prog_9_method_24_code, prog_9_method_25_code, prog_9_method_26_code, prog_9_method_27_code, prog_9_method_28_code, prog_9_method_29_code, prog_9_method_30_code, prog_9_method_31_code, prog_9_method_32_code, prog_9_method_33_code, prog_9_method_34_code, prog_9_method_35_code, prog_9_method_36_code, prog_9_method_37_code, prog_9_method_38_code, prog_9_method_39_code, prog_9_method_40_code, prog_9_method_41_code, prog_9_method_42_code, prog_9_method_43_code, prog_9_method_44_code, prog_9_method_45_code, prog_9_method_46_code, prog_9_method_47_code, prog_9_method_48_code, prog_9_method_49_code, prog_9_method_50_code, prog_9_method_51_code, prog_9_method_52_code, prog_9_method_53_code, prog_9_method_54_code, prog_9_method_55_code, prog_9_method_56_code, prog_9_method_57_code, prog_9_method_58_code, prog_9_method_59_code, prog_9_method_60_code, prog_9_method_61_code, prog_9_method_62_code, prog_9_method_63_code, prog_9_method_64_code, prog_9_method_65_code, prog_9_method_66_code, prog_9_method_67_code, prog_9_method_68_code, prog_9_method_69_code, prog_9_method_70_code, prog_9_method_71_code, prog_9_method_72_code, prog_9_method_73_code, prog_9_method_74_code, prog_9_method_75_code, prog_9_method_76_code, prog_9_method_77_code, prog_9_method_78_code, prog_9_method_79_code, prog_9_method_80_code, prog_9_method_81_code, prog_9_method_82_code, prog_9_method_83_code, prog_9_method_84_code, prog_9_method_85_code, prog_9_method_86_code, prog_9_method_87_code, method_3_code, code, prog_14_method_49_code, prog_15_method_50_code, prog_25_method_103_code]
def mNames : List MethodName := [⟨"RenvoiDesk$Deeds", "<init>", "()V"⟩, ⟨"RenvoiDesk$Deeds", "standing", "(LRenvoiDesk$Told;I)I"⟩, ⟨"RenvoiDesk$Deeds", "standsInAll", "(LRenvoiDesk$Told;I)Z"⟩, ⟨"RenvoiDesk$Deeds", "bestChange", "(LRenvoiDesk$Told;II)I"⟩, ⟨"RenvoiDesk$Deeds", "startTrial", "(LRenvoiDesk$Told;)V"⟩, ⟨"RenvoiDesk$Deeds", "canByOne", "(II)Z"⟩, ⟨"RenvoiDesk$Deeds", "canByTwo", "(I)Z"⟩, ⟨"RenvoiDesk$Past", "<init>", "()V"⟩, ⟨"RenvoiDesk$Past", "forget", "()V"⟩, ⟨"RenvoiDesk$Past", "remember", "(LRenvoiDesk$Told;)V"⟩, ⟨"RenvoiDesk$Past", "stepBack", "(LRenvoiDesk$Told;)Z"⟩, ⟨"RenvoiDesk$Past", "lay", "(LRenvoiDesk$Told;I)Z"⟩, ⟨"RenvoiDesk$Past", "goBack", "(LRenvoiDesk$Told;I)Z"⟩, ⟨"RenvoiDesk$Reader", "<init>", "()V"⟩, ⟨"RenvoiDesk$Reader", "wordOf", "(Ljava/lang/String;)I"⟩, ⟨"RenvoiDesk$Reader", "read", "(I)I"⟩, ⟨"RenvoiDesk$Reader", "readLine", "()Z"⟩, ⟨"RenvoiDesk$Reader", "readLand", "()Z"⟩, ⟨"RenvoiDesk$Reader", "readIssue", "()Z"⟩, ⟨"RenvoiDesk$Reader", "readFact", "()Z"⟩, ⟨"RenvoiDesk$Reader", "readDeed", "()Z"⟩, ⟨"RenvoiDesk$Reader", "readRule", "()Z"⟩, ⟨"RenvoiDesk$Reader", "readLaw", "()Z"⟩, ⟨"RenvoiDesk$Reader", "giveName", "(II)Z"⟩, ⟨"RenvoiDesk$Reader", "numberOf", "(I)I"⟩, ⟨"RenvoiDesk$Reader", "takeNumber", "(I)I"⟩, ⟨"RenvoiDesk$Reader", "takeStop", "()Z"⟩, ⟨"RenvoiDesk$Reader", "isName", "()Z"⟩, ⟨"RenvoiDesk$Reader", "keyword", "()I"⟩, ⟨"RenvoiDesk$Reader", "find", "(I)I"⟩, ⟨"RenvoiDesk$Reader", "wrong", "(I)Z"⟩, ⟨"RenvoiDesk$Roads", "<init>", "()V"⟩, ⟨"RenvoiDesk$Roads", "lookAt", "(LRenvoiDesk$Told;I)V"⟩, ⟨"RenvoiDesk$Roads", "cell", "([II)I"⟩, ⟨"RenvoiDesk$Roads", "goesOn", "(I)Z"⟩, ⟨"RenvoiDesk$Roads", "walk", "(I)V"⟩, ⟨"RenvoiDesk$Roads", "stepAt", "(I)I"⟩, ⟨"RenvoiDesk$Roads", "loopSets", "()J"⟩, ⟨"RenvoiDesk$Roads", "loopLands", "()I"⟩, ⟨"RenvoiDesk$Roads", "comesTo", "(II)I"⟩, ⟨"RenvoiDesk$Roads", "comesNear", "(IZ)I"⟩, ⟨"RenvoiDesk$Roads", "ownLand", "(I)I"⟩, ⟨"RenvoiDesk$Roads", "ownAnswer", "(I)I"⟩, ⟨"RenvoiDesk$Roads", "followersOf", "(I)I"⟩, ⟨"RenvoiDesk$Roads", "landsAbove0", "()I"⟩, ⟨"RenvoiDesk$Tape", "<init>", "()V"⟩, ⟨"RenvoiDesk$Tape", "hasRoom", "(I)Z"⟩, ⟨"RenvoiDesk$Tape", "add", "(I)V"⟩, ⟨"RenvoiDesk$Tape", "begin", "(I)V"⟩, ⟨"RenvoiDesk$Tape", "next", "()V"⟩, ⟨"RenvoiDesk$Tape", "readWord", "()V"⟩, ⟨"RenvoiDesk$Tape", "readNumber", "()V"⟩, ⟨"RenvoiDesk$Tape", "withLetter", "(II)I"⟩, ⟨"RenvoiDesk$Tape", "sortOf", "(I)I"⟩, ⟨"RenvoiDesk$Told", "<init>", "()V"⟩, ⟨"RenvoiDesk$Told", "clear", "()V"⟩, ⟨"RenvoiDesk$Told", "copyFrom", "(LRenvoiDesk$Told;)V"⟩, ⟨"RenvoiDesk$Told", "save", "([II)V"⟩, ⟨"RenvoiDesk$Told", "load", "([II)V"⟩, ⟨"RenvoiDesk$Told", "addLand", "(I)V"⟩, ⟨"RenvoiDesk$Told", "addIssue", "()V"⟩, ⟨"RenvoiDesk$Told", "addFact", "(I)V"⟩, ⟨"RenvoiDesk$Told", "addDeed", "(I)V"⟩, ⟨"RenvoiDesk$Told", "hasLand", "(I)Z"⟩, ⟨"RenvoiDesk$Told", "hasIssue", "(I)Z"⟩, ⟨"RenvoiDesk$Told", "hasFact", "(I)Z"⟩, ⟨"RenvoiDesk$Told", "hasDeed", "(I)Z"⟩, ⟨"RenvoiDesk$Told", "hasBoth", "(II)Z"⟩, ⟨"RenvoiDesk$Told", "allLands", "()I"⟩, ⟨"RenvoiDesk$Told", "theoryOf", "(I)I"⟩, ⟨"RenvoiDesk$Told", "setTheoryOf", "(II)V"⟩, ⟨"RenvoiDesk$Told", "landOf", "(I)I"⟩, ⟨"RenvoiDesk$Told", "setLandOf", "(II)V"⟩, ⟨"RenvoiDesk$Told", "issuesOf", "(I)I"⟩, ⟨"RenvoiDesk$Told", "lawOn", "(II)I"⟩, ⟨"RenvoiDesk$Told", "setLawOn", "(III)V"⟩, ⟨"RenvoiDesk$Told", "ruleOn", "(II)I"⟩, ⟨"RenvoiDesk$Told", "setRuleOn", "(IIIZ)V"⟩, ⟨"RenvoiDesk$Told", "factIn", "(I)I"⟩, ⟨"RenvoiDesk$Told", "isWhole", "(I)Z"⟩, ⟨"RenvoiDesk$Told", "rulesOf", "(I)I"⟩, ⟨"RenvoiDesk$Told", "allRules", "()I"⟩, ⟨"RenvoiDesk$Told", "ruledIssues", "(I)I"⟩, ⟨"RenvoiDesk$Told", "headOf", "(I)I"⟩, ⟨"RenvoiDesk$Told", "issuesUnder", "(I)I"⟩, ⟨"RenvoiDesk$Told", "unlikeHeads", "()I"⟩, ⟨"RenvoiDesk$Told", "moveHead", "(II)V"⟩, ⟨"RenvoiDesk$Told", "partFromOthers", "(I)V"⟩, ⟨"RenvoiDesk$Told", "firstOther", "(I)I"⟩, ⟨"RenvoiDesk$Told", "exchange", "(II)V"⟩, ⟨"RenvoiDesk$Told", "swapCells", "(II)V"⟩, ⟨"RenvoiDesk", "<init>", "()V"⟩, ⟨"RenvoiDesk", "feed", "(IIIII)I"⟩, ⟨"RenvoiDesk", "desk", "(I)I"⟩, ⟨"RenvoiDesk", "land", "(II)I"⟩, ⟨"RenvoiDesk", "fact", "(I)I"⟩, ⟨"RenvoiDesk", "rule", "(III)I"⟩, ⟨"RenvoiDesk", "inner", "(II)I"⟩, ⟨"RenvoiDesk", "head", "(I)I"⟩, ⟨"RenvoiDesk", "deed", "(I)I"⟩, ⟨"RenvoiDesk", "road", "(III)I"⟩, ⟨"RenvoiDesk", "ends", "(III)I"⟩, ⟨"RenvoiDesk", "trapped", "(I)I"⟩, ⟨"RenvoiDesk", "loop", "(II)I"⟩, ⟨"RenvoiDesk", "placeOfBit", "(JI)I"⟩, ⟨"RenvoiDesk", "comes", "(III)I"⟩, ⟨"RenvoiDesk", "answer", "(III)I"⟩, ⟨"RenvoiDesk", "isTheoryOrOwn", "(I)Z"⟩, ⟨"RenvoiDesk", "isTheory", "(I)Z"⟩, ⟨"RenvoiDesk", "unlike", "(II)I"⟩, ⟨"RenvoiDesk", "most", "(II)I"⟩, ⟨"RenvoiDesk", "shop", "(II)I"⟩, ⟨"RenvoiDesk", "firstOrSecond", "(III)I"⟩, ⟨"RenvoiDesk", "tally", "(I)J"⟩, ⟨"RenvoiDesk", "stands", "(II)I"⟩, ⟨"RenvoiDesk", "where", "(I)I"⟩, ⟨"RenvoiDesk", "limps", "()I"⟩, ⟨"RenvoiDesk", "best", "(II)I"⟩, ⟨"RenvoiDesk", "fewest", "(I)I"⟩, ⟨"RenvoiDesk", "tie", "(II)I"⟩, ⟨"RenvoiDesk", "think", "(II)I"⟩, ⟨"RenvoiDesk", "point", "(IIIZ)Z"⟩, ⟨"RenvoiDesk", "say", "(III)I"⟩, ⟨"RenvoiDesk", "join", "(II)I"⟩, ⟨"RenvoiDesk", "cut", "(I)I"⟩, ⟨"RenvoiDesk", "mirror", "(II)Z"⟩, ⟨"RenvoiDesk", "undo", "()I"⟩, ⟨"RenvoiDesk", "keep", "(IZ)Z"⟩, ⟨"RenvoiDesk", "count", "(I)I"⟩, ⟨"RenvoiDeskModel", "<init>", "()V"⟩, ⟨"RenvoiDeskModel", "thrown", "()I"⟩, ⟨"RenvoiDeskModel", "within", "(JJJ)Z"⟩, ⟨"RenvoiDeskModel", "puts", "(I)V"⟩, ⟨"RenvoiDeskModel", "feed", "(IIIII)I"⟩, ⟨"RenvoiDeskModel", "see", "(I)I"⟩, ⟨"RenvoiDeskModel", "steps", "()V"⟩, ⟨"RenvoiDeskModel", "must", "(ZI)Z"⟩, ⟨"RenvoiDeskModel", "spelled", "(Ljava/lang/String;)J"⟩, ⟨"RenvoiDeskModel", "is", "(Ljava/lang/String;)Z"⟩, ⟨"RenvoiDeskModel", "isName", "()Z"⟩, ⟨"RenvoiDeskModel", "takesNumber", "(II)Z"⟩, ⟨"RenvoiDeskModel", "manyOf", "(I)I"⟩, ⟨"RenvoiDeskModel", "named", "(I)I"⟩, ⟨"RenvoiDeskModel", "isNamed", "()Z"⟩, ⟨"RenvoiDeskModel", "newName", "()Z"⟩, ⟨"RenvoiDeskModel", "adds", "(IJ)V"⟩, ⟨"RenvoiDeskModel", "takes", "(I)Z"⟩, ⟨"RenvoiDeskModel", "landLine", "()Z"⟩, ⟨"RenvoiDeskModel", "issueLine", "()Z"⟩, ⟨"RenvoiDeskModel", "factLine", "()Z"⟩, ⟨"RenvoiDeskModel", "ruleLine", "()Z"⟩, ⟨"RenvoiDeskModel", "lawLine", "()Z"⟩, ⟨"RenvoiDeskModel", "deedLine", "()Z"⟩, ⟨"RenvoiDeskModel", "lineHere", "()Z"⟩, ⟨"RenvoiDeskModel", "beginsReading", "()V"⟩, ⟨"RenvoiDeskModel", "desk", "(I)I"⟩, ⟨"RenvoiDeskModel", "isLand", "(I)Z"⟩, ⟨"RenvoiDeskModel", "isIssue", "(I)Z"⟩, ⟨"RenvoiDeskModel", "isFact", "(I)Z"⟩, ⟨"RenvoiDeskModel", "isDeed", "(I)Z"⟩, ⟨"RenvoiDeskModel", "ruleOf", "(II)I"⟩, ⟨"RenvoiDeskModel", "rulesOf", "(I)I"⟩, ⟨"RenvoiDeskModel", "ruledBy", "(I)I"⟩, ⟨"RenvoiDeskModel", "land", "(II)I"⟩, ⟨"RenvoiDeskModel", "fact", "(I)I"⟩, ⟨"RenvoiDeskModel", "pointsTo", "(II)I"⟩, ⟨"RenvoiDeskModel", "isWhole", "(II)Z"⟩, ⟨"RenvoiDeskModel", "rule", "(III)I"⟩, ⟨"RenvoiDeskModel", "inner", "(II)I"⟩, ⟨"RenvoiDeskModel", "head", "(I)I"⟩, ⟨"RenvoiDeskModel", "deed", "(I)I"⟩, ⟨"RenvoiDeskModel", "wasThere", "(I)Z"⟩, ⟨"RenvoiDeskModel", "comesTo", "(I)V"⟩, ⟨"RenvoiDeskModel", "laysRoad", "(II)V"⟩, ⟨"RenvoiDeskModel", "road", "(III)I"⟩, ⟨"RenvoiDeskModel", "ends", "(III)I"⟩, ⟨"RenvoiDeskModel", "trapped", "(I)I"⟩, ⟨"RenvoiDeskModel", "loopOf", "(II)I"⟩, ⟨"RenvoiDeskModel", "loop", "(II)I"⟩, ⟨"RenvoiDeskModel", "plainly", "(III)I"⟩, ⟨"RenvoiDeskModel", "comesBy", "(III)I"⟩, ⟨"RenvoiDeskModel", "ownLand", "(II)I"⟩, ⟨"RenvoiDeskModel", "ownAnswer", "(II)I"⟩, ⟨"RenvoiDeskModel", "areSo", "(III)Z"⟩, ⟨"RenvoiDeskModel", "comes", "(III)I"⟩, ⟨"RenvoiDeskModel", "answer", "(III)I"⟩, ⟨"RenvoiDeskModel", "unlike", "(II)I"⟩, ⟨"RenvoiDeskModel", "most", "(II)I"⟩, ⟨"RenvoiDeskModel", "shop", "(II)I"⟩, ⟨"RenvoiDeskModel", "tally", "(I)J"⟩, ⟨"RenvoiDeskModel", "standsIn", "(II)Z"⟩, ⟨"RenvoiDeskModel", "whereOf", "(I)I"⟩, ⟨"RenvoiDeskModel", "allLands", "()I"⟩, ⟨"RenvoiDeskModel", "count1", "(I)I"⟩, ⟨"RenvoiDeskModel", "stands", "(II)I"⟩, ⟨"RenvoiDeskModel", "where", "(I)I"⟩, ⟨"RenvoiDeskModel", "limps", "()I"⟩, ⟨"RenvoiDeskModel", "best", "(II)I"⟩, ⟨"RenvoiDeskModel", "canBe", "(III)Z"⟩, ⟨"RenvoiDeskModel", "fewest", "(I)I"⟩, ⟨"RenvoiDeskModel", "keeps", "()V"⟩, ⟨"RenvoiDeskModel", "becomes", "(II)I"⟩, ⟨"RenvoiDeskModel", "tie", "(II)I"⟩, ⟨"RenvoiDeskModel", "think", "(II)I"⟩, ⟨"RenvoiDeskModel", "point", "(IIIZ)Z"⟩, ⟨"RenvoiDeskModel", "say", "(III)I"⟩, ⟨"RenvoiDeskModel", "headedBy", "(I)I"⟩, ⟨"RenvoiDeskModel", "join", "(II)I"⟩, ⟨"RenvoiDeskModel", "cut", "(I)I"⟩, ⟨"RenvoiDeskModel", "trades", "(II)V"⟩, ⟨"RenvoiDeskModel", "mirror", "(II)Z"⟩, ⟨"RenvoiDeskModel", "undo", "()I"⟩, ⟨"RenvoiDeskModel", "keep", "(IZ)Z"⟩, ⟨"RenvoiDeskModel", "allRules", "()I"⟩, ⟨"RenvoiDeskModel", "heads", "()I"⟩, ⟨"RenvoiDeskModel", "count", "(I)I"⟩, ⟨"RenvoiDeskLaw", "rule", "(LRenvoiDesk;III[J)I"⟩, ⟨"RenvoiDeskLaw", "law", "([I)Z"⟩, ⟨"java/lang/Integer", "bitCount", "(I)I"⟩, ⟨"java/lang/Long", "bitCount", "(J)I"⟩, ⟨"java/util/Arrays", "fill", "([II)V"⟩]
def mOwn (j : Nat) : Nat := mOwns.getD j 0
def mMaxL (j : Nat) : Nat := mMaxLs.getD j 0
def mKind (j : Nat) : Nat := mKinds.getD j 0
def mArg (j : Nat) : Nat := mArgs.getD j 0
def mRet (j : Nat) : Option FieldType := mRets.getD j none
def mC (j : Nat) : Nat := mCs.getD j 0
def mS (j : Nat) : Nat := mSs.getD j 0
def mCode (j : Nat) : ByteArray := mCodes.getD j ByteArray.empty
def mName (j : Nat) : MethodName := mNames.getD j ⟨"", "", ""⟩
/-- a method of the system, as the tables have it -/
def mOK (j : Nat) : Prop := Cond.code (mName j) (mCode j) (mMaxL j) (mRet j) ∈ gtbl ∧ (mName j).cls = oName (mOwn j) ∧ Cond.initialized (oName (mOwn j)) ∈ gtbl ∧ (oName (mOwn j) ≠ "java/lang/invoke/MethodHandle" ∧ oName (mOwn j) ≠ "java/lang/invoke/VarHandle") ∧ plainName (oName (mOwn j)) = true ∧ (parseMethodDescriptor (mName j).desc).map (fun d => d.parameters.length) = some (mArg j) ∧
  (mKind j = 0 → Cond.instanceMethod (mName j) ∈ gtbl ∧ Cond.selects (oName (mOwn j)) (mName j) (mName j) ∈ gtbl) ∧ (mKind j = 1 → Cond.static (mName j) ∈ gtbl) ∧ (mKind j = 2 → Cond.instanceMethod (mName j) ∈ gtbl ∧ (mName j).name = "<init>") ∧ (mKind j = 0 ∨ mKind j = 1 ∨ mKind j = 2)
set_option maxRecDepth 20000 in
theorem mw_0 : mOK 0 := ⟨tb2 0 rfl rfl, rfl, tb1 10 rfl rfl, ⟨by decide +kernel, by decide +kernel⟩, by decide +kernel, by decide +kernel, fun h => absurd h (by decide), fun h => absurd h (by decide), fun _ => ⟨tb1 239 rfl rfl, rfl⟩, Or.inr (Or.inr rfl)⟩
set_option maxRecDepth 20000 in
theorem mw_1 : mOK 1 := ⟨tb3 163 rfl rfl, rfl, tb1 10 rfl rfl, ⟨by decide +kernel, by decide +kernel⟩, by decide +kernel, by decide +kernel, fun _ => ⟨tb3 161 rfl rfl, tb3 162 rfl rfl⟩, fun h => absurd h (by decide), fun h => absurd h (by decide), Or.inl rfl⟩
set_option maxRecDepth 20000 in
theorem mw_2 : mOK 2 := ⟨tb3 221 rfl rfl, rfl, tb1 10 rfl rfl, ⟨by decide +kernel, by decide +kernel⟩, by decide +kernel, by decide +kernel, fun _ => ⟨tb3 219 rfl rfl, tb3 220 rfl rfl⟩, fun h => absurd h (by decide), fun h => absurd h (by decide), Or.inl rfl⟩
set_option maxRecDepth 20000 in
theorem mw_3 : mOK 3 := ⟨tb3 190 rfl rfl, rfl, tb1 10 rfl rfl, ⟨by decide +kernel, by decide +kernel⟩, by decide +kernel, by decide +kernel, fun _ => ⟨tb3 188 rfl rfl, tb3 189 rfl rfl⟩, fun h => absurd h (by decide), fun h => absurd h (by decide), Or.inl rfl⟩
set_option maxRecDepth 20000 in
theorem mw_4 : mOK 4 := ⟨tb3 194 rfl rfl, rfl, tb1 10 rfl rfl, ⟨by decide +kernel, by decide +kernel⟩, by decide +kernel, by decide +kernel, fun _ => ⟨tb3 192 rfl rfl, tb3 193 rfl rfl⟩, fun h => absurd h (by decide), fun h => absurd h (by decide), Or.inl rfl⟩
set_option maxRecDepth 20000 in
theorem mw_5 : mOK 5 := ⟨tb3 226 rfl rfl, rfl, tb1 10 rfl rfl, ⟨by decide +kernel, by decide +kernel⟩, by decide +kernel, by decide +kernel, fun _ => ⟨tb3 224 rfl rfl, tb3 225 rfl rfl⟩, fun h => absurd h (by decide), fun h => absurd h (by decide), Or.inl rfl⟩
set_option maxRecDepth 20000 in
theorem mw_6 : mOK 6 := ⟨tb3 231 rfl rfl, rfl, tb1 10 rfl rfl, ⟨by decide +kernel, by decide +kernel⟩, by decide +kernel, by decide +kernel, fun _ => ⟨tb3 229 rfl rfl, tb3 230 rfl rfl⟩, fun h => absurd h (by decide), fun h => absurd h (by decide), Or.inl rfl⟩
set_option maxRecDepth 20000 in
theorem mw_7 : mOK 7 := ⟨tb2 17 rfl rfl, rfl, tb1 11 rfl rfl, ⟨by decide +kernel, by decide +kernel⟩, by decide +kernel, by decide +kernel, fun h => absurd h (by decide), fun h => absurd h (by decide), fun _ => ⟨tb2 16 rfl rfl, rfl⟩, Or.inr (Or.inr rfl)⟩
set_option maxRecDepth 20000 in
theorem mw_8 : mOK 8 := ⟨tb2 213 rfl rfl, rfl, tb1 11 rfl rfl, ⟨by decide +kernel, by decide +kernel⟩, by decide +kernel, by decide +kernel, fun _ => ⟨tb2 211 rfl rfl, tb2 212 rfl rfl⟩, fun h => absurd h (by decide), fun h => absurd h (by decide), Or.inl rfl⟩
set_option maxRecDepth 20000 in
theorem mw_9 : mOK 9 := ⟨tb4 1 rfl rfl, rfl, tb1 11 rfl rfl, ⟨by decide +kernel, by decide +kernel⟩, by decide +kernel, by decide +kernel, fun _ => ⟨tb3 239 rfl rfl, tb4 0 rfl rfl⟩, fun h => absurd h (by decide), fun h => absurd h (by decide), Or.inl rfl⟩
set_option maxRecDepth 20000 in
theorem mw_10 : mOK 10 := ⟨tb4 72 rfl rfl, rfl, tb1 11 rfl rfl, ⟨by decide +kernel, by decide +kernel⟩, by decide +kernel, by decide +kernel, fun _ => ⟨tb4 70 rfl rfl, tb4 71 rfl rfl⟩, fun h => absurd h (by decide), fun h => absurd h (by decide), Or.inl rfl⟩
set_option maxRecDepth 20000 in
theorem mw_11 : mOK 11 := ⟨tb4 88 rfl rfl, rfl, tb1 11 rfl rfl, ⟨by decide +kernel, by decide +kernel⟩, by decide +kernel, by decide +kernel, fun _ => ⟨tb4 86 rfl rfl, tb4 87 rfl rfl⟩, fun h => absurd h (by decide), fun h => absurd h (by decide), Or.inl rfl⟩
set_option maxRecDepth 20000 in
theorem mw_12 : mOK 12 := ⟨tb4 84 rfl rfl, rfl, tb1 11 rfl rfl, ⟨by decide +kernel, by decide +kernel⟩, by decide +kernel, by decide +kernel, fun _ => ⟨tb4 82 rfl rfl, tb4 83 rfl rfl⟩, fun h => absurd h (by decide), fun h => absurd h (by decide), Or.inl rfl⟩
set_option maxRecDepth 20000 in
theorem mw_13 : mOK 13 := ⟨tb1 34 rfl rfl, rfl, tb1 2 rfl rfl, ⟨by decide +kernel, by decide +kernel⟩, by decide +kernel, by decide +kernel, fun h => absurd h (by decide), fun h => absurd h (by decide), fun _ => ⟨tb1 33 rfl rfl, rfl⟩, Or.inr (Or.inr rfl)⟩
set_option maxRecDepth 20000 in
theorem mw_14 : mOK 14 := ⟨tb1 110 rfl rfl, rfl, tb1 2 rfl rfl, ⟨by decide +kernel, by decide +kernel⟩, by decide +kernel, by decide +kernel, fun h => absurd h (by decide), fun _ => tb1 109 rfl rfl, fun h => absurd h (by decide), Or.inr (Or.inl rfl)⟩
set_option maxRecDepth 20000 in
theorem mw_15 : mOK 15 := ⟨tb2 76 rfl rfl, rfl, tb1 2 rfl rfl, ⟨by decide +kernel, by decide +kernel⟩, by decide +kernel, by decide +kernel, fun _ => ⟨tb2 74 rfl rfl, tb2 75 rfl rfl⟩, fun h => absurd h (by decide), fun h => absurd h (by decide), Or.inl rfl⟩
set_option maxRecDepth 20000 in
theorem mw_16 : mOK 16 := ⟨tb2 113 rfl rfl, rfl, tb1 2 rfl rfl, ⟨by decide +kernel, by decide +kernel⟩, by decide +kernel, by decide +kernel, fun _ => ⟨tb2 112 rfl rfl, tbp (n := 9) (List.mem_append_left _ (List.mem_of_getElem? (l := lw_privs_1) (i := 2) rfl)) rfl⟩, fun h => absurd h (by decide), fun h => absurd h (by decide), Or.inl rfl⟩
set_option maxRecDepth 20000 in
theorem mw_17 : mOK 17 := ⟨tb2 121 rfl rfl, rfl, tb1 2 rfl rfl, ⟨by decide +kernel, by decide +kernel⟩, by decide +kernel, by decide +kernel, fun _ => ⟨tb2 120 rfl rfl, tbp (n := 9) (List.mem_append_left _ (List.mem_of_getElem? (l := lw_privs_1) (i := 4) rfl)) rfl⟩, fun h => absurd h (by decide), fun h => absurd h (by decide), Or.inl rfl⟩
set_option maxRecDepth 20000 in
theorem mw_18 : mOK 18 := ⟨tb2 153 rfl rfl, rfl, tb1 2 rfl rfl, ⟨by decide +kernel, by decide +kernel⟩, by decide +kernel, by decide +kernel, fun _ => ⟨tb2 152 rfl rfl, tbp (n := 9) (List.mem_append_left _ (List.mem_of_getElem? (l := lw_privs_1) (i := 11) rfl)) rfl⟩, fun h => absurd h (by decide), fun h => absurd h (by decide), Or.inl rfl⟩
set_option maxRecDepth 20000 in
theorem mw_19 : mOK 19 := ⟨tb2 161 rfl rfl, rfl, tb1 2 rfl rfl, ⟨by decide +kernel, by decide +kernel⟩, by decide +kernel, by decide +kernel, fun _ => ⟨tb2 160 rfl rfl, tbp (n := 9) (List.mem_append_left _ (List.mem_of_getElem? (l := lw_privs_1) (i := 12) rfl)) rfl⟩, fun h => absurd h (by decide), fun h => absurd h (by decide), Or.inl rfl⟩
set_option maxRecDepth 20000 in
theorem mw_20 : mOK 20 := ⟨tb2 173 rfl rfl, rfl, tb1 2 rfl rfl, ⟨by decide +kernel, by decide +kernel⟩, by decide +kernel, by decide +kernel, fun _ => ⟨tb2 172 rfl rfl, tbp (n := 9) (List.mem_append_left _ (List.mem_of_getElem? (l := lw_privs_1) (i := 14) rfl)) rfl⟩, fun h => absurd h (by decide), fun h => absurd h (by decide), Or.inl rfl⟩
set_option maxRecDepth 20000 in
theorem mw_21 : mOK 21 := ⟨tb2 181 rfl rfl, rfl, tb1 2 rfl rfl, ⟨by decide +kernel, by decide +kernel⟩, by decide +kernel, by decide +kernel, fun _ => ⟨tb2 180 rfl rfl, tbp (n := 9) (List.mem_append_left _ (List.mem_of_getElem? (l := lw_privs_1) (i := 15) rfl)) rfl⟩, fun h => absurd h (by decide), fun h => absurd h (by decide), Or.inl rfl⟩
set_option maxRecDepth 20000 in
theorem mw_22 : mOK 22 := ⟨tb2 205 rfl rfl, rfl, tb1 2 rfl rfl, ⟨by decide +kernel, by decide +kernel⟩, by decide +kernel, by decide +kernel, fun _ => ⟨tb2 204 rfl rfl, tbp (n := 9) (List.mem_append_right _ (List.mem_append_left _ (List.mem_of_getElem? (l := lw_privs_2) (i := 0) rfl))) rfl⟩, fun h => absurd h (by decide), fun h => absurd h (by decide), Or.inl rfl⟩
set_option maxRecDepth 20000 in
theorem mw_23 : mOK 23 := ⟨tb2 129 rfl rfl, rfl, tb1 2 rfl rfl, ⟨by decide +kernel, by decide +kernel⟩, by decide +kernel, by decide +kernel, fun _ => ⟨tb2 128 rfl rfl, tbp (n := 9) (List.mem_append_left _ (List.mem_of_getElem? (l := lw_privs_1) (i := 6) rfl)) rfl⟩, fun h => absurd h (by decide), fun h => absurd h (by decide), Or.inl rfl⟩
set_option maxRecDepth 20000 in
theorem mw_24 : mOK 24 := ⟨tb2 165 rfl rfl, rfl, tb1 2 rfl rfl, ⟨by decide +kernel, by decide +kernel⟩, by decide +kernel, by decide +kernel, fun _ => ⟨tb2 164 rfl rfl, tbp (n := 9) (List.mem_append_left _ (List.mem_of_getElem? (l := lw_privs_1) (i := 13) rfl)) rfl⟩, fun h => absurd h (by decide), fun h => absurd h (by decide), Or.inl rfl⟩
set_option maxRecDepth 20000 in
theorem mw_25 : mOK 25 := ⟨tb2 141 rfl rfl, rfl, tb1 2 rfl rfl, ⟨by decide +kernel, by decide +kernel⟩, by decide +kernel, by decide +kernel, fun _ => ⟨tb2 140 rfl rfl, tbp (n := 9) (List.mem_append_left _ (List.mem_of_getElem? (l := lw_privs_1) (i := 9) rfl)) rfl⟩, fun h => absurd h (by decide), fun h => absurd h (by decide), Or.inl rfl⟩
set_option maxRecDepth 20000 in
theorem mw_26 : mOK 26 := ⟨tb2 149 rfl rfl, rfl, tb1 2 rfl rfl, ⟨by decide +kernel, by decide +kernel⟩, by decide +kernel, by decide +kernel, fun _ => ⟨tb2 148 rfl rfl, tbp (n := 9) (List.mem_append_left _ (List.mem_of_getElem? (l := lw_privs_1) (i := 10) rfl)) rfl⟩, fun h => absurd h (by decide), fun h => absurd h (by decide), Or.inl rfl⟩
set_option maxRecDepth 20000 in
theorem mw_27 : mOK 27 := ⟨tb2 133 rfl rfl, rfl, tb1 2 rfl rfl, ⟨by decide +kernel, by decide +kernel⟩, by decide +kernel, by decide +kernel, fun _ => ⟨tb2 132 rfl rfl, tbp (n := 9) (List.mem_append_left _ (List.mem_of_getElem? (l := lw_privs_1) (i := 7) rfl)) rfl⟩, fun h => absurd h (by decide), fun h => absurd h (by decide), Or.inl rfl⟩
set_option maxRecDepth 20000 in
theorem mw_28 : mOK 28 := ⟨tb2 117 rfl rfl, rfl, tb1 2 rfl rfl, ⟨by decide +kernel, by decide +kernel⟩, by decide +kernel, by decide +kernel, fun _ => ⟨tb2 116 rfl rfl, tbp (n := 9) (List.mem_append_left _ (List.mem_of_getElem? (l := lw_privs_1) (i := 3) rfl)) rfl⟩, fun h => absurd h (by decide), fun h => absurd h (by decide), Or.inl rfl⟩
set_option maxRecDepth 20000 in
theorem mw_29 : mOK 29 := ⟨tb2 137 rfl rfl, rfl, tb1 2 rfl rfl, ⟨by decide +kernel, by decide +kernel⟩, by decide +kernel, by decide +kernel, fun _ => ⟨tb2 136 rfl rfl, tbp (n := 9) (List.mem_append_left _ (List.mem_of_getElem? (l := lw_privs_1) (i := 8) rfl)) rfl⟩, fun h => absurd h (by decide), fun h => absurd h (by decide), Or.inl rfl⟩
set_option maxRecDepth 20000 in
theorem mw_30 : mOK 30 := ⟨tb2 125 rfl rfl, rfl, tb1 2 rfl rfl, ⟨by decide +kernel, by decide +kernel⟩, by decide +kernel, by decide +kernel, fun _ => ⟨tb2 124 rfl rfl, tbp (n := 9) (List.mem_append_left _ (List.mem_of_getElem? (l := lw_privs_1) (i := 5) rfl)) rfl⟩, fun h => absurd h (by decide), fun h => absurd h (by decide), Or.inl rfl⟩
set_option maxRecDepth 20000 in
theorem mw_31 : mOK 31 := ⟨tb1 203 rfl rfl, rfl, tb1 9 rfl rfl, ⟨by decide +kernel, by decide +kernel⟩, by decide +kernel, by decide +kernel, fun h => absurd h (by decide), fun h => absurd h (by decide), fun _ => ⟨tb1 202 rfl rfl, rfl⟩, Or.inr (Or.inr rfl)⟩
set_option maxRecDepth 20000 in
theorem mw_32 : mOK 32 := ⟨tb3 41 rfl rfl, rfl, tb1 9 rfl rfl, ⟨by decide +kernel, by decide +kernel⟩, by decide +kernel, by decide +kernel, fun _ => ⟨tb3 39 rfl rfl, tb3 40 rfl rfl⟩, fun h => absurd h (by decide), fun h => absurd h (by decide), Or.inl rfl⟩
set_option maxRecDepth 20000 in
theorem mw_33 : mOK 33 := ⟨tb3 59 rfl rfl, rfl, tb1 9 rfl rfl, ⟨by decide +kernel, by decide +kernel⟩, by decide +kernel, by decide +kernel, fun h => absurd h (by decide), fun _ => tb3 58 rfl rfl, fun h => absurd h (by decide), Or.inr (Or.inl rfl)⟩
set_option maxRecDepth 20000 in
theorem mw_34 : mOK 34 := ⟨tb3 63 rfl rfl, rfl, tb1 9 rfl rfl, ⟨by decide +kernel, by decide +kernel⟩, by decide +kernel, by decide +kernel, fun _ => ⟨tb3 62 rfl rfl, tbp (n := 9) (List.mem_append_right _ (List.mem_append_left _ (List.mem_of_getElem? (l := lw_privs_2) (i := 1) rfl))) rfl⟩, fun h => absurd h (by decide), fun h => absurd h (by decide), Or.inl rfl⟩
set_option maxRecDepth 20000 in
theorem mw_35 : mOK 35 := ⟨tb3 56 rfl rfl, rfl, tb1 9 rfl rfl, ⟨by decide +kernel, by decide +kernel⟩, by decide +kernel, by decide +kernel, fun _ => ⟨tb3 54 rfl rfl, tb3 55 rfl rfl⟩, fun h => absurd h (by decide), fun h => absurd h (by decide), Or.inl rfl⟩
set_option maxRecDepth 20000 in
theorem mw_36 : mOK 36 := ⟨tb3 67 rfl rfl, rfl, tb1 9 rfl rfl, ⟨by decide +kernel, by decide +kernel⟩, by decide +kernel, by decide +kernel, fun _ => ⟨tb3 65 rfl rfl, tb3 66 rfl rfl⟩, fun h => absurd h (by decide), fun h => absurd h (by decide), Or.inl rfl⟩
set_option maxRecDepth 20000 in
theorem mw_37 : mOK 37 := ⟨tb3 84 rfl rfl, rfl, tb1 9 rfl rfl, ⟨by decide +kernel, by decide +kernel⟩, by decide +kernel, by decide +kernel, fun _ => ⟨tb3 82 rfl rfl, tb3 83 rfl rfl⟩, fun h => absurd h (by decide), fun h => absurd h (by decide), Or.inl rfl⟩
set_option maxRecDepth 20000 in
theorem mw_38 : mOK 38 := ⟨tb3 89 rfl rfl, rfl, tb1 9 rfl rfl, ⟨by decide +kernel, by decide +kernel⟩, by decide +kernel, by decide +kernel, fun _ => ⟨tb3 88 rfl rfl, tbp (n := 9) (List.mem_append_right _ (List.mem_append_left _ (List.mem_of_getElem? (l := lw_privs_2) (i := 2) rfl))) rfl⟩, fun h => absurd h (by decide), fun h => absurd h (by decide), Or.inl rfl⟩
set_option maxRecDepth 20000 in
theorem mw_39 : mOK 39 := ⟨tb3 116 rfl rfl, rfl, tb1 9 rfl rfl, ⟨by decide +kernel, by decide +kernel⟩, by decide +kernel, by decide +kernel, fun _ => ⟨tb3 114 rfl rfl, tb3 115 rfl rfl⟩, fun h => absurd h (by decide), fun h => absurd h (by decide), Or.inl rfl⟩
set_option maxRecDepth 20000 in
theorem mw_40 : mOK 40 := ⟨tb3 120 rfl rfl, rfl, tb1 9 rfl rfl, ⟨by decide +kernel, by decide +kernel⟩, by decide +kernel, by decide +kernel, fun _ => ⟨tb3 119 rfl rfl, tbp (n := 9) (List.mem_append_right _ (List.mem_append_left _ (List.mem_of_getElem? (l := lw_privs_2) (i := 3) rfl))) rfl⟩, fun h => absurd h (by decide), fun h => absurd h (by decide), Or.inl rfl⟩
set_option maxRecDepth 20000 in
theorem mw_41 : mOK 41 := ⟨tb3 112 rfl rfl, rfl, tb1 9 rfl rfl, ⟨by decide +kernel, by decide +kernel⟩, by decide +kernel, by decide +kernel, fun _ => ⟨tb3 110 rfl rfl, tb3 111 rfl rfl⟩, fun h => absurd h (by decide), fun h => absurd h (by decide), Or.inl rfl⟩
set_option maxRecDepth 20000 in
theorem mw_42 : mOK 42 := ⟨tb3 129 rfl rfl, rfl, tb1 9 rfl rfl, ⟨by decide +kernel, by decide +kernel⟩, by decide +kernel, by decide +kernel, fun _ => ⟨tb3 127 rfl rfl, tb3 128 rfl rfl⟩, fun h => absurd h (by decide), fun h => absurd h (by decide), Or.inl rfl⟩
set_option maxRecDepth 20000 in
theorem mw_43 : mOK 43 := ⟨tb3 142 rfl rfl, rfl, tb1 9 rfl rfl, ⟨by decide +kernel, by decide +kernel⟩, by decide +kernel, by decide +kernel, fun _ => ⟨tb3 140 rfl rfl, tb3 141 rfl rfl⟩, fun h => absurd h (by decide), fun h => absurd h (by decide), Or.inl rfl⟩
set_option maxRecDepth 20000 in
theorem mw_44 : mOK 44 := ⟨tb3 173 rfl rfl, rfl, tb1 9 rfl rfl, ⟨by decide +kernel, by decide +kernel⟩, by decide +kernel, by decide +kernel, fun _ => ⟨tb3 171 rfl rfl, tb3 172 rfl rfl⟩, fun h => absurd h (by decide), fun h => absurd h (by decide), Or.inl rfl⟩
set_option maxRecDepth 20000 in
theorem mw_45 : mOK 45 := ⟨tb1 40 rfl rfl, rfl, tb1 3 rfl rfl, ⟨by decide +kernel, by decide +kernel⟩, by decide +kernel, by decide +kernel, fun h => absurd h (by decide), fun h => absurd h (by decide), fun _ => ⟨tb1 39 rfl rfl, rfl⟩, Or.inr (Or.inr rfl)⟩
set_option maxRecDepth 20000 in
theorem mw_46 : mOK 46 := ⟨tb2 64 rfl rfl, rfl, tb1 3 rfl rfl, ⟨by decide +kernel, by decide +kernel⟩, by decide +kernel, by decide +kernel, fun _ => ⟨tb2 62 rfl rfl, tb2 63 rfl rfl⟩, fun h => absurd h (by decide), fun h => absurd h (by decide), Or.inl rfl⟩
set_option maxRecDepth 20000 in
theorem mw_47 : mOK 47 := ⟨tb2 68 rfl rfl, rfl, tb1 3 rfl rfl, ⟨by decide +kernel, by decide +kernel⟩, by decide +kernel, by decide +kernel, fun _ => ⟨tb2 66 rfl rfl, tb2 67 rfl rfl⟩, fun h => absurd h (by decide), fun h => absurd h (by decide), Or.inl rfl⟩
set_option maxRecDepth 20000 in
theorem mw_48 : mOK 48 := ⟨tb2 87 rfl rfl, rfl, tb1 3 rfl rfl, ⟨by decide +kernel, by decide +kernel⟩, by decide +kernel, by decide +kernel, fun _ => ⟨tb2 85 rfl rfl, tb2 86 rfl rfl⟩, fun h => absurd h (by decide), fun h => absurd h (by decide), Or.inl rfl⟩
set_option maxRecDepth 20000 in
theorem mw_49 : mOK 49 := ⟨tb2 97 rfl rfl, rfl, tb1 3 rfl rfl, ⟨by decide +kernel, by decide +kernel⟩, by decide +kernel, by decide +kernel, fun _ => ⟨tb2 95 rfl rfl, tb2 96 rfl rfl⟩, fun h => absurd h (by decide), fun h => absurd h (by decide), Or.inl rfl⟩
set_option maxRecDepth 20000 in
theorem mw_50 : mOK 50 := ⟨tb2 104 rfl rfl, rfl, tb1 3 rfl rfl, ⟨by decide +kernel, by decide +kernel⟩, by decide +kernel, by decide +kernel, fun _ => ⟨tb2 103 rfl rfl, tbp (n := 7) (List.mem_append_left _ (List.mem_of_getElem? (l := lw_privs_1) (i := 0) rfl)) rfl⟩, fun h => absurd h (by decide), fun h => absurd h (by decide), Or.inl rfl⟩
set_option maxRecDepth 20000 in
theorem mw_51 : mOK 51 := ⟨tb2 109 rfl rfl, rfl, tb1 3 rfl rfl, ⟨by decide +kernel, by decide +kernel⟩, by decide +kernel, by decide +kernel, fun _ => ⟨tb2 108 rfl rfl, tbp (n := 7) (List.mem_append_left _ (List.mem_of_getElem? (l := lw_privs_1) (i := 1) rfl)) rfl⟩, fun h => absurd h (by decide), fun h => absurd h (by decide), Or.inl rfl⟩
set_option maxRecDepth 20000 in
theorem mw_52 : mOK 52 := ⟨tb1 161 rfl rfl, rfl, tb1 3 rfl rfl, ⟨by decide +kernel, by decide +kernel⟩, by decide +kernel, by decide +kernel, fun h => absurd h (by decide), fun _ => tb1 160 rfl rfl, fun h => absurd h (by decide), Or.inr (Or.inl rfl)⟩
set_option maxRecDepth 20000 in
theorem mw_53 : mOK 53 := ⟨tb2 100 rfl rfl, rfl, tb1 3 rfl rfl, ⟨by decide +kernel, by decide +kernel⟩, by decide +kernel, by decide +kernel, fun h => absurd h (by decide), fun _ => tb2 99 rfl rfl, fun h => absurd h (by decide), Or.inr (Or.inl rfl)⟩
set_option maxRecDepth 20000 in
theorem mw_54 : mOK 54 := ⟨tb1 73 rfl rfl, rfl, tb1 4 rfl rfl, ⟨by decide +kernel, by decide +kernel⟩, by decide +kernel, by decide +kernel, fun h => absurd h (by decide), fun h => absurd h (by decide), fun _ => ⟨tb1 72 rfl rfl, rfl⟩, Or.inr (Or.inr rfl)⟩
set_option maxRecDepth 20000 in
theorem mw_55 : mOK 55 := ⟨tb2 80 rfl rfl, rfl, tb1 4 rfl rfl, ⟨by decide +kernel, by decide +kernel⟩, by decide +kernel, by decide +kernel, fun _ => ⟨tb2 78 rfl rfl, tb2 79 rfl rfl⟩, fun h => absurd h (by decide), fun h => absurd h (by decide), Or.inl rfl⟩
set_option maxRecDepth 20000 in
theorem mw_56 : mOK 56 := ⟨tb3 198 rfl rfl, rfl, tb1 4 rfl rfl, ⟨by decide +kernel, by decide +kernel⟩, by decide +kernel, by decide +kernel, fun _ => ⟨tb3 196 rfl rfl, tb3 197 rfl rfl⟩, fun h => absurd h (by decide), fun h => absurd h (by decide), Or.inl rfl⟩
set_option maxRecDepth 20000 in
theorem mw_57 : mOK 57 := ⟨tb4 5 rfl rfl, rfl, tb1 4 rfl rfl, ⟨by decide +kernel, by decide +kernel⟩, by decide +kernel, by decide +kernel, fun _ => ⟨tb4 3 rfl rfl, tb4 4 rfl rfl⟩, fun h => absurd h (by decide), fun h => absurd h (by decide), Or.inl rfl⟩
set_option maxRecDepth 20000 in
theorem mw_58 : mOK 58 := ⟨tb4 76 rfl rfl, rfl, tb1 4 rfl rfl, ⟨by decide +kernel, by decide +kernel⟩, by decide +kernel, by decide +kernel, fun _ => ⟨tb4 74 rfl rfl, tb4 75 rfl rfl⟩, fun h => absurd h (by decide), fun h => absurd h (by decide), Or.inl rfl⟩
set_option maxRecDepth 20000 in
theorem mw_59 : mOK 59 := ⟨tb2 145 rfl rfl, rfl, tb1 4 rfl rfl, ⟨by decide +kernel, by decide +kernel⟩, by decide +kernel, by decide +kernel, fun _ => ⟨tb2 143 rfl rfl, tb2 144 rfl rfl⟩, fun h => absurd h (by decide), fun h => absurd h (by decide), Or.inl rfl⟩
set_option maxRecDepth 20000 in
theorem mw_60 : mOK 60 := ⟨tb2 157 rfl rfl, rfl, tb1 4 rfl rfl, ⟨by decide +kernel, by decide +kernel⟩, by decide +kernel, by decide +kernel, fun _ => ⟨tb2 155 rfl rfl, tb2 156 rfl rfl⟩, fun h => absurd h (by decide), fun h => absurd h (by decide), Or.inl rfl⟩
set_option maxRecDepth 20000 in
theorem mw_61 : mOK 61 := ⟨tb2 169 rfl rfl, rfl, tb1 4 rfl rfl, ⟨by decide +kernel, by decide +kernel⟩, by decide +kernel, by decide +kernel, fun _ => ⟨tb2 167 rfl rfl, tb2 168 rfl rfl⟩, fun h => absurd h (by decide), fun h => absurd h (by decide), Or.inl rfl⟩
set_option maxRecDepth 20000 in
theorem mw_62 : mOK 62 := ⟨tb2 177 rfl rfl, rfl, tb1 4 rfl rfl, ⟨by decide +kernel, by decide +kernel⟩, by decide +kernel, by decide +kernel, fun _ => ⟨tb2 175 rfl rfl, tb2 176 rfl rfl⟩, fun h => absurd h (by decide), fun h => absurd h (by decide), Or.inl rfl⟩
set_option maxRecDepth 20000 in
theorem mw_63 : mOK 63 := ⟨tb2 193 rfl rfl, rfl, tb1 4 rfl rfl, ⟨by decide +kernel, by decide +kernel⟩, by decide +kernel, by decide +kernel, fun _ => ⟨tb2 191 rfl rfl, tb2 192 rfl rfl⟩, fun h => absurd h (by decide), fun h => absurd h (by decide), Or.inl rfl⟩
set_option maxRecDepth 20000 in
theorem mw_64 : mOK 64 := ⟨tb2 197 rfl rfl, rfl, tb1 4 rfl rfl, ⟨by decide +kernel, by decide +kernel⟩, by decide +kernel, by decide +kernel, fun _ => ⟨tb2 195 rfl rfl, tb2 196 rfl rfl⟩, fun h => absurd h (by decide), fun h => absurd h (by decide), Or.inl rfl⟩
set_option maxRecDepth 20000 in
theorem mw_65 : mOK 65 := ⟨tb3 7 rfl rfl, rfl, tb1 4 rfl rfl, ⟨by decide +kernel, by decide +kernel⟩, by decide +kernel, by decide +kernel, fun _ => ⟨tb3 5 rfl rfl, tb3 6 rfl rfl⟩, fun h => absurd h (by decide), fun h => absurd h (by decide), Or.inl rfl⟩
set_option maxRecDepth 20000 in
theorem mw_66 : mOK 66 := ⟨tb3 32 rfl rfl, rfl, tb1 4 rfl rfl, ⟨by decide +kernel, by decide +kernel⟩, by decide +kernel, by decide +kernel, fun _ => ⟨tb3 30 rfl rfl, tb3 31 rfl rfl⟩, fun h => absurd h (by decide), fun h => absurd h (by decide), Or.inl rfl⟩
set_option maxRecDepth 20000 in
theorem mw_67 : mOK 67 := ⟨tb2 189 rfl rfl, rfl, tb1 4 rfl rfl, ⟨by decide +kernel, by decide +kernel⟩, by decide +kernel, by decide +kernel, fun _ => ⟨tb2 187 rfl rfl, tb2 188 rfl rfl⟩, fun h => absurd h (by decide), fun h => absurd h (by decide), Or.inl rfl⟩
set_option maxRecDepth 20000 in
theorem mw_68 : mOK 68 := ⟨tb3 168 rfl rfl, rfl, tb1 4 rfl rfl, ⟨by decide +kernel, by decide +kernel⟩, by decide +kernel, by decide +kernel, fun _ => ⟨tb3 166 rfl rfl, tb3 167 rfl rfl⟩, fun h => absurd h (by decide), fun h => absurd h (by decide), Or.inl rfl⟩
set_option maxRecDepth 20000 in
theorem mw_69 : mOK 69 := ⟨tb2 222 rfl rfl, rfl, tb1 4 rfl rfl, ⟨by decide +kernel, by decide +kernel⟩, by decide +kernel, by decide +kernel, fun _ => ⟨tb2 220 rfl rfl, tb2 221 rfl rfl⟩, fun h => absurd h (by decide), fun h => absurd h (by decide), Or.inl rfl⟩
set_option maxRecDepth 20000 in
theorem mw_70 : mOK 70 := ⟨tb4 15 rfl rfl, rfl, tb1 4 rfl rfl, ⟨by decide +kernel, by decide +kernel⟩, by decide +kernel, by decide +kernel, fun _ => ⟨tb4 13 rfl rfl, tb4 14 rfl rfl⟩, fun h => absurd h (by decide), fun h => absurd h (by decide), Or.inl rfl⟩
set_option maxRecDepth 20000 in
theorem mw_71 : mOK 71 := ⟨tb3 3 rfl rfl, rfl, tb1 4 rfl rfl, ⟨by decide +kernel, by decide +kernel⟩, by decide +kernel, by decide +kernel, fun _ => ⟨tb3 1 rfl rfl, tb3 2 rfl rfl⟩, fun h => absurd h (by decide), fun h => absurd h (by decide), Or.inl rfl⟩
set_option maxRecDepth 20000 in
theorem mw_72 : mOK 72 := ⟨tb3 206 rfl rfl, rfl, tb1 4 rfl rfl, ⟨by decide +kernel, by decide +kernel⟩, by decide +kernel, by decide +kernel, fun _ => ⟨tb3 204 rfl rfl, tb3 205 rfl rfl⟩, fun h => absurd h (by decide), fun h => absurd h (by decide), Or.inl rfl⟩
set_option maxRecDepth 20000 in
theorem mw_73 : mOK 73 := ⟨tb3 28 rfl rfl, rfl, tb1 4 rfl rfl, ⟨by decide +kernel, by decide +kernel⟩, by decide +kernel, by decide +kernel, fun _ => ⟨tb3 26 rfl rfl, tb3 27 rfl rfl⟩, fun h => absurd h (by decide), fun h => absurd h (by decide), Or.inl rfl⟩
set_option maxRecDepth 20000 in
theorem mw_74 : mOK 74 := ⟨tb3 15 rfl rfl, rfl, tb1 4 rfl rfl, ⟨by decide +kernel, by decide +kernel⟩, by decide +kernel, by decide +kernel, fun _ => ⟨tb3 13 rfl rfl, tb3 14 rfl rfl⟩, fun h => absurd h (by decide), fun h => absurd h (by decide), Or.inl rfl⟩
set_option maxRecDepth 20000 in
theorem mw_75 : mOK 75 := ⟨tb2 209 rfl rfl, rfl, tb1 4 rfl rfl, ⟨by decide +kernel, by decide +kernel⟩, by decide +kernel, by decide +kernel, fun _ => ⟨tb2 207 rfl rfl, tb2 208 rfl rfl⟩, fun h => absurd h (by decide), fun h => absurd h (by decide), Or.inl rfl⟩
set_option maxRecDepth 20000 in
theorem mw_76 : mOK 76 := ⟨tb2 185 rfl rfl, rfl, tb1 4 rfl rfl, ⟨by decide +kernel, by decide +kernel⟩, by decide +kernel, by decide +kernel, fun _ => ⟨tb2 183 rfl rfl, tb2 184 rfl rfl⟩, fun h => absurd h (by decide), fun h => absurd h (by decide), Or.inl rfl⟩
set_option maxRecDepth 20000 in
theorem mw_77 : mOK 77 := ⟨tb2 201 rfl rfl, rfl, tb1 4 rfl rfl, ⟨by decide +kernel, by decide +kernel⟩, by decide +kernel, by decide +kernel, fun _ => ⟨tb2 199 rfl rfl, tb2 200 rfl rfl⟩, fun h => absurd h (by decide), fun h => absurd h (by decide), Or.inl rfl⟩
set_option maxRecDepth 20000 in
theorem mw_78 : mOK 78 := ⟨tb3 46 rfl rfl, rfl, tb1 4 rfl rfl, ⟨by decide +kernel, by decide +kernel⟩, by decide +kernel, by decide +kernel, fun h => absurd h (by decide), fun _ => tb3 45 rfl rfl, fun h => absurd h (by decide), Or.inr (Or.inl rfl)⟩
set_option maxRecDepth 20000 in
theorem mw_79 : mOK 79 := ⟨tb3 50 rfl rfl, rfl, tb1 4 rfl rfl, ⟨by decide +kernel, by decide +kernel⟩, by decide +kernel, by decide +kernel, fun h => absurd h (by decide), fun _ => tb3 49 rfl rfl, fun h => absurd h (by decide), Or.inr (Or.inl rfl)⟩
set_option maxRecDepth 20000 in
theorem mw_80 : mOK 80 := ⟨tb2 226 rfl rfl, rfl, tb1 4 rfl rfl, ⟨by decide +kernel, by decide +kernel⟩, by decide +kernel, by decide +kernel, fun _ => ⟨tb2 224 rfl rfl, tb2 225 rfl rfl⟩, fun h => absurd h (by decide), fun h => absurd h (by decide), Or.inl rfl⟩
set_option maxRecDepth 20000 in
theorem mw_81 : mOK 81 := ⟨tb4 96 rfl rfl, rfl, tb1 4 rfl rfl, ⟨by decide +kernel, by decide +kernel⟩, by decide +kernel, by decide +kernel, fun _ => ⟨tb4 94 rfl rfl, tb4 95 rfl rfl⟩, fun h => absurd h (by decide), fun h => absurd h (by decide), Or.inl rfl⟩
set_option maxRecDepth 20000 in
theorem mw_82 : mOK 82 := ⟨tb2 231 rfl rfl, rfl, tb1 4 rfl rfl, ⟨by decide +kernel, by decide +kernel⟩, by decide +kernel, by decide +kernel, fun _ => ⟨tb2 229 rfl rfl, tb2 230 rfl rfl⟩, fun h => absurd h (by decide), fun h => absurd h (by decide), Or.inl rfl⟩
set_option maxRecDepth 20000 in
theorem mw_83 : mOK 83 := ⟨tb2 235 rfl rfl, rfl, tb1 4 rfl rfl, ⟨by decide +kernel, by decide +kernel⟩, by decide +kernel, by decide +kernel, fun _ => ⟨tb2 233 rfl rfl, tb2 234 rfl rfl⟩, fun h => absurd h (by decide), fun h => absurd h (by decide), Or.inl rfl⟩
set_option maxRecDepth 20000 in
theorem mw_84 : mOK 84 := ⟨tb4 37 rfl rfl, rfl, tb1 4 rfl rfl, ⟨by decide +kernel, by decide +kernel⟩, by decide +kernel, by decide +kernel, fun _ => ⟨tb4 35 rfl rfl, tb4 36 rfl rfl⟩, fun h => absurd h (by decide), fun h => absurd h (by decide), Or.inl rfl⟩
set_option maxRecDepth 20000 in
theorem mw_85 : mOK 85 := ⟨tb4 101 rfl rfl, rfl, tb1 4 rfl rfl, ⟨by decide +kernel, by decide +kernel⟩, by decide +kernel, by decide +kernel, fun _ => ⟨tb4 99 rfl rfl, tb4 100 rfl rfl⟩, fun h => absurd h (by decide), fun h => absurd h (by decide), Or.inl rfl⟩
set_option maxRecDepth 20000 in
theorem mw_86 : mOK 86 := ⟨tb4 33 rfl rfl, rfl, tb1 4 rfl rfl, ⟨by decide +kernel, by decide +kernel⟩, by decide +kernel, by decide +kernel, fun _ => ⟨tb4 31 rfl rfl, tb4 32 rfl rfl⟩, fun h => absurd h (by decide), fun h => absurd h (by decide), Or.inl rfl⟩
set_option maxRecDepth 20000 in
theorem mw_87 : mOK 87 := ⟨tb4 45 rfl rfl, rfl, tb1 4 rfl rfl, ⟨by decide +kernel, by decide +kernel⟩, by decide +kernel, by decide +kernel, fun _ => ⟨tb4 43 rfl rfl, tb4 44 rfl rfl⟩, fun h => absurd h (by decide), fun h => absurd h (by decide), Or.inl rfl⟩
set_option maxRecDepth 20000 in
theorem mw_88 : mOK 88 := ⟨tb4 49 rfl rfl, rfl, tb1 4 rfl rfl, ⟨by decide +kernel, by decide +kernel⟩, by decide +kernel, by decide +kernel, fun _ => ⟨tb4 48 rfl rfl, tbp (n := 6) (List.mem_append_right _ (List.mem_append_left _ (List.mem_of_getElem? (l := lw_privs_2) (i := 4) rfl))) rfl⟩, fun h => absurd h (by decide), fun h => absurd h (by decide), Or.inl rfl⟩
set_option maxRecDepth 20000 in
theorem mw_89 : mOK 89 := ⟨tb4 58 rfl rfl, rfl, tb1 4 rfl rfl, ⟨by decide +kernel, by decide +kernel⟩, by decide +kernel, by decide +kernel, fun _ => ⟨tb4 56 rfl rfl, tb4 57 rfl rfl⟩, fun h => absurd h (by decide), fun h => absurd h (by decide), Or.inl rfl⟩
set_option maxRecDepth 20000 in
theorem mw_90 : mOK 90 := ⟨tb4 62 rfl rfl, rfl, tb1 4 rfl rfl, ⟨by decide +kernel, by decide +kernel⟩, by decide +kernel, by decide +kernel, fun _ => ⟨tb4 61 rfl rfl, tbp (n := 6) (List.mem_append_right _ (List.mem_append_left _ (List.mem_of_getElem? (l := lw_privs_2) (i := 5) rfl))) rfl⟩, fun h => absurd h (by decide), fun h => absurd h (by decide), Or.inl rfl⟩
set_option maxRecDepth 20000 in
theorem mw_91 : mOK 91 := ⟨tb1 26 rfl rfl, rfl, tb1 1 rfl rfl, ⟨by decide +kernel, by decide +kernel⟩, by decide +kernel, by decide +kernel, fun h => absurd h (by decide), fun h => absurd h (by decide), fun _ => ⟨tb1 25 rfl rfl, rfl⟩, Or.inr (Or.inr rfl)⟩
set_option maxRecDepth 20000 in
theorem mw_92 : mOK 92 := ⟨tb2 60 rfl rfl, rfl, tb1 1 rfl rfl, ⟨by decide +kernel, by decide +kernel⟩, by decide +kernel, by decide +kernel, fun _ => ⟨tb2 58 rfl rfl, tb2 59 rfl rfl⟩, fun h => absurd h (by decide), fun h => absurd h (by decide), Or.inl rfl⟩
set_option maxRecDepth 20000 in
theorem mw_93 : mOK 93 := ⟨tb2 72 rfl rfl, rfl, tb1 1 rfl rfl, ⟨by decide +kernel, by decide +kernel⟩, by decide +kernel, by decide +kernel, fun _ => ⟨tb2 70 rfl rfl, tb2 71 rfl rfl⟩, fun h => absurd h (by decide), fun h => absurd h (by decide), Or.inl rfl⟩
set_option maxRecDepth 20000 in
theorem mw_94 : mOK 94 := ⟨tb2 217 rfl rfl, rfl, tb1 1 rfl rfl, ⟨by decide +kernel, by decide +kernel⟩, by decide +kernel, by decide +kernel, fun _ => ⟨tb2 215 rfl rfl, tb2 216 rfl rfl⟩, fun h => absurd h (by decide), fun h => absurd h (by decide), Or.inl rfl⟩
set_option maxRecDepth 20000 in
theorem mw_95 : mOK 95 := ⟨tb2 239 rfl rfl, rfl, tb1 1 rfl rfl, ⟨by decide +kernel, by decide +kernel⟩, by decide +kernel, by decide +kernel, fun _ => ⟨tb2 237 rfl rfl, tb2 238 rfl rfl⟩, fun h => absurd h (by decide), fun h => absurd h (by decide), Or.inl rfl⟩
set_option maxRecDepth 20000 in
theorem mw_96 : mOK 96 := ⟨tb4 109 rfl rfl, rfl, tb1 1 rfl rfl, ⟨by decide +kernel, by decide +kernel⟩, by decide +kernel, by decide +kernel, fun _ => ⟨tb4 107 rfl rfl, tb4 108 rfl rfl⟩, fun h => absurd h (by decide), fun h => absurd h (by decide), Or.inl rfl⟩
set_option maxRecDepth 20000 in
theorem mw_97 : mOK 97 := ⟨tb3 11 rfl rfl, rfl, tb1 1 rfl rfl, ⟨by decide +kernel, by decide +kernel⟩, by decide +kernel, by decide +kernel, fun _ => ⟨tb3 9 rfl rfl, tb3 10 rfl rfl⟩, fun h => absurd h (by decide), fun h => absurd h (by decide), Or.inl rfl⟩
set_option maxRecDepth 20000 in
theorem mw_98 : mOK 98 := ⟨tb3 19 rfl rfl, rfl, tb1 1 rfl rfl, ⟨by decide +kernel, by decide +kernel⟩, by decide +kernel, by decide +kernel, fun _ => ⟨tb3 17 rfl rfl, tb3 18 rfl rfl⟩, fun h => absurd h (by decide), fun h => absurd h (by decide), Or.inl rfl⟩
set_option maxRecDepth 20000 in
theorem mw_99 : mOK 99 := ⟨tb3 24 rfl rfl, rfl, tb1 1 rfl rfl, ⟨by decide +kernel, by decide +kernel⟩, by decide +kernel, by decide +kernel, fun _ => ⟨tb3 22 rfl rfl, tb3 23 rfl rfl⟩, fun h => absurd h (by decide), fun h => absurd h (by decide), Or.inl rfl⟩
set_option maxRecDepth 20000 in
theorem mw_100 : mOK 100 := ⟨tb3 36 rfl rfl, rfl, tb1 1 rfl rfl, ⟨by decide +kernel, by decide +kernel⟩, by decide +kernel, by decide +kernel, fun _ => ⟨tb3 34 rfl rfl, tb3 35 rfl rfl⟩, fun h => absurd h (by decide), fun h => absurd h (by decide), Or.inl rfl⟩
set_option maxRecDepth 20000 in
theorem mw_101 : mOK 101 := ⟨tb3 71 rfl rfl, rfl, tb1 1 rfl rfl, ⟨by decide +kernel, by decide +kernel⟩, by decide +kernel, by decide +kernel, fun _ => ⟨tb3 69 rfl rfl, tb3 70 rfl rfl⟩, fun h => absurd h (by decide), fun h => absurd h (by decide), Or.inl rfl⟩
set_option maxRecDepth 20000 in
theorem mw_102 : mOK 102 := ⟨tb3 75 rfl rfl, rfl, tb1 1 rfl rfl, ⟨by decide +kernel, by decide +kernel⟩, by decide +kernel, by decide +kernel, fun _ => ⟨tb3 73 rfl rfl, tb3 74 rfl rfl⟩, fun h => absurd h (by decide), fun h => absurd h (by decide), Or.inl rfl⟩
set_option maxRecDepth 20000 in
theorem mw_103 : mOK 103 := ⟨tb3 80 rfl rfl, rfl, tb1 1 rfl rfl, ⟨by decide +kernel, by decide +kernel⟩, by decide +kernel, by decide +kernel, fun _ => ⟨tb3 78 rfl rfl, tb3 79 rfl rfl⟩, fun h => absurd h (by decide), fun h => absurd h (by decide), Or.inl rfl⟩
set_option maxRecDepth 20000 in
theorem mw_104 : mOK 104 := ⟨tb3 98 rfl rfl, rfl, tb1 1 rfl rfl, ⟨by decide +kernel, by decide +kernel⟩, by decide +kernel, by decide +kernel, fun h => absurd h (by decide), fun _ => tb3 97 rfl rfl, fun h => absurd h (by decide), Or.inr (Or.inl rfl)⟩
set_option maxRecDepth 20000 in
theorem mw_105 : mOK 105 := ⟨tb3 102 rfl rfl, rfl, tb1 1 rfl rfl, ⟨by decide +kernel, by decide +kernel⟩, by decide +kernel, by decide +kernel, fun _ => ⟨tb3 100 rfl rfl, tb3 101 rfl rfl⟩, fun h => absurd h (by decide), fun h => absurd h (by decide), Or.inl rfl⟩
set_option maxRecDepth 20000 in
theorem mw_106 : mOK 106 := ⟨tb3 125 rfl rfl, rfl, tb1 1 rfl rfl, ⟨by decide +kernel, by decide +kernel⟩, by decide +kernel, by decide +kernel, fun _ => ⟨tb3 123 rfl rfl, tb3 124 rfl rfl⟩, fun h => absurd h (by decide), fun h => absurd h (by decide), Or.inl rfl⟩
set_option maxRecDepth 20000 in
theorem mw_107 : mOK 107 := ⟨tb3 105 rfl rfl, rfl, tb1 1 rfl rfl, ⟨by decide +kernel, by decide +kernel⟩, by decide +kernel, by decide +kernel, fun h => absurd h (by decide), fun _ => tb3 104 rfl rfl, fun h => absurd h (by decide), Or.inr (Or.inl rfl)⟩
set_option maxRecDepth 20000 in
theorem mw_108 : mOK 108 := ⟨tb3 108 rfl rfl, rfl, tb1 1 rfl rfl, ⟨by decide +kernel, by decide +kernel⟩, by decide +kernel, by decide +kernel, fun h => absurd h (by decide), fun _ => tb3 107 rfl rfl, fun h => absurd h (by decide), Or.inr (Or.inl rfl)⟩
set_option maxRecDepth 20000 in
theorem mw_109 : mOK 109 := ⟨tb3 134 rfl rfl, rfl, tb1 1 rfl rfl, ⟨by decide +kernel, by decide +kernel⟩, by decide +kernel, by decide +kernel, fun _ => ⟨tb3 132 rfl rfl, tb3 133 rfl rfl⟩, fun h => absurd h (by decide), fun h => absurd h (by decide), Or.inl rfl⟩
set_option maxRecDepth 20000 in
theorem mw_110 : mOK 110 := ⟨tb3 138 rfl rfl, rfl, tb1 1 rfl rfl, ⟨by decide +kernel, by decide +kernel⟩, by decide +kernel, by decide +kernel, fun _ => ⟨tb3 136 rfl rfl, tb3 137 rfl rfl⟩, fun h => absurd h (by decide), fun h => absurd h (by decide), Or.inl rfl⟩
set_option maxRecDepth 20000 in
theorem mw_111 : mOK 111 := ⟨tb3 149 rfl rfl, rfl, tb1 1 rfl rfl, ⟨by decide +kernel, by decide +kernel⟩, by decide +kernel, by decide +kernel, fun _ => ⟨tb3 147 rfl rfl, tb3 148 rfl rfl⟩, fun h => absurd h (by decide), fun h => absurd h (by decide), Or.inl rfl⟩
set_option maxRecDepth 20000 in
theorem mw_112 : mOK 112 := ⟨tb3 145 rfl rfl, rfl, tb1 1 rfl rfl, ⟨by decide +kernel, by decide +kernel⟩, by decide +kernel, by decide +kernel, fun h => absurd h (by decide), fun _ => tb3 144 rfl rfl, fun h => absurd h (by decide), Or.inr (Or.inl rfl)⟩
set_option maxRecDepth 20000 in
theorem mw_113 : mOK 113 := ⟨tb3 153 rfl rfl, rfl, tb1 1 rfl rfl, ⟨by decide +kernel, by decide +kernel⟩, by decide +kernel, by decide +kernel, fun _ => ⟨tb3 151 rfl rfl, tb3 152 rfl rfl⟩, fun h => absurd h (by decide), fun h => absurd h (by decide), Or.inl rfl⟩
set_option maxRecDepth 20000 in
theorem mw_114 : mOK 114 := ⟨tb3 158 rfl rfl, rfl, tb1 1 rfl rfl, ⟨by decide +kernel, by decide +kernel⟩, by decide +kernel, by decide +kernel, fun _ => ⟨tb3 156 rfl rfl, tb3 157 rfl rfl⟩, fun h => absurd h (by decide), fun h => absurd h (by decide), Or.inl rfl⟩
set_option maxRecDepth 20000 in
theorem mw_115 : mOK 115 := ⟨tb3 177 rfl rfl, rfl, tb1 1 rfl rfl, ⟨by decide +kernel, by decide +kernel⟩, by decide +kernel, by decide +kernel, fun _ => ⟨tb3 175 rfl rfl, tb3 176 rfl rfl⟩, fun h => absurd h (by decide), fun h => absurd h (by decide), Or.inl rfl⟩
set_option maxRecDepth 20000 in
theorem mw_116 : mOK 116 := ⟨tb3 181 rfl rfl, rfl, tb1 1 rfl rfl, ⟨by decide +kernel, by decide +kernel⟩, by decide +kernel, by decide +kernel, fun _ => ⟨tb3 179 rfl rfl, tb3 180 rfl rfl⟩, fun h => absurd h (by decide), fun h => absurd h (by decide), Or.inl rfl⟩
set_option maxRecDepth 20000 in
theorem mw_117 : mOK 117 := ⟨tb3 186 rfl rfl, rfl, tb1 1 rfl rfl, ⟨by decide +kernel, by decide +kernel⟩, by decide +kernel, by decide +kernel, fun _ => ⟨tb3 184 rfl rfl, tb3 185 rfl rfl⟩, fun h => absurd h (by decide), fun h => absurd h (by decide), Or.inl rfl⟩
set_option maxRecDepth 20000 in
theorem mw_118 : mOK 118 := ⟨tb3 217 rfl rfl, rfl, tb1 1 rfl rfl, ⟨by decide +kernel, by decide +kernel⟩, by decide +kernel, by decide +kernel, fun _ => ⟨tb3 215 rfl rfl, tb3 216 rfl rfl⟩, fun h => absurd h (by decide), fun h => absurd h (by decide), Or.inl rfl⟩
set_option maxRecDepth 20000 in
theorem mw_119 : mOK 119 := ⟨tb3 236 rfl rfl, rfl, tb1 1 rfl rfl, ⟨by decide +kernel, by decide +kernel⟩, by decide +kernel, by decide +kernel, fun _ => ⟨tb3 234 rfl rfl, tb3 235 rfl rfl⟩, fun h => absurd h (by decide), fun h => absurd h (by decide), Or.inl rfl⟩
set_option maxRecDepth 20000 in
theorem mw_120 : mOK 120 := ⟨tb4 11 rfl rfl, rfl, tb1 1 rfl rfl, ⟨by decide +kernel, by decide +kernel⟩, by decide +kernel, by decide +kernel, fun _ => ⟨tb4 9 rfl rfl, tb4 10 rfl rfl⟩, fun h => absurd h (by decide), fun h => absurd h (by decide), Or.inl rfl⟩
set_option maxRecDepth 20000 in
theorem mw_121 : mOK 121 := ⟨tb4 19 rfl rfl, rfl, tb1 1 rfl rfl, ⟨by decide +kernel, by decide +kernel⟩, by decide +kernel, by decide +kernel, fun _ => ⟨tb4 17 rfl rfl, tb4 18 rfl rfl⟩, fun h => absurd h (by decide), fun h => absurd h (by decide), Or.inl rfl⟩
set_option maxRecDepth 20000 in
theorem mw_122 : mOK 122 := ⟨tb4 24 rfl rfl, rfl, tb1 1 rfl rfl, ⟨by decide +kernel, by decide +kernel⟩, by decide +kernel, by decide +kernel, fun _ => ⟨tb4 22 rfl rfl, tb4 23 rfl rfl⟩, fun h => absurd h (by decide), fun h => absurd h (by decide), Or.inl rfl⟩
set_option maxRecDepth 20000 in
theorem mw_123 : mOK 123 := ⟨tb4 29 rfl rfl, rfl, tb1 1 rfl rfl, ⟨by decide +kernel, by decide +kernel⟩, by decide +kernel, by decide +kernel, fun _ => ⟨tb4 27 rfl rfl, tb4 28 rfl rfl⟩, fun h => absurd h (by decide), fun h => absurd h (by decide), Or.inl rfl⟩
set_option maxRecDepth 20000 in
theorem mw_124 : mOK 124 := ⟨tb4 41 rfl rfl, rfl, tb1 1 rfl rfl, ⟨by decide +kernel, by decide +kernel⟩, by decide +kernel, by decide +kernel, fun _ => ⟨tb4 39 rfl rfl, tb4 40 rfl rfl⟩, fun h => absurd h (by decide), fun h => absurd h (by decide), Or.inl rfl⟩
set_option maxRecDepth 20000 in
theorem mw_125 : mOK 125 := ⟨tb4 54 rfl rfl, rfl, tb1 1 rfl rfl, ⟨by decide +kernel, by decide +kernel⟩, by decide +kernel, by decide +kernel, fun _ => ⟨tb4 52 rfl rfl, tb4 53 rfl rfl⟩, fun h => absurd h (by decide), fun h => absurd h (by decide), Or.inl rfl⟩
set_option maxRecDepth 20000 in
theorem mw_126 : mOK 126 := ⟨tb4 68 rfl rfl, rfl, tb1 1 rfl rfl, ⟨by decide +kernel, by decide +kernel⟩, by decide +kernel, by decide +kernel, fun _ => ⟨tb4 66 rfl rfl, tb4 67 rfl rfl⟩, fun h => absurd h (by decide), fun h => absurd h (by decide), Or.inl rfl⟩
set_option maxRecDepth 20000 in
theorem mw_127 : mOK 127 := ⟨tb4 80 rfl rfl, rfl, tb1 1 rfl rfl, ⟨by decide +kernel, by decide +kernel⟩, by decide +kernel, by decide +kernel, fun _ => ⟨tb4 78 rfl rfl, tb4 79 rfl rfl⟩, fun h => absurd h (by decide), fun h => absurd h (by decide), Or.inl rfl⟩
set_option maxRecDepth 20000 in
theorem mw_128 : mOK 128 := ⟨tb4 92 rfl rfl, rfl, tb1 1 rfl rfl, ⟨by decide +kernel, by decide +kernel⟩, by decide +kernel, by decide +kernel, fun _ => ⟨tb4 90 rfl rfl, tb4 91 rfl rfl⟩, fun h => absurd h (by decide), fun h => absurd h (by decide), Or.inl rfl⟩
set_option maxRecDepth 20000 in
theorem mw_129 : mOK 129 := ⟨tb4 182 rfl rfl, rfl, tb1 12 rfl rfl, ⟨by decide +kernel, by decide +kernel⟩, by decide +kernel, by decide +kernel, fun h => absurd h (by decide), fun h => absurd h (by decide), fun _ => ⟨tb4 181 rfl rfl, rfl⟩, Or.inr (Or.inr rfl)⟩
set_option maxRecDepth 20000 in
theorem mw_130 : mOK 130 := ⟨tb5 37 rfl rfl, rfl, tb1 12 rfl rfl, ⟨by decide +kernel, by decide +kernel⟩, by decide +kernel, by decide +kernel, fun _ => ⟨tb5 35 rfl rfl, tb5 36 rfl rfl⟩, fun h => absurd h (by decide), fun h => absurd h (by decide), Or.inl rfl⟩
set_option maxRecDepth 20000 in
theorem mw_131 : mOK 131 := ⟨tb5 52 rfl rfl, rfl, tb1 12 rfl rfl, ⟨by decide +kernel, by decide +kernel⟩, by decide +kernel, by decide +kernel, fun h => absurd h (by decide), fun _ => tb5 51 rfl rfl, fun h => absurd h (by decide), Or.inr (Or.inl rfl)⟩
set_option maxRecDepth 20000 in
theorem mw_132 : mOK 132 := ⟨tb5 45 rfl rfl, rfl, tb1 12 rfl rfl, ⟨by decide +kernel, by decide +kernel⟩, by decide +kernel, by decide +kernel, fun _ => ⟨tb5 44 rfl rfl, tbp (n := 29) (List.mem_append_right _ (List.mem_append_left _ (List.mem_of_getElem? (l := lw_privs_2) (i := 7) rfl))) rfl⟩, fun h => absurd h (by decide), fun h => absurd h (by decide), Or.inl rfl⟩
set_option maxRecDepth 20000 in
theorem mw_133 : mOK 133 := ⟨tb5 41 rfl rfl, rfl, tb1 12 rfl rfl, ⟨by decide +kernel, by decide +kernel⟩, by decide +kernel, by decide +kernel, fun _ => ⟨tb5 39 rfl rfl, tb5 40 rfl rfl⟩, fun h => absurd h (by decide), fun h => absurd h (by decide), Or.inl rfl⟩
set_option maxRecDepth 20000 in
theorem mw_134 : mOK 134 := ⟨tb5 64 rfl rfl, rfl, tb1 12 rfl rfl, ⟨by decide +kernel, by decide +kernel⟩, by decide +kernel, by decide +kernel, fun _ => ⟨tb5 63 rfl rfl, tbp (n := 29) (List.mem_append_right _ (List.mem_append_left _ (List.mem_of_getElem? (l := lw_privs_2) (i := 10) rfl))) rfl⟩, fun h => absurd h (by decide), fun h => absurd h (by decide), Or.inl rfl⟩
set_option maxRecDepth 20000 in
theorem mw_135 : mOK 135 := ⟨tb5 60 rfl rfl, rfl, tb1 12 rfl rfl, ⟨by decide +kernel, by decide +kernel⟩, by decide +kernel, by decide +kernel, fun _ => ⟨tb5 59 rfl rfl, tbp (n := 29) (List.mem_append_right _ (List.mem_append_left _ (List.mem_of_getElem? (l := lw_privs_2) (i := 9) rfl))) rfl⟩, fun h => absurd h (by decide), fun h => absurd h (by decide), Or.inl rfl⟩
set_option maxRecDepth 20000 in
theorem mw_136 : mOK 136 := ⟨tb5 92 rfl rfl, rfl, tb1 12 rfl rfl, ⟨by decide +kernel, by decide +kernel⟩, by decide +kernel, by decide +kernel, fun _ => ⟨tb5 91 rfl rfl, tbp (n := 29) (List.mem_append_right _ (List.mem_append_left _ (List.mem_of_getElem? (l := lw_privs_2) (i := 13) rfl))) rfl⟩, fun h => absurd h (by decide), fun h => absurd h (by decide), Or.inl rfl⟩
set_option maxRecDepth 20000 in
theorem mw_137 : mOK 137 := ⟨tb5 81 rfl rfl, rfl, tb1 12 rfl rfl, ⟨by decide +kernel, by decide +kernel⟩, by decide +kernel, by decide +kernel, fun h => absurd h (by decide), fun _ => tb5 80 rfl rfl, fun h => absurd h (by decide), Or.inr (Or.inl rfl)⟩
set_option maxRecDepth 20000 in
theorem mw_138 : mOK 138 := ⟨tb5 78 rfl rfl, rfl, tb1 12 rfl rfl, ⟨by decide +kernel, by decide +kernel⟩, by decide +kernel, by decide +kernel, fun _ => ⟨tb5 77 rfl rfl, tbp (n := 29) (List.mem_append_right _ (List.mem_append_left _ (List.mem_of_getElem? (l := lw_privs_2) (i := 12) rfl))) rfl⟩, fun h => absurd h (by decide), fun h => absurd h (by decide), Or.inl rfl⟩
set_option maxRecDepth 20000 in
theorem mw_139 : mOK 139 := ⟨tb5 108 rfl rfl, rfl, tb1 12 rfl rfl, ⟨by decide +kernel, by decide +kernel⟩, by decide +kernel, by decide +kernel, fun _ => ⟨tb5 107 rfl rfl, tbp (n := 29) (List.mem_append_right _ (List.mem_append_right _ (List.mem_append_left _ (List.mem_of_getElem? (l := lw_privs_3) (i := 1) rfl)))) rfl⟩, fun h => absurd h (by decide), fun h => absurd h (by decide), Or.inl rfl⟩
set_option maxRecDepth 20000 in
theorem mw_140 : mOK 140 := ⟨tb5 122 rfl rfl, rfl, tb1 12 rfl rfl, ⟨by decide +kernel, by decide +kernel⟩, by decide +kernel, by decide +kernel, fun _ => ⟨tb5 121 rfl rfl, tbp (n := 29) (List.mem_append_right _ (List.mem_append_right _ (List.mem_append_left _ (List.mem_of_getElem? (l := lw_privs_3) (i := 4) rfl)))) rfl⟩, fun h => absurd h (by decide), fun h => absurd h (by decide), Or.inl rfl⟩
set_option maxRecDepth 20000 in
theorem mw_141 : mOK 141 := ⟨tb5 96 rfl rfl, rfl, tb1 12 rfl rfl, ⟨by decide +kernel, by decide +kernel⟩, by decide +kernel, by decide +kernel, fun _ => ⟨tb5 95 rfl rfl, tbp (n := 29) (List.mem_append_right _ (List.mem_append_left _ (List.mem_of_getElem? (l := lw_privs_2) (i := 14) rfl))) rfl⟩, fun h => absurd h (by decide), fun h => absurd h (by decide), Or.inl rfl⟩
set_option maxRecDepth 20000 in
theorem mw_142 : mOK 142 := ⟨tb5 118 rfl rfl, rfl, tb1 12 rfl rfl, ⟨by decide +kernel, by decide +kernel⟩, by decide +kernel, by decide +kernel, fun _ => ⟨tb5 117 rfl rfl, tbp (n := 29) (List.mem_append_right _ (List.mem_append_right _ (List.mem_append_left _ (List.mem_of_getElem? (l := lw_privs_3) (i := 3) rfl)))) rfl⟩, fun h => absurd h (by decide), fun h => absurd h (by decide), Or.inl rfl⟩
set_option maxRecDepth 20000 in
theorem mw_143 : mOK 143 := ⟨tb5 114 rfl rfl, rfl, tb1 12 rfl rfl, ⟨by decide +kernel, by decide +kernel⟩, by decide +kernel, by decide +kernel, fun _ => ⟨tb5 113 rfl rfl, tbp (n := 29) (List.mem_append_right _ (List.mem_append_right _ (List.mem_append_left _ (List.mem_of_getElem? (l := lw_privs_3) (i := 2) rfl)))) rfl⟩, fun h => absurd h (by decide), fun h => absurd h (by decide), Or.inl rfl⟩
set_option maxRecDepth 20000 in
theorem mw_144 : mOK 144 := ⟨tb5 104 rfl rfl, rfl, tb1 12 rfl rfl, ⟨by decide +kernel, by decide +kernel⟩, by decide +kernel, by decide +kernel, fun _ => ⟨tb5 103 rfl rfl, tbp (n := 29) (List.mem_append_right _ (List.mem_append_right _ (List.mem_append_left _ (List.mem_of_getElem? (l := lw_privs_3) (i := 0) rfl)))) rfl⟩, fun h => absurd h (by decide), fun h => absurd h (by decide), Or.inl rfl⟩
set_option maxRecDepth 20000 in
theorem mw_145 : mOK 145 := ⟨tb5 126 rfl rfl, rfl, tb1 12 rfl rfl, ⟨by decide +kernel, by decide +kernel⟩, by decide +kernel, by decide +kernel, fun _ => ⟨tb5 125 rfl rfl, tbp (n := 29) (List.mem_append_right _ (List.mem_append_right _ (List.mem_append_left _ (List.mem_of_getElem? (l := lw_privs_3) (i := 5) rfl)))) rfl⟩, fun h => absurd h (by decide), fun h => absurd h (by decide), Or.inl rfl⟩
set_option maxRecDepth 20000 in
theorem mw_146 : mOK 146 := ⟨tb5 138 rfl rfl, rfl, tb1 12 rfl rfl, ⟨by decide +kernel, by decide +kernel⟩, by decide +kernel, by decide +kernel, fun _ => ⟨tb5 137 rfl rfl, tbp (n := 29) (List.mem_append_right _ (List.mem_append_right _ (List.mem_append_left _ (List.mem_of_getElem? (l := lw_privs_3) (i := 8) rfl)))) rfl⟩, fun h => absurd h (by decide), fun h => absurd h (by decide), Or.inl rfl⟩
set_option maxRecDepth 20000 in
theorem mw_147 : mOK 147 := ⟨tb5 100 rfl rfl, rfl, tb1 12 rfl rfl, ⟨by decide +kernel, by decide +kernel⟩, by decide +kernel, by decide +kernel, fun _ => ⟨tb5 99 rfl rfl, tbp (n := 29) (List.mem_append_right _ (List.mem_append_left _ (List.mem_of_getElem? (l := lw_privs_2) (i := 15) rfl))) rfl⟩, fun h => absurd h (by decide), fun h => absurd h (by decide), Or.inl rfl⟩
set_option maxRecDepth 20000 in
theorem mw_148 : mOK 148 := ⟨tb5 130 rfl rfl, rfl, tb1 12 rfl rfl, ⟨by decide +kernel, by decide +kernel⟩, by decide +kernel, by decide +kernel, fun _ => ⟨tb5 129 rfl rfl, tbp (n := 29) (List.mem_append_right _ (List.mem_append_right _ (List.mem_append_left _ (List.mem_of_getElem? (l := lw_privs_3) (i := 6) rfl)))) rfl⟩, fun h => absurd h (by decide), fun h => absurd h (by decide), Or.inl rfl⟩
set_option maxRecDepth 20000 in
theorem mw_149 : mOK 149 := ⟨tb5 134 rfl rfl, rfl, tb1 12 rfl rfl, ⟨by decide +kernel, by decide +kernel⟩, by decide +kernel, by decide +kernel, fun _ => ⟨tb5 133 rfl rfl, tbp (n := 29) (List.mem_append_right _ (List.mem_append_right _ (List.mem_append_left _ (List.mem_of_getElem? (l := lw_privs_3) (i := 7) rfl)))) rfl⟩, fun h => absurd h (by decide), fun h => absurd h (by decide), Or.inl rfl⟩
set_option maxRecDepth 20000 in
theorem mw_150 : mOK 150 := ⟨tb5 146 rfl rfl, rfl, tb1 12 rfl rfl, ⟨by decide +kernel, by decide +kernel⟩, by decide +kernel, by decide +kernel, fun _ => ⟨tb5 145 rfl rfl, tbp (n := 29) (List.mem_append_right _ (List.mem_append_right _ (List.mem_append_left _ (List.mem_of_getElem? (l := lw_privs_3) (i := 10) rfl)))) rfl⟩, fun h => absurd h (by decide), fun h => absurd h (by decide), Or.inl rfl⟩
set_option maxRecDepth 20000 in
theorem mw_151 : mOK 151 := ⟨tb5 150 rfl rfl, rfl, tb1 12 rfl rfl, ⟨by decide +kernel, by decide +kernel⟩, by decide +kernel, by decide +kernel, fun _ => ⟨tb5 149 rfl rfl, tbp (n := 29) (List.mem_append_right _ (List.mem_append_right _ (List.mem_append_left _ (List.mem_of_getElem? (l := lw_privs_3) (i := 11) rfl)))) rfl⟩, fun h => absurd h (by decide), fun h => absurd h (by decide), Or.inl rfl⟩
set_option maxRecDepth 20000 in
theorem mw_152 : mOK 152 := ⟨tb5 142 rfl rfl, rfl, tb1 12 rfl rfl, ⟨by decide +kernel, by decide +kernel⟩, by decide +kernel, by decide +kernel, fun _ => ⟨tb5 141 rfl rfl, tbp (n := 29) (List.mem_append_right _ (List.mem_append_right _ (List.mem_append_left _ (List.mem_of_getElem? (l := lw_privs_3) (i := 9) rfl)))) rfl⟩, fun h => absurd h (by decide), fun h => absurd h (by decide), Or.inl rfl⟩
set_option maxRecDepth 20000 in
theorem mw_153 : mOK 153 := ⟨tb5 73 rfl rfl, rfl, tb1 12 rfl rfl, ⟨by decide +kernel, by decide +kernel⟩, by decide +kernel, by decide +kernel, fun _ => ⟨tb5 72 rfl rfl, tbp (n := 29) (List.mem_append_right _ (List.mem_append_left _ (List.mem_of_getElem? (l := lw_privs_2) (i := 11) rfl))) rfl⟩, fun h => absurd h (by decide), fun h => absurd h (by decide), Or.inl rfl⟩
set_option maxRecDepth 20000 in
theorem mw_154 : mOK 154 := ⟨tb5 56 rfl rfl, rfl, tb1 12 rfl rfl, ⟨by decide +kernel, by decide +kernel⟩, by decide +kernel, by decide +kernel, fun _ => ⟨tb5 55 rfl rfl, tbp (n := 29) (List.mem_append_right _ (List.mem_append_left _ (List.mem_of_getElem? (l := lw_privs_2) (i := 8) rfl))) rfl⟩, fun h => absurd h (by decide), fun h => absurd h (by decide), Or.inl rfl⟩
set_option maxRecDepth 20000 in
theorem mw_155 : mOK 155 := ⟨tb5 49 rfl rfl, rfl, tb1 12 rfl rfl, ⟨by decide +kernel, by decide +kernel⟩, by decide +kernel, by decide +kernel, fun _ => ⟨tb5 47 rfl rfl, tb5 48 rfl rfl⟩, fun h => absurd h (by decide), fun h => absurd h (by decide), Or.inl rfl⟩
set_option maxRecDepth 20000 in
theorem mw_156 : mOK 156 := ⟨tb5 158 rfl rfl, rfl, tb1 12 rfl rfl, ⟨by decide +kernel, by decide +kernel⟩, by decide +kernel, by decide +kernel, fun _ => ⟨tb5 157 rfl rfl, tbp (n := 29) (List.mem_append_right _ (List.mem_append_right _ (List.mem_append_left _ (List.mem_of_getElem? (l := lw_privs_3) (i := 12) rfl)))) rfl⟩, fun h => absurd h (by decide), fun h => absurd h (by decide), Or.inl rfl⟩
set_option maxRecDepth 20000 in
theorem mw_157 : mOK 157 := ⟨tb5 186 rfl rfl, rfl, tb1 12 rfl rfl, ⟨by decide +kernel, by decide +kernel⟩, by decide +kernel, by decide +kernel, fun _ => ⟨tb5 185 rfl rfl, tbp (n := 29) (List.mem_append_right _ (List.mem_append_right _ (List.mem_append_right _ (List.mem_append_left _ (List.mem_of_getElem? (l := lw_privs_4) (i := 1) rfl))))) rfl⟩, fun h => absurd h (by decide), fun h => absurd h (by decide), Or.inl rfl⟩
set_option maxRecDepth 20000 in
theorem mw_158 : mOK 158 := ⟨tb5 178 rfl rfl, rfl, tb1 12 rfl rfl, ⟨by decide +kernel, by decide +kernel⟩, by decide +kernel, by decide +kernel, fun _ => ⟨tb5 177 rfl rfl, tbp (n := 29) (List.mem_append_right _ (List.mem_append_right _ (List.mem_append_right _ (List.mem_append_left _ (List.mem_of_getElem? (l := lw_privs_4) (i := 0) rfl))))) rfl⟩, fun h => absurd h (by decide), fun h => absurd h (by decide), Or.inl rfl⟩
set_option maxRecDepth 20000 in
theorem mw_159 : mOK 159 := ⟨tb5 207 rfl rfl, rfl, tb1 12 rfl rfl, ⟨by decide +kernel, by decide +kernel⟩, by decide +kernel, by decide +kernel, fun _ => ⟨tb5 206 rfl rfl, tbp (n := 29) (List.mem_append_right _ (List.mem_append_right _ (List.mem_append_right _ (List.mem_append_left _ (List.mem_of_getElem? (l := lw_privs_4) (i := 3) rfl))))) rfl⟩, fun h => absurd h (by decide), fun h => absurd h (by decide), Or.inl rfl⟩
set_option maxRecDepth 20000 in
theorem mw_160 : mOK 160 := ⟨tb5 170 rfl rfl, rfl, tb1 12 rfl rfl, ⟨by decide +kernel, by decide +kernel⟩, by decide +kernel, by decide +kernel, fun _ => ⟨tb5 169 rfl rfl, tbp (n := 29) (List.mem_append_right _ (List.mem_append_right _ (List.mem_append_left _ (List.mem_of_getElem? (l := lw_privs_3) (i := 15) rfl)))) rfl⟩, fun h => absurd h (by decide), fun h => absurd h (by decide), Or.inl rfl⟩
set_option maxRecDepth 20000 in
theorem mw_161 : mOK 161 := ⟨tb5 162 rfl rfl, rfl, tb1 12 rfl rfl, ⟨by decide +kernel, by decide +kernel⟩, by decide +kernel, by decide +kernel, fun _ => ⟨tb5 161 rfl rfl, tbp (n := 29) (List.mem_append_right _ (List.mem_append_right _ (List.mem_append_left _ (List.mem_of_getElem? (l := lw_privs_3) (i := 13) rfl)))) rfl⟩, fun h => absurd h (by decide), fun h => absurd h (by decide), Or.inl rfl⟩
set_option maxRecDepth 20000 in
theorem mw_162 : mOK 162 := ⟨tb5 166 rfl rfl, rfl, tb1 12 rfl rfl, ⟨by decide +kernel, by decide +kernel⟩, by decide +kernel, by decide +kernel, fun _ => ⟨tb5 165 rfl rfl, tbp (n := 29) (List.mem_append_right _ (List.mem_append_right _ (List.mem_append_left _ (List.mem_of_getElem? (l := lw_privs_3) (i := 14) rfl)))) rfl⟩, fun h => absurd h (by decide), fun h => absurd h (by decide), Or.inl rfl⟩
set_option maxRecDepth 20000 in
theorem mw_163 : mOK 163 := ⟨tb5 154 rfl rfl, rfl, tb1 12 rfl rfl, ⟨by decide +kernel, by decide +kernel⟩, by decide +kernel, by decide +kernel, fun _ => ⟨tb5 152 rfl rfl, tb5 153 rfl rfl⟩, fun h => absurd h (by decide), fun h => absurd h (by decide), Or.inl rfl⟩
set_option maxRecDepth 20000 in
theorem mw_164 : mOK 164 := ⟨tb5 174 rfl rfl, rfl, tb1 12 rfl rfl, ⟨by decide +kernel, by decide +kernel⟩, by decide +kernel, by decide +kernel, fun _ => ⟨tb5 172 rfl rfl, tb5 173 rfl rfl⟩, fun h => absurd h (by decide), fun h => absurd h (by decide), Or.inl rfl⟩
set_option maxRecDepth 20000 in
theorem mw_165 : mOK 165 := ⟨tb5 191 rfl rfl, rfl, tb1 12 rfl rfl, ⟨by decide +kernel, by decide +kernel⟩, by decide +kernel, by decide +kernel, fun _ => ⟨tb5 190 rfl rfl, tbp (n := 29) (List.mem_append_right _ (List.mem_append_right _ (List.mem_append_right _ (List.mem_append_left _ (List.mem_of_getElem? (l := lw_privs_4) (i := 2) rfl))))) rfl⟩, fun h => absurd h (by decide), fun h => absurd h (by decide), Or.inl rfl⟩
set_option maxRecDepth 20000 in
theorem mw_166 : mOK 166 := ⟨tb5 223 rfl rfl, rfl, tb1 12 rfl rfl, ⟨by decide +kernel, by decide +kernel⟩, by decide +kernel, by decide +kernel, fun _ => ⟨tb5 222 rfl rfl, tbp (n := 29) (List.mem_append_right _ (List.mem_append_right _ (List.mem_append_right _ (List.mem_append_left _ (List.mem_of_getElem? (l := lw_privs_4) (i := 6) rfl))))) rfl⟩, fun h => absurd h (by decide), fun h => absurd h (by decide), Or.inl rfl⟩
set_option maxRecDepth 20000 in
theorem mw_167 : mOK 167 := ⟨tb5 182 rfl rfl, rfl, tb1 12 rfl rfl, ⟨by decide +kernel, by decide +kernel⟩, by decide +kernel, by decide +kernel, fun _ => ⟨tb5 180 rfl rfl, tb5 181 rfl rfl⟩, fun h => absurd h (by decide), fun h => absurd h (by decide), Or.inl rfl⟩
set_option maxRecDepth 20000 in
theorem mw_168 : mOK 168 := ⟨tb5 195 rfl rfl, rfl, tb1 12 rfl rfl, ⟨by decide +kernel, by decide +kernel⟩, by decide +kernel, by decide +kernel, fun _ => ⟨tb5 193 rfl rfl, tb5 194 rfl rfl⟩, fun h => absurd h (by decide), fun h => absurd h (by decide), Or.inl rfl⟩
set_option maxRecDepth 20000 in
theorem mw_169 : mOK 169 := ⟨tb5 199 rfl rfl, rfl, tb1 12 rfl rfl, ⟨by decide +kernel, by decide +kernel⟩, by decide +kernel, by decide +kernel, fun _ => ⟨tb5 197 rfl rfl, tb5 198 rfl rfl⟩, fun h => absurd h (by decide), fun h => absurd h (by decide), Or.inl rfl⟩
set_option maxRecDepth 20000 in
theorem mw_170 : mOK 170 := ⟨tb5 203 rfl rfl, rfl, tb1 12 rfl rfl, ⟨by decide +kernel, by decide +kernel⟩, by decide +kernel, by decide +kernel, fun _ => ⟨tb5 201 rfl rfl, tb5 202 rfl rfl⟩, fun h => absurd h (by decide), fun h => absurd h (by decide), Or.inl rfl⟩
set_option maxRecDepth 20000 in
theorem mw_171 : mOK 171 := ⟨tb5 227 rfl rfl, rfl, tb1 12 rfl rfl, ⟨by decide +kernel, by decide +kernel⟩, by decide +kernel, by decide +kernel, fun _ => ⟨tb5 226 rfl rfl, tbp (n := 29) (List.mem_append_right _ (List.mem_append_right _ (List.mem_append_right _ (List.mem_append_left _ (List.mem_of_getElem? (l := lw_privs_4) (i := 7) rfl))))) rfl⟩, fun h => absurd h (by decide), fun h => absurd h (by decide), Or.inl rfl⟩
set_option maxRecDepth 20000 in
theorem mw_172 : mOK 172 := ⟨tb5 219 rfl rfl, rfl, tb1 12 rfl rfl, ⟨by decide +kernel, by decide +kernel⟩, by decide +kernel, by decide +kernel, fun _ => ⟨tb5 218 rfl rfl, tbp (n := 29) (List.mem_append_right _ (List.mem_append_right _ (List.mem_append_right _ (List.mem_append_left _ (List.mem_of_getElem? (l := lw_privs_4) (i := 5) rfl))))) rfl⟩, fun h => absurd h (by decide), fun h => absurd h (by decide), Or.inl rfl⟩
set_option maxRecDepth 20000 in
theorem mw_173 : mOK 173 := ⟨tb5 215 rfl rfl, rfl, tb1 12 rfl rfl, ⟨by decide +kernel, by decide +kernel⟩, by decide +kernel, by decide +kernel, fun _ => ⟨tb5 214 rfl rfl, tbp (n := 29) (List.mem_append_right _ (List.mem_append_right _ (List.mem_append_right _ (List.mem_append_left _ (List.mem_of_getElem? (l := lw_privs_4) (i := 4) rfl))))) rfl⟩, fun h => absurd h (by decide), fun h => absurd h (by decide), Or.inl rfl⟩
set_option maxRecDepth 20000 in
theorem mw_174 : mOK 174 := ⟨tb5 211 rfl rfl, rfl, tb1 12 rfl rfl, ⟨by decide +kernel, by decide +kernel⟩, by decide +kernel, by decide +kernel, fun _ => ⟨tb5 209 rfl rfl, tb5 210 rfl rfl⟩, fun h => absurd h (by decide), fun h => absurd h (by decide), Or.inl rfl⟩
set_option maxRecDepth 20000 in
theorem mw_175 : mOK 175 := ⟨tb5 231 rfl rfl, rfl, tb1 12 rfl rfl, ⟨by decide +kernel, by decide +kernel⟩, by decide +kernel, by decide +kernel, fun _ => ⟨tb5 229 rfl rfl, tb5 230 rfl rfl⟩, fun h => absurd h (by decide), fun h => absurd h (by decide), Or.inl rfl⟩
set_option maxRecDepth 20000 in
theorem mw_176 : mOK 176 := ⟨tb5 235 rfl rfl, rfl, tb1 12 rfl rfl, ⟨by decide +kernel, by decide +kernel⟩, by decide +kernel, by decide +kernel, fun _ => ⟨tb5 233 rfl rfl, tb5 234 rfl rfl⟩, fun h => absurd h (by decide), fun h => absurd h (by decide), Or.inl rfl⟩
set_option maxRecDepth 20000 in
theorem mw_177 : mOK 177 := ⟨tb6 3 rfl rfl, rfl, tb1 12 rfl rfl, ⟨by decide +kernel, by decide +kernel⟩, by decide +kernel, by decide +kernel, fun _ => ⟨tb6 2 rfl rfl, tbp (n := 29) (List.mem_append_right _ (List.mem_append_right _ (List.mem_append_right _ (List.mem_append_left _ (List.mem_of_getElem? (l := lw_privs_4) (i := 8) rfl))))) rfl⟩, fun h => absurd h (by decide), fun h => absurd h (by decide), Or.inl rfl⟩
set_option maxRecDepth 20000 in
theorem mw_178 : mOK 178 := ⟨tb5 239 rfl rfl, rfl, tb1 12 rfl rfl, ⟨by decide +kernel, by decide +kernel⟩, by decide +kernel, by decide +kernel, fun _ => ⟨tb5 237 rfl rfl, tb5 238 rfl rfl⟩, fun h => absurd h (by decide), fun h => absurd h (by decide), Or.inl rfl⟩
set_option maxRecDepth 20000 in
theorem mw_179 : mOK 179 := ⟨tb6 21 rfl rfl, rfl, tb1 12 rfl rfl, ⟨by decide +kernel, by decide +kernel⟩, by decide +kernel, by decide +kernel, fun _ => ⟨tb6 20 rfl rfl, tbp (n := 29) (List.mem_append_right _ (List.mem_append_right _ (List.mem_append_right _ (List.mem_append_left _ (List.mem_of_getElem? (l := lw_privs_4) (i := 11) rfl))))) rfl⟩, fun h => absurd h (by decide), fun h => absurd h (by decide), Or.inl rfl⟩
set_option maxRecDepth 20000 in
theorem mw_180 : mOK 180 := ⟨tb6 17 rfl rfl, rfl, tb1 12 rfl rfl, ⟨by decide +kernel, by decide +kernel⟩, by decide +kernel, by decide +kernel, fun _ => ⟨tb6 16 rfl rfl, tbp (n := 29) (List.mem_append_right _ (List.mem_append_right _ (List.mem_append_right _ (List.mem_append_left _ (List.mem_of_getElem? (l := lw_privs_4) (i := 10) rfl))))) rfl⟩, fun h => absurd h (by decide), fun h => absurd h (by decide), Or.inl rfl⟩
set_option maxRecDepth 20000 in
theorem mw_181 : mOK 181 := ⟨tb6 37 rfl rfl, rfl, tb1 12 rfl rfl, ⟨by decide +kernel, by decide +kernel⟩, by decide +kernel, by decide +kernel, fun _ => ⟨tb6 36 rfl rfl, tbp (n := 29) (List.mem_append_right _ (List.mem_append_right _ (List.mem_append_right _ (List.mem_append_left _ (List.mem_of_getElem? (l := lw_privs_4) (i := 12) rfl))))) rfl⟩, fun h => absurd h (by decide), fun h => absurd h (by decide), Or.inl rfl⟩
set_option maxRecDepth 20000 in
theorem mw_182 : mOK 182 := ⟨tb6 45 rfl rfl, rfl, tb1 12 rfl rfl, ⟨by decide +kernel, by decide +kernel⟩, by decide +kernel, by decide +kernel, fun _ => ⟨tb6 44 rfl rfl, tbp (n := 29) (List.mem_append_right _ (List.mem_append_right _ (List.mem_append_right _ (List.mem_append_left _ (List.mem_of_getElem? (l := lw_privs_4) (i := 13) rfl))))) rfl⟩, fun h => absurd h (by decide), fun h => absurd h (by decide), Or.inl rfl⟩
set_option maxRecDepth 20000 in
theorem mw_183 : mOK 183 := ⟨tb6 11 rfl rfl, rfl, tb1 12 rfl rfl, ⟨by decide +kernel, by decide +kernel⟩, by decide +kernel, by decide +kernel, fun _ => ⟨tb6 10 rfl rfl, tbp (n := 29) (List.mem_append_right _ (List.mem_append_right _ (List.mem_append_right _ (List.mem_append_left _ (List.mem_of_getElem? (l := lw_privs_4) (i := 9) rfl))))) rfl⟩, fun h => absurd h (by decide), fun h => absurd h (by decide), Or.inl rfl⟩
set_option maxRecDepth 20000 in
theorem mw_184 : mOK 184 := ⟨tb6 7 rfl rfl, rfl, tb1 12 rfl rfl, ⟨by decide +kernel, by decide +kernel⟩, by decide +kernel, by decide +kernel, fun _ => ⟨tb6 5 rfl rfl, tb6 6 rfl rfl⟩, fun h => absurd h (by decide), fun h => absurd h (by decide), Or.inl rfl⟩
set_option maxRecDepth 20000 in
theorem mw_185 : mOK 185 := ⟨tb6 25 rfl rfl, rfl, tb1 12 rfl rfl, ⟨by decide +kernel, by decide +kernel⟩, by decide +kernel, by decide +kernel, fun _ => ⟨tb6 23 rfl rfl, tb6 24 rfl rfl⟩, fun h => absurd h (by decide), fun h => absurd h (by decide), Or.inl rfl⟩
set_option maxRecDepth 20000 in
theorem mw_186 : mOK 186 := ⟨tb6 29 rfl rfl, rfl, tb1 12 rfl rfl, ⟨by decide +kernel, by decide +kernel⟩, by decide +kernel, by decide +kernel, fun _ => ⟨tb6 27 rfl rfl, tb6 28 rfl rfl⟩, fun h => absurd h (by decide), fun h => absurd h (by decide), Or.inl rfl⟩
set_option maxRecDepth 20000 in
theorem mw_187 : mOK 187 := ⟨tb6 33 rfl rfl, rfl, tb1 12 rfl rfl, ⟨by decide +kernel, by decide +kernel⟩, by decide +kernel, by decide +kernel, fun _ => ⟨tb6 31 rfl rfl, tb6 32 rfl rfl⟩, fun h => absurd h (by decide), fun h => absurd h (by decide), Or.inl rfl⟩
set_option maxRecDepth 20000 in
theorem mw_188 : mOK 188 := ⟨tb6 41 rfl rfl, rfl, tb1 12 rfl rfl, ⟨by decide +kernel, by decide +kernel⟩, by decide +kernel, by decide +kernel, fun _ => ⟨tb6 39 rfl rfl, tb6 40 rfl rfl⟩, fun h => absurd h (by decide), fun h => absurd h (by decide), Or.inl rfl⟩
set_option maxRecDepth 20000 in
theorem mw_189 : mOK 189 := ⟨tb6 49 rfl rfl, rfl, tb1 12 rfl rfl, ⟨by decide +kernel, by decide +kernel⟩, by decide +kernel, by decide +kernel, fun _ => ⟨tb6 47 rfl rfl, tb6 48 rfl rfl⟩, fun h => absurd h (by decide), fun h => absurd h (by decide), Or.inl rfl⟩
set_option maxRecDepth 20000 in
theorem mw_190 : mOK 190 := ⟨tb6 58 rfl rfl, rfl, tb1 12 rfl rfl, ⟨by decide +kernel, by decide +kernel⟩, by decide +kernel, by decide +kernel, fun _ => ⟨tb6 57 rfl rfl, tbp (n := 29) (List.mem_append_right _ (List.mem_append_right _ (List.mem_append_right _ (List.mem_append_left _ (List.mem_of_getElem? (l := lw_privs_4) (i := 14) rfl))))) rfl⟩, fun h => absurd h (by decide), fun h => absurd h (by decide), Or.inl rfl⟩
set_option maxRecDepth 20000 in
theorem mw_191 : mOK 191 := ⟨tb6 66 rfl rfl, rfl, tb1 12 rfl rfl, ⟨by decide +kernel, by decide +kernel⟩, by decide +kernel, by decide +kernel, fun _ => ⟨tb6 65 rfl rfl, tbp (n := 29) (List.mem_append_right _ (List.mem_append_right _ (List.mem_append_right _ (List.mem_append_left _ (List.mem_of_getElem? (l := lw_privs_4) (i := 15) rfl))))) rfl⟩, fun h => absurd h (by decide), fun h => absurd h (by decide), Or.inl rfl⟩
set_option maxRecDepth 20000 in
theorem mw_192 : mOK 192 := ⟨tb6 74 rfl rfl, rfl, tb1 12 rfl rfl, ⟨by decide +kernel, by decide +kernel⟩, by decide +kernel, by decide +kernel, fun _ => ⟨tb6 73 rfl rfl, tbp (n := 29) (List.mem_append_right _ (List.mem_append_right _ (List.mem_append_right _ (List.mem_append_right _ (List.mem_of_getElem? (l := lw_privs_5) (i := 0) rfl))))) rfl⟩, fun h => absurd h (by decide), fun h => absurd h (by decide), Or.inl rfl⟩
set_option maxRecDepth 20000 in
theorem mw_193 : mOK 193 := ⟨tb6 81 rfl rfl, rfl, tb1 12 rfl rfl, ⟨by decide +kernel, by decide +kernel⟩, by decide +kernel, by decide +kernel, fun h => absurd h (by decide), fun _ => tb6 80 rfl rfl, fun h => absurd h (by decide), Or.inr (Or.inl rfl)⟩
set_option maxRecDepth 20000 in
theorem mw_194 : mOK 194 := ⟨tb6 54 rfl rfl, rfl, tb1 12 rfl rfl, ⟨by decide +kernel, by decide +kernel⟩, by decide +kernel, by decide +kernel, fun _ => ⟨tb6 52 rfl rfl, tb6 53 rfl rfl⟩, fun h => absurd h (by decide), fun h => absurd h (by decide), Or.inl rfl⟩
set_option maxRecDepth 20000 in
theorem mw_195 : mOK 195 := ⟨tb6 62 rfl rfl, rfl, tb1 12 rfl rfl, ⟨by decide +kernel, by decide +kernel⟩, by decide +kernel, by decide +kernel, fun _ => ⟨tb6 60 rfl rfl, tb6 61 rfl rfl⟩, fun h => absurd h (by decide), fun h => absurd h (by decide), Or.inl rfl⟩
set_option maxRecDepth 20000 in
theorem mw_196 : mOK 196 := ⟨tb6 70 rfl rfl, rfl, tb1 12 rfl rfl, ⟨by decide +kernel, by decide +kernel⟩, by decide +kernel, by decide +kernel, fun _ => ⟨tb6 68 rfl rfl, tb6 69 rfl rfl⟩, fun h => absurd h (by decide), fun h => absurd h (by decide), Or.inl rfl⟩
set_option maxRecDepth 20000 in
theorem mw_197 : mOK 197 := ⟨tb6 78 rfl rfl, rfl, tb1 12 rfl rfl, ⟨by decide +kernel, by decide +kernel⟩, by decide +kernel, by decide +kernel, fun _ => ⟨tb6 76 rfl rfl, tb6 77 rfl rfl⟩, fun h => absurd h (by decide), fun h => absurd h (by decide), Or.inl rfl⟩
set_option maxRecDepth 20000 in
theorem mw_198 : mOK 198 := ⟨tb6 89 rfl rfl, rfl, tb1 12 rfl rfl, ⟨by decide +kernel, by decide +kernel⟩, by decide +kernel, by decide +kernel, fun _ => ⟨tb6 88 rfl rfl, tbp (n := 29) (List.mem_append_right _ (List.mem_append_right _ (List.mem_append_right _ (List.mem_append_right _ (List.mem_of_getElem? (l := lw_privs_5) (i := 1) rfl))))) rfl⟩, fun h => absurd h (by decide), fun h => absurd h (by decide), Or.inl rfl⟩
set_option maxRecDepth 20000 in
theorem mw_199 : mOK 199 := ⟨tb6 85 rfl rfl, rfl, tb1 12 rfl rfl, ⟨by decide +kernel, by decide +kernel⟩, by decide +kernel, by decide +kernel, fun _ => ⟨tb6 83 rfl rfl, tb6 84 rfl rfl⟩, fun h => absurd h (by decide), fun h => absurd h (by decide), Or.inl rfl⟩
set_option maxRecDepth 20000 in
theorem mw_200 : mOK 200 := ⟨tb6 101 rfl rfl, rfl, tb1 12 rfl rfl, ⟨by decide +kernel, by decide +kernel⟩, by decide +kernel, by decide +kernel, fun _ => ⟨tb6 100 rfl rfl, tbp (n := 29) (List.mem_append_right _ (List.mem_append_right _ (List.mem_append_right _ (List.mem_append_right _ (List.mem_of_getElem? (l := lw_privs_5) (i := 3) rfl))))) rfl⟩, fun h => absurd h (by decide), fun h => absurd h (by decide), Or.inl rfl⟩
set_option maxRecDepth 20000 in
theorem mw_201 : mOK 201 := ⟨tb6 97 rfl rfl, rfl, tb1 12 rfl rfl, ⟨by decide +kernel, by decide +kernel⟩, by decide +kernel, by decide +kernel, fun _ => ⟨tb6 96 rfl rfl, tbp (n := 29) (List.mem_append_right _ (List.mem_append_right _ (List.mem_append_right _ (List.mem_append_right _ (List.mem_of_getElem? (l := lw_privs_5) (i := 2) rfl))))) rfl⟩, fun h => absurd h (by decide), fun h => absurd h (by decide), Or.inl rfl⟩
set_option maxRecDepth 20000 in
theorem mw_202 : mOK 202 := ⟨tb6 93 rfl rfl, rfl, tb1 12 rfl rfl, ⟨by decide +kernel, by decide +kernel⟩, by decide +kernel, by decide +kernel, fun _ => ⟨tb6 91 rfl rfl, tb6 92 rfl rfl⟩, fun h => absurd h (by decide), fun h => absurd h (by decide), Or.inl rfl⟩
set_option maxRecDepth 20000 in
theorem mw_203 : mOK 203 := ⟨tb6 105 rfl rfl, rfl, tb1 12 rfl rfl, ⟨by decide +kernel, by decide +kernel⟩, by decide +kernel, by decide +kernel, fun _ => ⟨tb6 103 rfl rfl, tb6 104 rfl rfl⟩, fun h => absurd h (by decide), fun h => absurd h (by decide), Or.inl rfl⟩
set_option maxRecDepth 20000 in
theorem mw_204 : mOK 204 := ⟨tb6 109 rfl rfl, rfl, tb1 12 rfl rfl, ⟨by decide +kernel, by decide +kernel⟩, by decide +kernel, by decide +kernel, fun _ => ⟨tb6 107 rfl rfl, tb6 108 rfl rfl⟩, fun h => absurd h (by decide), fun h => absurd h (by decide), Or.inl rfl⟩
set_option maxRecDepth 20000 in
theorem mw_205 : mOK 205 := ⟨tb6 113 rfl rfl, rfl, tb1 12 rfl rfl, ⟨by decide +kernel, by decide +kernel⟩, by decide +kernel, by decide +kernel, fun _ => ⟨tb6 111 rfl rfl, tb6 112 rfl rfl⟩, fun h => absurd h (by decide), fun h => absurd h (by decide), Or.inl rfl⟩
set_option maxRecDepth 20000 in
theorem mw_206 : mOK 206 := ⟨tb6 121 rfl rfl, rfl, tb1 12 rfl rfl, ⟨by decide +kernel, by decide +kernel⟩, by decide +kernel, by decide +kernel, fun _ => ⟨tb6 120 rfl rfl, tbp (n := 29) (List.mem_append_right _ (List.mem_append_right _ (List.mem_append_right _ (List.mem_append_right _ (List.mem_of_getElem? (l := lw_privs_5) (i := 4) rfl))))) rfl⟩, fun h => absurd h (by decide), fun h => absurd h (by decide), Or.inl rfl⟩
set_option maxRecDepth 20000 in
theorem mw_207 : mOK 207 := ⟨tb6 117 rfl rfl, rfl, tb1 12 rfl rfl, ⟨by decide +kernel, by decide +kernel⟩, by decide +kernel, by decide +kernel, fun _ => ⟨tb6 115 rfl rfl, tb6 116 rfl rfl⟩, fun h => absurd h (by decide), fun h => absurd h (by decide), Or.inl rfl⟩
set_option maxRecDepth 20000 in
theorem mw_208 : mOK 208 := ⟨tb6 125 rfl rfl, rfl, tb1 12 rfl rfl, ⟨by decide +kernel, by decide +kernel⟩, by decide +kernel, by decide +kernel, fun _ => ⟨tb6 123 rfl rfl, tb6 124 rfl rfl⟩, fun h => absurd h (by decide), fun h => absurd h (by decide), Or.inl rfl⟩
set_option maxRecDepth 20000 in
theorem mw_209 : mOK 209 := ⟨tb6 133 rfl rfl, rfl, tb1 12 rfl rfl, ⟨by decide +kernel, by decide +kernel⟩, by decide +kernel, by decide +kernel, fun _ => ⟨tb6 132 rfl rfl, tbp (n := 29) (List.mem_append_right _ (List.mem_append_right _ (List.mem_append_right _ (List.mem_append_right _ (List.mem_of_getElem? (l := lw_privs_5) (i := 5) rfl))))) rfl⟩, fun h => absurd h (by decide), fun h => absurd h (by decide), Or.inl rfl⟩
set_option maxRecDepth 20000 in
theorem mw_210 : mOK 210 := ⟨tb6 129 rfl rfl, rfl, tb1 12 rfl rfl, ⟨by decide +kernel, by decide +kernel⟩, by decide +kernel, by decide +kernel, fun _ => ⟨tb6 127 rfl rfl, tb6 128 rfl rfl⟩, fun h => absurd h (by decide), fun h => absurd h (by decide), Or.inl rfl⟩
set_option maxRecDepth 20000 in
theorem mw_211 : mOK 211 := ⟨tb6 137 rfl rfl, rfl, tb1 12 rfl rfl, ⟨by decide +kernel, by decide +kernel⟩, by decide +kernel, by decide +kernel, fun _ => ⟨tb6 135 rfl rfl, tb6 136 rfl rfl⟩, fun h => absurd h (by decide), fun h => absurd h (by decide), Or.inl rfl⟩
set_option maxRecDepth 20000 in
theorem mw_212 : mOK 212 := ⟨tb6 141 rfl rfl, rfl, tb1 12 rfl rfl, ⟨by decide +kernel, by decide +kernel⟩, by decide +kernel, by decide +kernel, fun _ => ⟨tb6 139 rfl rfl, tb6 140 rfl rfl⟩, fun h => absurd h (by decide), fun h => absurd h (by decide), Or.inl rfl⟩
set_option maxRecDepth 20000 in
theorem mw_213 : mOK 213 := ⟨tb6 149 rfl rfl, rfl, tb1 12 rfl rfl, ⟨by decide +kernel, by decide +kernel⟩, by decide +kernel, by decide +kernel, fun _ => ⟨tb6 148 rfl rfl, tbp (n := 29) (List.mem_append_right _ (List.mem_append_right _ (List.mem_append_right _ (List.mem_append_right _ (List.mem_of_getElem? (l := lw_privs_5) (i := 6) rfl))))) rfl⟩, fun h => absurd h (by decide), fun h => absurd h (by decide), Or.inl rfl⟩
set_option maxRecDepth 20000 in
theorem mw_214 : mOK 214 := ⟨tb6 153 rfl rfl, rfl, tb1 12 rfl rfl, ⟨by decide +kernel, by decide +kernel⟩, by decide +kernel, by decide +kernel, fun _ => ⟨tb6 152 rfl rfl, tbp (n := 29) (List.mem_append_right _ (List.mem_append_right _ (List.mem_append_right _ (List.mem_append_right _ (List.mem_of_getElem? (l := lw_privs_5) (i := 7) rfl))))) rfl⟩, fun h => absurd h (by decide), fun h => absurd h (by decide), Or.inl rfl⟩
set_option maxRecDepth 20000 in
theorem mw_215 : mOK 215 := ⟨tb6 145 rfl rfl, rfl, tb1 12 rfl rfl, ⟨by decide +kernel, by decide +kernel⟩, by decide +kernel, by decide +kernel, fun _ => ⟨tb6 143 rfl rfl, tb6 144 rfl rfl⟩, fun h => absurd h (by decide), fun h => absurd h (by decide), Or.inl rfl⟩
set_option maxRecDepth 20000 in
theorem mw_218 : mOK 218 := ⟨tb3 210 rfl rfl, rfl, tb1 21 rfl rfl, ⟨by decide +kernel, by decide +kernel⟩, by decide +kernel, by decide +kernel, fun h => absurd h (by decide), fun _ => tb3 209 rfl rfl, fun h => absurd h (by decide), Or.inr (Or.inl rfl)⟩
set_option maxRecDepth 20000 in
theorem mw_219 : mOK 219 := ⟨tb3 92 rfl rfl, rfl, tb1 19 rfl rfl, ⟨by decide +kernel, by decide +kernel⟩, by decide +kernel, by decide +kernel, fun h => absurd h (by decide), fun _ => tb3 91 rfl rfl, fun h => absurd h (by decide), Or.inr (Or.inl rfl)⟩
set_option maxRecDepth 20000 in
theorem mw_220 : mOK 220 := ⟨tb2 83 rfl rfl, rfl, tb1 13 rfl rfl, ⟨by decide +kernel, by decide +kernel⟩, by decide +kernel, by decide +kernel, fun h => absurd h (by decide), fun _ => tb2 82 rfl rfl, fun h => absurd h (by decide), Or.inr (Or.inl rfl)⟩
/-- methods 0 to 215 and 218 to 220 -/
theorem mw_all : ∀ j, j < 216 ∨ (217 < j ∧ j < 221) → mOK j := by
  intro j h
  match j, h with
  | 0, _ => exact mw_0
  | 1, _ => exact mw_1
  | 2, _ => exact mw_2
  | 3, _ => exact mw_3
  | 4, _ => exact mw_4
  | 5, _ => exact mw_5
  | 6, _ => exact mw_6
  | 7, _ => exact mw_7
  | 8, _ => exact mw_8
  | 9, _ => exact mw_9
  | 10, _ => exact mw_10
  | 11, _ => exact mw_11
  | 12, _ => exact mw_12
  | 13, _ => exact mw_13
  | 14, _ => exact mw_14
  | 15, _ => exact mw_15
  | 16, _ => exact mw_16
  | 17, _ => exact mw_17
  | 18, _ => exact mw_18
  | 19, _ => exact mw_19
  | 20, _ => exact mw_20
  | 21, _ => exact mw_21
  | 22, _ => exact mw_22
  | 23, _ => exact mw_23
  | 24, _ => exact mw_24
  | 25, _ => exact mw_25
  | 26, _ => exact mw_26
  | 27, _ => exact mw_27
  | 28, _ => exact mw_28
  | 29, _ => exact mw_29
  | 30, _ => exact mw_30
  | 31, _ => exact mw_31
  | 32, _ => exact mw_32
  | 33, _ => exact mw_33
  | 34, _ => exact mw_34
  | 35, _ => exact mw_35
  | 36, _ => exact mw_36
  | 37, _ => exact mw_37
  | 38, _ => exact mw_38
  | 39, _ => exact mw_39
  | 40, _ => exact mw_40
  | 41, _ => exact mw_41
  | 42, _ => exact mw_42
  | 43, _ => exact mw_43
  | 44, _ => exact mw_44
  | 45, _ => exact mw_45
  | 46, _ => exact mw_46
  | 47, _ => exact mw_47
  | 48, _ => exact mw_48
  | 49, _ => exact mw_49
  | 50, _ => exact mw_50
  | 51, _ => exact mw_51
  | 52, _ => exact mw_52
  | 53, _ => exact mw_53
  | 54, _ => exact mw_54
  | 55, _ => exact mw_55
  | 56, _ => exact mw_56
  | 57, _ => exact mw_57
  | 58, _ => exact mw_58
  | 59, _ => exact mw_59
  | 60, _ => exact mw_60
  | 61, _ => exact mw_61
  | 62, _ => exact mw_62
  | 63, _ => exact mw_63
  | 64, _ => exact mw_64
  | 65, _ => exact mw_65
  | 66, _ => exact mw_66
  | 67, _ => exact mw_67
  | 68, _ => exact mw_68
  | 69, _ => exact mw_69
  | 70, _ => exact mw_70
  | 71, _ => exact mw_71
  | 72, _ => exact mw_72
  | 73, _ => exact mw_73
  | 74, _ => exact mw_74
  | 75, _ => exact mw_75
  | 76, _ => exact mw_76
  | 77, _ => exact mw_77
  | 78, _ => exact mw_78
  | 79, _ => exact mw_79
  | 80, _ => exact mw_80
  | 81, _ => exact mw_81
  | 82, _ => exact mw_82
  | 83, _ => exact mw_83
  | 84, _ => exact mw_84
  | 85, _ => exact mw_85
  | 86, _ => exact mw_86
  | 87, _ => exact mw_87
  | 88, _ => exact mw_88
  | 89, _ => exact mw_89
  | 90, _ => exact mw_90
  | 91, _ => exact mw_91
  | 92, _ => exact mw_92
  | 93, _ => exact mw_93
  | 94, _ => exact mw_94
  | 95, _ => exact mw_95
  | 96, _ => exact mw_96
  | 97, _ => exact mw_97
  | 98, _ => exact mw_98
  | 99, _ => exact mw_99
  | 100, _ => exact mw_100
  | 101, _ => exact mw_101
  | 102, _ => exact mw_102
  | 103, _ => exact mw_103
  | 104, _ => exact mw_104
  | 105, _ => exact mw_105
  | 106, _ => exact mw_106
  | 107, _ => exact mw_107
  | 108, _ => exact mw_108
  | 109, _ => exact mw_109
  | 110, _ => exact mw_110
  | 111, _ => exact mw_111
  | 112, _ => exact mw_112
  | 113, _ => exact mw_113
  | 114, _ => exact mw_114
  | 115, _ => exact mw_115
  | 116, _ => exact mw_116
  | 117, _ => exact mw_117
  | 118, _ => exact mw_118
  | 119, _ => exact mw_119
  | 120, _ => exact mw_120
  | 121, _ => exact mw_121
  | 122, _ => exact mw_122
  | 123, _ => exact mw_123
  | 124, _ => exact mw_124
  | 125, _ => exact mw_125
  | 126, _ => exact mw_126
  | 127, _ => exact mw_127
  | 128, _ => exact mw_128
  | 129, _ => exact mw_129
  | 130, _ => exact mw_130
  | 131, _ => exact mw_131
  | 132, _ => exact mw_132
  | 133, _ => exact mw_133
  | 134, _ => exact mw_134
  | 135, _ => exact mw_135
  | 136, _ => exact mw_136
  | 137, _ => exact mw_137
  | 138, _ => exact mw_138
  | 139, _ => exact mw_139
  | 140, _ => exact mw_140
  | 141, _ => exact mw_141
  | 142, _ => exact mw_142
  | 143, _ => exact mw_143
  | 144, _ => exact mw_144
  | 145, _ => exact mw_145
  | 146, _ => exact mw_146
  | 147, _ => exact mw_147
  | 148, _ => exact mw_148
  | 149, _ => exact mw_149
  | 150, _ => exact mw_150
  | 151, _ => exact mw_151
  | 152, _ => exact mw_152
  | 153, _ => exact mw_153
  | 154, _ => exact mw_154
  | 155, _ => exact mw_155
  | 156, _ => exact mw_156
  | 157, _ => exact mw_157
  | 158, _ => exact mw_158
  | 159, _ => exact mw_159
  | 160, _ => exact mw_160
  | 161, _ => exact mw_161
  | 162, _ => exact mw_162
  | 163, _ => exact mw_163
  | 164, _ => exact mw_164
  | 165, _ => exact mw_165
  | 166, _ => exact mw_166
  | 167, _ => exact mw_167
  | 168, _ => exact mw_168
  | 169, _ => exact mw_169
  | 170, _ => exact mw_170
  | 171, _ => exact mw_171
  | 172, _ => exact mw_172
  | 173, _ => exact mw_173
  | 174, _ => exact mw_174
  | 175, _ => exact mw_175
  | 176, _ => exact mw_176
  | 177, _ => exact mw_177
  | 178, _ => exact mw_178
  | 179, _ => exact mw_179
  | 180, _ => exact mw_180
  | 181, _ => exact mw_181
  | 182, _ => exact mw_182
  | 183, _ => exact mw_183
  | 184, _ => exact mw_184
  | 185, _ => exact mw_185
  | 186, _ => exact mw_186
  | 187, _ => exact mw_187
  | 188, _ => exact mw_188
  | 189, _ => exact mw_189
  | 190, _ => exact mw_190
  | 191, _ => exact mw_191
  | 192, _ => exact mw_192
  | 193, _ => exact mw_193
  | 194, _ => exact mw_194
  | 195, _ => exact mw_195
  | 196, _ => exact mw_196
  | 197, _ => exact mw_197
  | 198, _ => exact mw_198
  | 199, _ => exact mw_199
  | 200, _ => exact mw_200
  | 201, _ => exact mw_201
  | 202, _ => exact mw_202
  | 203, _ => exact mw_203
  | 204, _ => exact mw_204
  | 205, _ => exact mw_205
  | 206, _ => exact mw_206
  | 207, _ => exact mw_207
  | 208, _ => exact mw_208
  | 209, _ => exact mw_209
  | 210, _ => exact mw_210
  | 211, _ => exact mw_211
  | 212, _ => exact mw_212
  | 213, _ => exact mw_213
  | 214, _ => exact mw_214
  | 215, _ => exact mw_215
  | 218, _ => exact mw_218
  | 219, _ => exact mw_219
  | 220, _ => exact mw_220
  | 216, h => exact absurd h (by decide)
  | 217, h => exact absurd h (by decide)
  | k + 221, h => exact absurd h (by omega)
end
section
/-! links, by wip/whole/tools/gen03.py -/
def lkN {α : Type} : List (Nat × α) → Nat → Option α
  | [], _ => none
  | q :: t, i => bif q.1 == i then some q.2 else lkN t i
theorem lkN_mem {α : Type} : ∀ {l : List (Nat × α)} {i : Nat} {a : α}, lkN l i = some a → (i, a) ∈ l
  | [], _, _, h => by cases h
  | q :: t, i, a, h => by
    unfold lkN at h
    cases hq : q.1 == i with
    | true =>
      rw [hq] at h
      have e : q = (i, a) := by cases q; simp at hq h; rw [hq, h]
      rw [e]; exact List.mem_cons_self
    | false =>
      rw [hq] at h
      exact List.mem_cons_of_mem _ (lkN_mem h)
def nestWs : List Cond := [Cond.methodLinkNest "RenvoiDesk$Reader" 11 ⟨"RenvoiDesk$Tape", "<init>", "()V"⟩ "RenvoiDesk", Cond.methodLinkNest "RenvoiDesk$Reader" 33 ⟨"RenvoiDesk$Told", "<init>", "()V"⟩ "RenvoiDesk", Cond.methodLinkNest "RenvoiDesk" 23 ⟨"RenvoiDesk$Roads", "<init>", "()V"⟩ "RenvoiDesk", Cond.methodLinkNest "RenvoiDesk" 30 ⟨"RenvoiDesk$Deeds", "<init>", "()V"⟩ "RenvoiDesk", Cond.methodLinkNest "RenvoiDesk$Deeds" 11 ⟨"RenvoiDesk$Roads", "<init>", "()V"⟩ "RenvoiDesk", Cond.methodLinkNest "RenvoiDesk$Deeds" 20 ⟨"RenvoiDesk$Told", "<init>", "()V"⟩ "RenvoiDesk", Cond.methodLinkNest "RenvoiDesk" 37 ⟨"RenvoiDesk$Past", "<init>", "()V"⟩ "RenvoiDesk", Cond.methodLinkNest "RenvoiDesk" 44 ⟨"RenvoiDesk$Told", "<init>", "()V"⟩ "RenvoiDesk"]
set_option maxRecDepth 20000 in
theorem nest_in : ∀ w ∈ nestWs, w ∈ lw_tbl := (List.forall_mem_cons.mpr ⟨List.mem_append_right _ (List.mem_append_left _ (List.mem_of_getElem? (i := 38) rfl)), (List.forall_mem_cons.mpr ⟨List.mem_append_right _ (List.mem_append_left _ (List.mem_of_getElem? (i := 71) rfl)), (List.forall_mem_cons.mpr ⟨List.mem_append_right _ (List.mem_append_left _ (List.mem_of_getElem? (i := 201) rfl)), (List.forall_mem_cons.mpr ⟨List.mem_append_right _ (List.mem_append_left _ (List.mem_of_getElem? (i := 238) rfl)), (List.forall_mem_cons.mpr ⟨List.mem_append_right _ (List.mem_append_right _ (List.mem_append_left _ (List.mem_of_getElem? (i := 3) rfl))), (List.forall_mem_cons.mpr ⟨List.mem_append_right _ (List.mem_append_right _ (List.mem_append_left _ (List.mem_of_getElem? (i := 5) rfl))), (List.forall_mem_cons.mpr ⟨List.mem_append_right _ (List.mem_append_right _ (List.mem_append_left _ (List.mem_of_getElem? (i := 15) rfl))), (List.forall_mem_cons.mpr ⟨List.mem_append_right _ (List.mem_append_right _ (List.mem_append_left _ (List.mem_of_getElem? (i := 37) rfl))), (fun _ h => absurd h List.not_mem_nil)⟩)⟩)⟩)⟩)⟩)⟩)⟩)⟩)
theorem nest_is : ∀ w ∈ nestWs, ∃ (a : String) (i : Nat) (x : MethodName) (h : String), w = .methodLinkNest a i x h := by
  intro w h
  simp only [nestWs, List.mem_cons, List.not_mem_nil, or_false] at h
  rcases h with h | h | h | h | h | h | h | h <;> exact ⟨_, _, _, _, h⟩
def callsL : List (List (Nat × Nat)) := [[(3, 1000), (11, 31), (20, 54), (25, 73), (29, 68), (37, 32), (41, 44), (44, 4), (51, 71), (57, 72), (61, 1), (65, 218), (70, 56), (73, 2), (77, 5)], [(1, 1000), (28, 57), (32, 1002), (38, 58)], [(3, 1000), (11, 45), (33, 54), (40, 14), (68, 52), (72, 55), (86, 48), (90, 49), (96, 16), (100, 28), (103, 17), (106, 18), (109, 19), (112, 20), (115, 21), (118, 22), (121, 30), (128, 23), (132, 25), (136, 59), (139, 26), (145, 60), (151, 24), (154, 61), (160, 62), (163, 76), (166, 77), (170, 75), (174, 27), (180, 29)], [(3, 1000), (34, 83), (38, 76), (42, 78), (45, 71), (48, 79), (52, 69), (55, 74), (67, 33), (71, 34), (74, 35), (78, 38), (82, 40), (86, 39), (89, 41)], [(1, 1000), (20, 1002), (26, 1001), (32, 53), (45, 50), (48, 51), (51, 52)], [(5, 1000), (18, 220), (37, 1003), (43, 63), (47, 64), (50, 65), (53, 66), (56, 67), (60, 76), (64, 80), (68, 83), (71, 88), (74, 86), (78, 90), (81, 71), (84, 72)], [(3, 1000), (11, 13), (23, 31), (30, 0), (37, 7), (44, 54), (49, 46), (55, 47), (63, 15), (70, 8), (73, 63), (76, 69), (79, 80), (82, 82), (85, 71), (88, 67), (99, 83), (102, 76), (106, 78), (109, 79), (112, 74), (115, 73), (118, 32), (122, 35), (126, 36), (135, 64), (141, 37), (145, 219), (151, 104), (155, 107), (158, 41), (161, 39), (164, 42), (167, 108), (170, 43), (173, 112), (182, 66), (185, 1), (191, 68), (195, 3), (199, 2), (203, 4), (207, 5), (210, 6), (213, 65), (216, 9), (219, 72), (223, 70), (226, 77), (230, 75), (234, 86), (237, 84), (240, 87), (243, 89), (246, 10), (253, 12), (256, 11), (262, 81), (265, 85)], [(1, 1000), (53, 132), (66, 134), (84, 131), (110, 137), (116, 138), (134, 136), (141, 135), (147, 141), (150, 142), (153, 139), (157, 143), (166, 144), (169, 140), (173, 145), (177, 146), (181, 147), (184, 148), (187, 149), (190, 152), (193, 150), (196, 151), (199, 154), (202, 153), (208, 160), (212, 156), (215, 161), (218, 162), (221, 158), (224, 157), (229, 165), (232, 159), (241, 172), (247, 166), (250, 171), (253, 173), (257, 177), (260, 179), (264, 180), (267, 181), (274, 183), (278, 182), (283, 190), (286, 191), (289, 192), (292, 193), (295, 198), (298, 200), (301, 201), (304, 206), (307, 209), (310, 213), (313, 214)], [(7, 96), (15, 91), (18, 129), (19, 92), (23, 133), (24, 93), (28, 155), (29, 94), (33, 163), (34, 95), (37, 164), (38, 216), (43, 167), (44, 130), (48, 97), (51, 168), (52, 98), (55, 169), (56, 99), (59, 170), (60, 100), (63, 174), (64, 101), (67, 175), (68, 102), (71, 176), (72, 103), (75, 178), (76, 105), (79, 184), (80, 106), (83, 185), (84, 109), (87, 186), (88, 110), (91, 187), (92, 111), (95, 188), (96, 113), (100, 189), (101, 114), (104, 194), (105, 115), (108, 195), (109, 116), (112, 196), (113, 117), (116, 197), (117, 118), (120, 199), (121, 119), (124, 202), (125, 120), (128, 203), (129, 121), (133, 204), (134, 122), (137, 205), (138, 123), (141, 207), (142, 124), (145, 208), (146, 125), (150, 210), (151, 126), (154, 211), (155, 127), (159, 212), (160, 128), (163, 215)], [], [], []]
def callOf (own idx : Nat) : Option Nat := lkN (callsL.getD own []) idx
def callOK (own idx q : Nat) : Prop := (q < 221 ∧ Cond.methodLink (oName own) idx (mName q) ∈ gtbl) ∨ (q < 216 ∧ mKind q = 2 ∧ Cond.methodLinkNest (oName own) idx (mName q) "RenvoiDesk" ∈ nestWs) ∨ (q = 1000 ∧ Cond.methodLink (oName own) idx objectInit ∈ gtbl) ∨ (q = 1001 ∧ Cond.methodLink (oName own) idx Lib.Math.max.name ∈ gtbl) ∨ (q = 1002 ∧ Cond.methodLink (oName own) idx Lib.Math.min.name ∈ gtbl) ∨ (q = 1003 ∧ Cond.methodLink (oName own) idx arraycopyName ∈ gtbl)
set_option maxRecDepth 20000 in
theorem ca_0_0 : callOK 0 3 1000 := Or.inr (Or.inr (Or.inl ⟨rfl, tb2 1 rfl rfl⟩))
set_option maxRecDepth 20000 in
theorem ca_0_1 : callOK 0 11 31 := Or.inr (Or.inl ⟨by decide, by decide, List.mem_of_getElem? (i := 4) rfl⟩)
set_option maxRecDepth 20000 in
theorem ca_0_2 : callOK 0 20 54 := Or.inr (Or.inl ⟨by decide, by decide, List.mem_of_getElem? (i := 5) rfl⟩)
set_option maxRecDepth 20000 in
theorem ca_0_3 : callOK 0 25 73 := Or.inl ⟨by decide, tb3 164 rfl rfl⟩
set_option maxRecDepth 20000 in
theorem ca_0_4 : callOK 0 29 68 := Or.inl ⟨by decide, tb3 165 rfl rfl⟩
set_option maxRecDepth 20000 in
theorem ca_0_5 : callOK 0 37 32 := Or.inl ⟨by decide, tb3 169 rfl rfl⟩
set_option maxRecDepth 20000 in
theorem ca_0_6 : callOK 0 41 44 := Or.inl ⟨by decide, tb3 170 rfl rfl⟩
set_option maxRecDepth 20000 in
theorem ca_0_7 : callOK 0 44 4 := Or.inl ⟨by decide, tb3 191 rfl rfl⟩
set_option maxRecDepth 20000 in
theorem ca_0_8 : callOK 0 51 71 := Or.inl ⟨by decide, tb3 202 rfl rfl⟩
set_option maxRecDepth 20000 in
theorem ca_0_9 : callOK 0 57 72 := Or.inl ⟨by decide, tb3 203 rfl rfl⟩
set_option maxRecDepth 20000 in
theorem ca_0_10 : callOK 0 61 1 := Or.inl ⟨by decide, tb3 207 rfl rfl⟩
set_option maxRecDepth 20000 in
theorem ca_0_11 : callOK 0 65 218 := Or.inl ⟨by decide, tb3 208 rfl rfl⟩
set_option maxRecDepth 20000 in
theorem ca_0_12 : callOK 0 70 56 := Or.inl ⟨by decide, tb3 195 rfl rfl⟩
set_option maxRecDepth 20000 in
theorem ca_0_13 : callOK 0 73 2 := Or.inl ⟨by decide, tb3 227 rfl rfl⟩
set_option maxRecDepth 20000 in
theorem ca_0_14 : callOK 0 77 5 := Or.inl ⟨by decide, tb3 232 rfl rfl⟩
set_option maxRecDepth 20000 in
theorem ca_0 : ∀ e ∈ callsL.getD 0 [], callOK 0 e.1 e.2 := (List.forall_mem_cons.mpr ⟨ca_0_0, (List.forall_mem_cons.mpr ⟨ca_0_1, (List.forall_mem_cons.mpr ⟨ca_0_2, (List.forall_mem_cons.mpr ⟨ca_0_3, (List.forall_mem_cons.mpr ⟨ca_0_4, (List.forall_mem_cons.mpr ⟨ca_0_5, (List.forall_mem_cons.mpr ⟨ca_0_6, (List.forall_mem_cons.mpr ⟨ca_0_7, (List.forall_mem_cons.mpr ⟨ca_0_8, (List.forall_mem_cons.mpr ⟨ca_0_9, (List.forall_mem_cons.mpr ⟨ca_0_10, (List.forall_mem_cons.mpr ⟨ca_0_11, (List.forall_mem_cons.mpr ⟨ca_0_12, (List.forall_mem_cons.mpr ⟨ca_0_13, (List.forall_mem_cons.mpr ⟨ca_0_14, (fun _ h => absurd h List.not_mem_nil)⟩)⟩)⟩)⟩)⟩)⟩)⟩)⟩)⟩)⟩)⟩)⟩)⟩)⟩)⟩)
set_option maxRecDepth 20000 in
theorem ca_1_0 : callOK 1 1 1000 := Or.inr (Or.inr (Or.inl ⟨rfl, tb2 18 rfl rfl⟩))
set_option maxRecDepth 20000 in
theorem ca_1_1 : callOK 1 28 57 := Or.inl ⟨by decide, tb4 2 rfl rfl⟩
set_option maxRecDepth 20000 in
theorem ca_1_2 : callOK 1 32 1002 := Or.inr (Or.inr (Or.inr (Or.inr (Or.inl ⟨rfl, tb4 6 rfl rfl⟩))))
set_option maxRecDepth 20000 in
theorem ca_1_3 : callOK 1 38 58 := Or.inl ⟨by decide, tb4 73 rfl rfl⟩
set_option maxRecDepth 20000 in
theorem ca_1 : ∀ e ∈ callsL.getD 1 [], callOK 1 e.1 e.2 := (List.forall_mem_cons.mpr ⟨ca_1_0, (List.forall_mem_cons.mpr ⟨ca_1_1, (List.forall_mem_cons.mpr ⟨ca_1_2, (List.forall_mem_cons.mpr ⟨ca_1_3, (fun _ h => absurd h List.not_mem_nil)⟩)⟩)⟩)⟩)
set_option maxRecDepth 20000 in
theorem ca_2_0 : callOK 2 3 1000 := Or.inr (Or.inr (Or.inl ⟨rfl, tb1 35 rfl rfl⟩))
set_option maxRecDepth 20000 in
theorem ca_2_1 : callOK 2 11 45 := Or.inr (Or.inl ⟨by decide, by decide, List.mem_of_getElem? (i := 0) rfl⟩)
set_option maxRecDepth 20000 in
theorem ca_2_2 : callOK 2 33 54 := Or.inr (Or.inl ⟨by decide, by decide, List.mem_of_getElem? (i := 1) rfl⟩)
set_option maxRecDepth 20000 in
theorem ca_2_3 : callOK 2 40 14 := Or.inl ⟨by decide, tb1 108 rfl rfl⟩
set_option maxRecDepth 20000 in
theorem ca_2_4 : callOK 2 68 52 := Or.inl ⟨by decide, tb1 159 rfl rfl⟩
set_option maxRecDepth 20000 in
theorem ca_2_5 : callOK 2 72 55 := Or.inl ⟨by decide, tb2 77 rfl rfl⟩
set_option maxRecDepth 20000 in
theorem ca_2_6 : callOK 2 86 48 := Or.inl ⟨by decide, tb2 84 rfl rfl⟩
set_option maxRecDepth 20000 in
theorem ca_2_7 : callOK 2 90 49 := Or.inl ⟨by decide, tb2 94 rfl rfl⟩
set_option maxRecDepth 20000 in
theorem ca_2_8 : callOK 2 96 16 := Or.inl ⟨by decide, tb2 110 rfl rfl⟩
set_option maxRecDepth 20000 in
theorem ca_2_9 : callOK 2 100 28 := Or.inl ⟨by decide, tb2 114 rfl rfl⟩
set_option maxRecDepth 20000 in
theorem ca_2_10 : callOK 2 103 17 := Or.inl ⟨by decide, tb2 118 rfl rfl⟩
set_option maxRecDepth 20000 in
theorem ca_2_11 : callOK 2 106 18 := Or.inl ⟨by decide, tb2 150 rfl rfl⟩
set_option maxRecDepth 20000 in
theorem ca_2_12 : callOK 2 109 19 := Or.inl ⟨by decide, tb2 158 rfl rfl⟩
set_option maxRecDepth 20000 in
theorem ca_2_13 : callOK 2 112 20 := Or.inl ⟨by decide, tb2 170 rfl rfl⟩
set_option maxRecDepth 20000 in
theorem ca_2_14 : callOK 2 115 21 := Or.inl ⟨by decide, tb2 178 rfl rfl⟩
set_option maxRecDepth 20000 in
theorem ca_2_15 : callOK 2 118 22 := Or.inl ⟨by decide, tb2 202 rfl rfl⟩
set_option maxRecDepth 20000 in
theorem ca_2_16 : callOK 2 121 30 := Or.inl ⟨by decide, tb2 122 rfl rfl⟩
set_option maxRecDepth 20000 in
theorem ca_2_17 : callOK 2 128 23 := Or.inl ⟨by decide, tb2 126 rfl rfl⟩
set_option maxRecDepth 20000 in
theorem ca_2_18 : callOK 2 132 25 := Or.inl ⟨by decide, tb2 138 rfl rfl⟩
set_option maxRecDepth 20000 in
theorem ca_2_19 : callOK 2 136 59 := Or.inl ⟨by decide, tb2 142 rfl rfl⟩
set_option maxRecDepth 20000 in
theorem ca_2_20 : callOK 2 139 26 := Or.inl ⟨by decide, tb2 146 rfl rfl⟩
set_option maxRecDepth 20000 in
theorem ca_2_21 : callOK 2 145 60 := Or.inl ⟨by decide, tb2 154 rfl rfl⟩
set_option maxRecDepth 20000 in
theorem ca_2_22 : callOK 2 151 24 := Or.inl ⟨by decide, tb2 162 rfl rfl⟩
set_option maxRecDepth 20000 in
theorem ca_2_23 : callOK 2 154 61 := Or.inl ⟨by decide, tb2 166 rfl rfl⟩
set_option maxRecDepth 20000 in
theorem ca_2_24 : callOK 2 160 62 := Or.inl ⟨by decide, tb2 174 rfl rfl⟩
set_option maxRecDepth 20000 in
theorem ca_2_25 : callOK 2 163 76 := Or.inl ⟨by decide, tb2 182 rfl rfl⟩
set_option maxRecDepth 20000 in
theorem ca_2_26 : callOK 2 166 77 := Or.inl ⟨by decide, tb2 198 rfl rfl⟩
set_option maxRecDepth 20000 in
theorem ca_2_27 : callOK 2 170 75 := Or.inl ⟨by decide, tb2 206 rfl rfl⟩
set_option maxRecDepth 20000 in
theorem ca_2_28 : callOK 2 174 27 := Or.inl ⟨by decide, tb2 130 rfl rfl⟩
set_option maxRecDepth 20000 in
theorem ca_2_29 : callOK 2 180 29 := Or.inl ⟨by decide, tb2 134 rfl rfl⟩
set_option maxRecDepth 20000 in
theorem ca_2 : ∀ e ∈ callsL.getD 2 [], callOK 2 e.1 e.2 := (List.forall_mem_cons.mpr ⟨ca_2_0, (List.forall_mem_cons.mpr ⟨ca_2_1, (List.forall_mem_cons.mpr ⟨ca_2_2, (List.forall_mem_cons.mpr ⟨ca_2_3, (List.forall_mem_cons.mpr ⟨ca_2_4, (List.forall_mem_cons.mpr ⟨ca_2_5, (List.forall_mem_cons.mpr ⟨ca_2_6, (List.forall_mem_cons.mpr ⟨ca_2_7, (List.forall_mem_cons.mpr ⟨ca_2_8, (List.forall_mem_cons.mpr ⟨ca_2_9, (List.forall_mem_cons.mpr ⟨ca_2_10, (List.forall_mem_cons.mpr ⟨ca_2_11, (List.forall_mem_cons.mpr ⟨ca_2_12, (List.forall_mem_cons.mpr ⟨ca_2_13, (List.forall_mem_cons.mpr ⟨ca_2_14, (List.forall_mem_cons.mpr ⟨ca_2_15, (List.forall_mem_cons.mpr ⟨ca_2_16, (List.forall_mem_cons.mpr ⟨ca_2_17, (List.forall_mem_cons.mpr ⟨ca_2_18, (List.forall_mem_cons.mpr ⟨ca_2_19, (List.forall_mem_cons.mpr ⟨ca_2_20, (List.forall_mem_cons.mpr ⟨ca_2_21, (List.forall_mem_cons.mpr ⟨ca_2_22, (List.forall_mem_cons.mpr ⟨ca_2_23, (List.forall_mem_cons.mpr ⟨ca_2_24, (List.forall_mem_cons.mpr ⟨ca_2_25, (List.forall_mem_cons.mpr ⟨ca_2_26, (List.forall_mem_cons.mpr ⟨ca_2_27, (List.forall_mem_cons.mpr ⟨ca_2_28, (List.forall_mem_cons.mpr ⟨ca_2_29, (fun _ h => absurd h List.not_mem_nil)⟩)⟩)⟩)⟩)⟩)⟩)⟩)⟩)⟩)⟩)⟩)⟩)⟩)⟩)⟩)⟩)⟩)⟩)⟩)⟩)⟩)⟩)⟩)⟩)⟩)⟩)⟩)⟩)⟩)⟩)
set_option maxRecDepth 20000 in
theorem ca_3_0 : callOK 3 3 1000 := Or.inr (Or.inr (Or.inl ⟨rfl, tb1 204 rfl rfl⟩))
set_option maxRecDepth 20000 in
theorem ca_3_1 : callOK 3 34 83 := Or.inl ⟨by decide, tb3 42 rfl rfl⟩
set_option maxRecDepth 20000 in
theorem ca_3_2 : callOK 3 38 76 := Or.inl ⟨by decide, tb3 43 rfl rfl⟩
set_option maxRecDepth 20000 in
theorem ca_3_3 : callOK 3 42 78 := Or.inl ⟨by decide, tb3 44 rfl rfl⟩
set_option maxRecDepth 20000 in
theorem ca_3_4 : callOK 3 45 71 := Or.inl ⟨by decide, tb3 47 rfl rfl⟩
set_option maxRecDepth 20000 in
theorem ca_3_5 : callOK 3 48 79 := Or.inl ⟨by decide, tb3 48 rfl rfl⟩
set_option maxRecDepth 20000 in
theorem ca_3_6 : callOK 3 52 69 := Or.inl ⟨by decide, tb3 51 rfl rfl⟩
set_option maxRecDepth 20000 in
theorem ca_3_7 : callOK 3 55 74 := Or.inl ⟨by decide, tb3 52 rfl rfl⟩
set_option maxRecDepth 20000 in
theorem ca_3_8 : callOK 3 67 33 := Or.inl ⟨by decide, tb3 57 rfl rfl⟩
set_option maxRecDepth 20000 in
theorem ca_3_9 : callOK 3 71 34 := Or.inl ⟨by decide, tb3 60 rfl rfl⟩
set_option maxRecDepth 20000 in
theorem ca_3_10 : callOK 3 74 35 := Or.inl ⟨by decide, tb3 85 rfl rfl⟩
set_option maxRecDepth 20000 in
theorem ca_3_11 : callOK 3 78 38 := Or.inl ⟨by decide, tb3 86 rfl rfl⟩
set_option maxRecDepth 20000 in
theorem ca_3_12 : callOK 3 82 40 := Or.inl ⟨by decide, tb3 117 rfl rfl⟩
set_option maxRecDepth 20000 in
theorem ca_3_13 : callOK 3 86 39 := Or.inl ⟨by decide, tb3 113 rfl rfl⟩
set_option maxRecDepth 20000 in
theorem ca_3_14 : callOK 3 89 41 := Or.inl ⟨by decide, tb3 130 rfl rfl⟩
set_option maxRecDepth 20000 in
theorem ca_3 : ∀ e ∈ callsL.getD 3 [], callOK 3 e.1 e.2 := (List.forall_mem_cons.mpr ⟨ca_3_0, (List.forall_mem_cons.mpr ⟨ca_3_1, (List.forall_mem_cons.mpr ⟨ca_3_2, (List.forall_mem_cons.mpr ⟨ca_3_3, (List.forall_mem_cons.mpr ⟨ca_3_4, (List.forall_mem_cons.mpr ⟨ca_3_5, (List.forall_mem_cons.mpr ⟨ca_3_6, (List.forall_mem_cons.mpr ⟨ca_3_7, (List.forall_mem_cons.mpr ⟨ca_3_8, (List.forall_mem_cons.mpr ⟨ca_3_9, (List.forall_mem_cons.mpr ⟨ca_3_10, (List.forall_mem_cons.mpr ⟨ca_3_11, (List.forall_mem_cons.mpr ⟨ca_3_12, (List.forall_mem_cons.mpr ⟨ca_3_13, (List.forall_mem_cons.mpr ⟨ca_3_14, (fun _ h => absurd h List.not_mem_nil)⟩)⟩)⟩)⟩)⟩)⟩)⟩)⟩)⟩)⟩)⟩)⟩)⟩)⟩)⟩)
set_option maxRecDepth 20000 in
theorem ca_4_0 : callOK 4 1 1000 := Or.inr (Or.inr (Or.inl ⟨rfl, tb1 41 rfl rfl⟩))
set_option maxRecDepth 20000 in
theorem ca_4_1 : callOK 4 20 1002 := Or.inr (Or.inr (Or.inr (Or.inr (Or.inl ⟨rfl, tb2 88 rfl rfl⟩))))
set_option maxRecDepth 20000 in
theorem ca_4_2 : callOK 4 26 1001 := Or.inr (Or.inr (Or.inr (Or.inl ⟨rfl, tb2 91 rfl rfl⟩)))
set_option maxRecDepth 20000 in
theorem ca_4_3 : callOK 4 32 53 := Or.inl ⟨by decide, tb2 98 rfl rfl⟩
set_option maxRecDepth 20000 in
theorem ca_4_4 : callOK 4 45 50 := Or.inl ⟨by decide, tb2 101 rfl rfl⟩
set_option maxRecDepth 20000 in
theorem ca_4_5 : callOK 4 48 51 := Or.inl ⟨by decide, tb2 106 rfl rfl⟩
set_option maxRecDepth 20000 in
theorem ca_4_6 : callOK 4 51 52 := Or.inl ⟨by decide, tb2 105 rfl rfl⟩
set_option maxRecDepth 20000 in
theorem ca_4 : ∀ e ∈ callsL.getD 4 [], callOK 4 e.1 e.2 := (List.forall_mem_cons.mpr ⟨ca_4_0, (List.forall_mem_cons.mpr ⟨ca_4_1, (List.forall_mem_cons.mpr ⟨ca_4_2, (List.forall_mem_cons.mpr ⟨ca_4_3, (List.forall_mem_cons.mpr ⟨ca_4_4, (List.forall_mem_cons.mpr ⟨ca_4_5, (List.forall_mem_cons.mpr ⟨ca_4_6, (fun _ h => absurd h List.not_mem_nil)⟩)⟩)⟩)⟩)⟩)⟩)⟩)
set_option maxRecDepth 20000 in
theorem ca_5_0 : callOK 5 5 1000 := Or.inr (Or.inr (Or.inl ⟨rfl, tb1 74 rfl rfl⟩))
set_option maxRecDepth 20000 in
theorem ca_5_1 : callOK 5 18 220 := Or.inl ⟨by decide, tb2 81 rfl rfl⟩
set_option maxRecDepth 20000 in
theorem ca_5_2 : callOK 5 37 1003 := Or.inr (Or.inr (Or.inr (Or.inr (Or.inr ⟨rfl, tb3 199 rfl rfl⟩))))
set_option maxRecDepth 20000 in
theorem ca_5_3 : callOK 5 43 63 := Or.inl ⟨by decide, tb2 190 rfl rfl⟩
set_option maxRecDepth 20000 in
theorem ca_5_4 : callOK 5 47 64 := Or.inl ⟨by decide, tb2 194 rfl rfl⟩
set_option maxRecDepth 20000 in
theorem ca_5_5 : callOK 5 50 65 := Or.inl ⟨by decide, tb3 4 rfl rfl⟩
set_option maxRecDepth 20000 in
theorem ca_5_6 : callOK 5 53 66 := Or.inl ⟨by decide, tb3 29 rfl rfl⟩
set_option maxRecDepth 20000 in
theorem ca_5_7 : callOK 5 56 67 := Or.inl ⟨by decide, tb2 186 rfl rfl⟩
set_option maxRecDepth 20000 in
theorem ca_5_8 : callOK 5 60 76 := Or.inl ⟨by decide, tb2 227 rfl rfl⟩
set_option maxRecDepth 20000 in
theorem ca_5_9 : callOK 5 64 80 := Or.inl ⟨by decide, tb4 97 rfl rfl⟩
set_option maxRecDepth 20000 in
theorem ca_5_10 : callOK 5 68 83 := Or.inl ⟨by decide, tb2 232 rfl rfl⟩
set_option maxRecDepth 20000 in
theorem ca_5_11 : callOK 5 71 88 := Or.inl ⟨by decide, tb4 46 rfl rfl⟩
set_option maxRecDepth 20000 in
theorem ca_5_12 : callOK 5 74 86 := Or.inl ⟨by decide, tb4 50 rfl rfl⟩
set_option maxRecDepth 20000 in
theorem ca_5_13 : callOK 5 78 90 := Or.inl ⟨by decide, tb4 59 rfl rfl⟩
set_option maxRecDepth 20000 in
theorem ca_5_14 : callOK 5 81 71 := Or.inl ⟨by decide, tb4 63 rfl rfl⟩
set_option maxRecDepth 20000 in
theorem ca_5_15 : callOK 5 84 72 := Or.inl ⟨by decide, tb4 64 rfl rfl⟩
set_option maxRecDepth 20000 in
theorem ca_5 : ∀ e ∈ callsL.getD 5 [], callOK 5 e.1 e.2 := (List.forall_mem_cons.mpr ⟨ca_5_0, (List.forall_mem_cons.mpr ⟨ca_5_1, (List.forall_mem_cons.mpr ⟨ca_5_2, (List.forall_mem_cons.mpr ⟨ca_5_3, (List.forall_mem_cons.mpr ⟨ca_5_4, (List.forall_mem_cons.mpr ⟨ca_5_5, (List.forall_mem_cons.mpr ⟨ca_5_6, (List.forall_mem_cons.mpr ⟨ca_5_7, (List.forall_mem_cons.mpr ⟨ca_5_8, (List.forall_mem_cons.mpr ⟨ca_5_9, (List.forall_mem_cons.mpr ⟨ca_5_10, (List.forall_mem_cons.mpr ⟨ca_5_11, (List.forall_mem_cons.mpr ⟨ca_5_12, (List.forall_mem_cons.mpr ⟨ca_5_13, (List.forall_mem_cons.mpr ⟨ca_5_14, (List.forall_mem_cons.mpr ⟨ca_5_15, (fun _ h => absurd h List.not_mem_nil)⟩)⟩)⟩)⟩)⟩)⟩)⟩)⟩)⟩)⟩)⟩)⟩)⟩)⟩)⟩)⟩)
set_option maxRecDepth 20000 in
theorem ca_6_0 : callOK 6 3 1000 := Or.inr (Or.inr (Or.inl ⟨rfl, tb1 27 rfl rfl⟩))
set_option maxRecDepth 20000 in
theorem ca_6_1 : callOK 6 11 13 := Or.inl ⟨by decide, tb1 32 rfl rfl⟩
set_option maxRecDepth 20000 in
theorem ca_6_2 : callOK 6 23 31 := Or.inr (Or.inl ⟨by decide, by decide, List.mem_of_getElem? (i := 2) rfl⟩)
set_option maxRecDepth 20000 in
theorem ca_6_3 : callOK 6 30 0 := Or.inr (Or.inl ⟨by decide, by decide, List.mem_of_getElem? (i := 3) rfl⟩)
set_option maxRecDepth 20000 in
theorem ca_6_4 : callOK 6 37 7 := Or.inr (Or.inl ⟨by decide, by decide, List.mem_of_getElem? (i := 6) rfl⟩)
set_option maxRecDepth 20000 in
theorem ca_6_5 : callOK 6 44 54 := Or.inr (Or.inl ⟨by decide, by decide, List.mem_of_getElem? (i := 7) rfl⟩)
set_option maxRecDepth 20000 in
theorem ca_6_6 : callOK 6 49 46 := Or.inl ⟨by decide, tb2 61 rfl rfl⟩
set_option maxRecDepth 20000 in
theorem ca_6_7 : callOK 6 55 47 := Or.inl ⟨by decide, tb2 65 rfl rfl⟩
set_option maxRecDepth 20000 in
theorem ca_6_8 : callOK 6 63 15 := Or.inl ⟨by decide, tb2 73 rfl rfl⟩
set_option maxRecDepth 20000 in
theorem ca_6_9 : callOK 6 70 8 := Or.inl ⟨by decide, tb2 210 rfl rfl⟩
set_option maxRecDepth 20000 in
theorem ca_6_10 : callOK 6 73 63 := Or.inl ⟨by decide, tb2 218 rfl rfl⟩
set_option maxRecDepth 20000 in
theorem ca_6_11 : callOK 6 76 69 := Or.inl ⟨by decide, tb2 219 rfl rfl⟩
set_option maxRecDepth 20000 in
theorem ca_6_12 : callOK 6 79 80 := Or.inl ⟨by decide, tb2 223 rfl rfl⟩
set_option maxRecDepth 20000 in
theorem ca_6_13 : callOK 6 82 82 := Or.inl ⟨by decide, tb2 228 rfl rfl⟩
set_option maxRecDepth 20000 in
theorem ca_6_14 : callOK 6 85 71 := Or.inl ⟨by decide, tb3 0 rfl rfl⟩
set_option maxRecDepth 20000 in
theorem ca_6_15 : callOK 6 88 67 := Or.inl ⟨by decide, tb3 37 rfl rfl⟩
set_option maxRecDepth 20000 in
theorem ca_6_16 : callOK 6 99 83 := Or.inl ⟨by decide, tb3 20 rfl rfl⟩
set_option maxRecDepth 20000 in
theorem ca_6_17 : callOK 6 102 76 := Or.inl ⟨by decide, tb4 175 rfl rfl⟩
set_option maxRecDepth 20000 in
theorem ca_6_18 : callOK 6 106 78 := Or.inl ⟨by decide, tb4 176 rfl rfl⟩
set_option maxRecDepth 20000 in
theorem ca_6_19 : callOK 6 109 79 := Or.inl ⟨by decide, tb4 177 rfl rfl⟩
set_option maxRecDepth 20000 in
theorem ca_6_20 : callOK 6 112 74 := Or.inl ⟨by decide, tb3 12 rfl rfl⟩
set_option maxRecDepth 20000 in
theorem ca_6_21 : callOK 6 115 73 := Or.inl ⟨by decide, tb3 25 rfl rfl⟩
set_option maxRecDepth 20000 in
theorem ca_6_22 : callOK 6 118 32 := Or.inl ⟨by decide, tb3 38 rfl rfl⟩
set_option maxRecDepth 20000 in
theorem ca_6_23 : callOK 6 122 35 := Or.inl ⟨by decide, tb3 53 rfl rfl⟩
set_option maxRecDepth 20000 in
theorem ca_6_24 : callOK 6 126 36 := Or.inl ⟨by decide, tb3 64 rfl rfl⟩
set_option maxRecDepth 20000 in
theorem ca_6_25 : callOK 6 135 64 := Or.inl ⟨by decide, tb3 76 rfl rfl⟩
set_option maxRecDepth 20000 in
theorem ca_6_26 : callOK 6 141 37 := Or.inl ⟨by decide, tb3 81 rfl rfl⟩
set_option maxRecDepth 20000 in
theorem ca_6_27 : callOK 6 145 219 := Or.inl ⟨by decide, tb3 90 rfl rfl⟩
set_option maxRecDepth 20000 in
theorem ca_6_28 : callOK 6 151 104 := Or.inl ⟨by decide, tb3 96 rfl rfl⟩
set_option maxRecDepth 20000 in
theorem ca_6_29 : callOK 6 155 107 := Or.inl ⟨by decide, tb3 103 rfl rfl⟩
set_option maxRecDepth 20000 in
theorem ca_6_30 : callOK 6 158 41 := Or.inl ⟨by decide, tb3 109 rfl rfl⟩
set_option maxRecDepth 20000 in
theorem ca_6_31 : callOK 6 161 39 := Or.inl ⟨by decide, tb3 121 rfl rfl⟩
set_option maxRecDepth 20000 in
theorem ca_6_32 : callOK 6 164 42 := Or.inl ⟨by decide, tb3 126 rfl rfl⟩
set_option maxRecDepth 20000 in
theorem ca_6_33 : callOK 6 167 108 := Or.inl ⟨by decide, tb3 106 rfl rfl⟩
set_option maxRecDepth 20000 in
theorem ca_6_34 : callOK 6 170 43 := Or.inl ⟨by decide, tb3 139 rfl rfl⟩
set_option maxRecDepth 20000 in
theorem ca_6_35 : callOK 6 173 112 := Or.inl ⟨by decide, tb3 143 rfl rfl⟩
set_option maxRecDepth 20000 in
theorem ca_6_36 : callOK 6 182 66 := Or.inl ⟨by decide, tb3 159 rfl rfl⟩
set_option maxRecDepth 20000 in
theorem ca_6_37 : callOK 6 185 1 := Or.inl ⟨by decide, tb3 160 rfl rfl⟩
set_option maxRecDepth 20000 in
theorem ca_6_38 : callOK 6 191 68 := Or.inl ⟨by decide, tb3 182 rfl rfl⟩
set_option maxRecDepth 20000 in
theorem ca_6_39 : callOK 6 195 3 := Or.inl ⟨by decide, tb3 187 rfl rfl⟩
set_option maxRecDepth 20000 in
theorem ca_6_40 : callOK 6 199 2 := Or.inl ⟨by decide, tb3 218 rfl rfl⟩
set_option maxRecDepth 20000 in
theorem ca_6_41 : callOK 6 203 4 := Or.inl ⟨by decide, tb3 222 rfl rfl⟩
set_option maxRecDepth 20000 in
theorem ca_6_42 : callOK 6 207 5 := Or.inl ⟨by decide, tb3 223 rfl rfl⟩
set_option maxRecDepth 20000 in
theorem ca_6_43 : callOK 6 210 6 := Or.inl ⟨by decide, tb3 228 rfl rfl⟩
set_option maxRecDepth 20000 in
theorem ca_6_44 : callOK 6 213 65 := Or.inl ⟨by decide, tb3 237 rfl rfl⟩
set_option maxRecDepth 20000 in
theorem ca_6_45 : callOK 6 216 9 := Or.inl ⟨by decide, tb3 238 rfl rfl⟩
set_option maxRecDepth 20000 in
theorem ca_6_46 : callOK 6 219 72 := Or.inl ⟨by decide, tb4 7 rfl rfl⟩
set_option maxRecDepth 20000 in
theorem ca_6_47 : callOK 6 223 70 := Or.inl ⟨by decide, tb4 12 rfl rfl⟩
set_option maxRecDepth 20000 in
theorem ca_6_48 : callOK 6 226 77 := Or.inl ⟨by decide, tb4 20 rfl rfl⟩
set_option maxRecDepth 20000 in
theorem ca_6_49 : callOK 6 230 75 := Or.inl ⟨by decide, tb4 25 rfl rfl⟩
set_option maxRecDepth 20000 in
theorem ca_6_50 : callOK 6 234 86 := Or.inl ⟨by decide, tb4 30 rfl rfl⟩
set_option maxRecDepth 20000 in
theorem ca_6_51 : callOK 6 237 84 := Or.inl ⟨by decide, tb4 34 rfl rfl⟩
set_option maxRecDepth 20000 in
theorem ca_6_52 : callOK 6 240 87 := Or.inl ⟨by decide, tb4 42 rfl rfl⟩
set_option maxRecDepth 20000 in
theorem ca_6_53 : callOK 6 243 89 := Or.inl ⟨by decide, tb4 55 rfl rfl⟩
set_option maxRecDepth 20000 in
theorem ca_6_54 : callOK 6 246 10 := Or.inl ⟨by decide, tb4 69 rfl rfl⟩
set_option maxRecDepth 20000 in
theorem ca_6_55 : callOK 6 253 12 := Or.inl ⟨by decide, tb4 81 rfl rfl⟩
set_option maxRecDepth 20000 in
theorem ca_6_56 : callOK 6 256 11 := Or.inl ⟨by decide, tb4 85 rfl rfl⟩
set_option maxRecDepth 20000 in
theorem ca_6_57 : callOK 6 262 81 := Or.inl ⟨by decide, tb4 93 rfl rfl⟩
set_option maxRecDepth 20000 in
theorem ca_6_58 : callOK 6 265 85 := Or.inl ⟨by decide, tb4 98 rfl rfl⟩
set_option maxRecDepth 20000 in
theorem ca_6 : ∀ e ∈ callsL.getD 6 [], callOK 6 e.1 e.2 := (List.forall_mem_cons.mpr ⟨ca_6_0, (List.forall_mem_cons.mpr ⟨ca_6_1, (List.forall_mem_cons.mpr ⟨ca_6_2, (List.forall_mem_cons.mpr ⟨ca_6_3, (List.forall_mem_cons.mpr ⟨ca_6_4, (List.forall_mem_cons.mpr ⟨ca_6_5, (List.forall_mem_cons.mpr ⟨ca_6_6, (List.forall_mem_cons.mpr ⟨ca_6_7, (List.forall_mem_cons.mpr ⟨ca_6_8, (List.forall_mem_cons.mpr ⟨ca_6_9, (List.forall_mem_cons.mpr ⟨ca_6_10, (List.forall_mem_cons.mpr ⟨ca_6_11, (List.forall_mem_cons.mpr ⟨ca_6_12, (List.forall_mem_cons.mpr ⟨ca_6_13, (List.forall_mem_cons.mpr ⟨ca_6_14, (List.forall_mem_cons.mpr ⟨ca_6_15, (List.forall_mem_cons.mpr ⟨ca_6_16, (List.forall_mem_cons.mpr ⟨ca_6_17, (List.forall_mem_cons.mpr ⟨ca_6_18, (List.forall_mem_cons.mpr ⟨ca_6_19, (List.forall_mem_cons.mpr ⟨ca_6_20, (List.forall_mem_cons.mpr ⟨ca_6_21, (List.forall_mem_cons.mpr ⟨ca_6_22, (List.forall_mem_cons.mpr ⟨ca_6_23, (List.forall_mem_cons.mpr ⟨ca_6_24, (List.forall_mem_cons.mpr ⟨ca_6_25, (List.forall_mem_cons.mpr ⟨ca_6_26, (List.forall_mem_cons.mpr ⟨ca_6_27, (List.forall_mem_cons.mpr ⟨ca_6_28, (List.forall_mem_cons.mpr ⟨ca_6_29, (List.forall_mem_cons.mpr ⟨ca_6_30, (List.forall_mem_cons.mpr ⟨ca_6_31, (List.forall_mem_cons.mpr ⟨ca_6_32, (List.forall_mem_cons.mpr ⟨ca_6_33, (List.forall_mem_cons.mpr ⟨ca_6_34, (List.forall_mem_cons.mpr ⟨ca_6_35, (List.forall_mem_cons.mpr ⟨ca_6_36, (List.forall_mem_cons.mpr ⟨ca_6_37, (List.forall_mem_cons.mpr ⟨ca_6_38, (List.forall_mem_cons.mpr ⟨ca_6_39, (List.forall_mem_cons.mpr ⟨ca_6_40, (List.forall_mem_cons.mpr ⟨ca_6_41, (List.forall_mem_cons.mpr ⟨ca_6_42, (List.forall_mem_cons.mpr ⟨ca_6_43, (List.forall_mem_cons.mpr ⟨ca_6_44, (List.forall_mem_cons.mpr ⟨ca_6_45, (List.forall_mem_cons.mpr ⟨ca_6_46, (List.forall_mem_cons.mpr ⟨ca_6_47, (List.forall_mem_cons.mpr ⟨ca_6_48, (List.forall_mem_cons.mpr ⟨ca_6_49, (List.forall_mem_cons.mpr ⟨ca_6_50, (List.forall_mem_cons.mpr ⟨ca_6_51, (List.forall_mem_cons.mpr ⟨ca_6_52, (List.forall_mem_cons.mpr ⟨ca_6_53, (List.forall_mem_cons.mpr ⟨ca_6_54, (List.forall_mem_cons.mpr ⟨ca_6_55, (List.forall_mem_cons.mpr ⟨ca_6_56, (List.forall_mem_cons.mpr ⟨ca_6_57, (List.forall_mem_cons.mpr ⟨ca_6_58, (fun _ h => absurd h List.not_mem_nil)⟩)⟩)⟩)⟩)⟩)⟩)⟩)⟩)⟩)⟩)⟩)⟩)⟩)⟩)⟩)⟩)⟩)⟩)⟩)⟩)⟩)⟩)⟩)⟩)⟩)⟩)⟩)⟩)⟩)⟩)⟩)⟩)⟩)⟩)⟩)⟩)⟩)⟩)⟩)⟩)⟩)⟩)⟩)⟩)⟩)⟩)⟩)⟩)⟩)⟩)⟩)⟩)⟩)⟩)⟩)⟩)⟩)⟩)⟩)
set_option maxRecDepth 20000 in
theorem ca_7_0 : callOK 7 1 1000 := Or.inr (Or.inr (Or.inl ⟨rfl, tb4 183 rfl rfl⟩))
set_option maxRecDepth 20000 in
theorem ca_7_1 : callOK 7 53 132 := Or.inl ⟨by decide, tb5 42 rfl rfl⟩
set_option maxRecDepth 20000 in
theorem ca_7_2 : callOK 7 66 134 := Or.inl ⟨by decide, tb5 61 rfl rfl⟩
set_option maxRecDepth 20000 in
theorem ca_7_3 : callOK 7 84 131 := Or.inl ⟨by decide, tb5 50 rfl rfl⟩
set_option maxRecDepth 20000 in
theorem ca_7_4 : callOK 7 110 137 := Or.inl ⟨by decide, tb5 79 rfl rfl⟩
set_option maxRecDepth 20000 in
theorem ca_7_5 : callOK 7 116 138 := Or.inl ⟨by decide, tb5 75 rfl rfl⟩
set_option maxRecDepth 20000 in
theorem ca_7_6 : callOK 7 134 136 := Or.inl ⟨by decide, tb5 89 rfl rfl⟩
set_option maxRecDepth 20000 in
theorem ca_7_7 : callOK 7 141 135 := Or.inl ⟨by decide, tb5 57 rfl rfl⟩
set_option maxRecDepth 20000 in
theorem ca_7_8 : callOK 7 147 141 := Or.inl ⟨by decide, tb5 93 rfl rfl⟩
set_option maxRecDepth 20000 in
theorem ca_7_9 : callOK 7 150 142 := Or.inl ⟨by decide, tb5 115 rfl rfl⟩
set_option maxRecDepth 20000 in
theorem ca_7_10 : callOK 7 153 139 := Or.inl ⟨by decide, tb5 105 rfl rfl⟩
set_option maxRecDepth 20000 in
theorem ca_7_11 : callOK 7 157 143 := Or.inl ⟨by decide, tb5 111 rfl rfl⟩
set_option maxRecDepth 20000 in
theorem ca_7_12 : callOK 7 166 144 := Or.inl ⟨by decide, tb5 101 rfl rfl⟩
set_option maxRecDepth 20000 in
theorem ca_7_13 : callOK 7 169 140 := Or.inl ⟨by decide, tb5 119 rfl rfl⟩
set_option maxRecDepth 20000 in
theorem ca_7_14 : callOK 7 173 145 := Or.inl ⟨by decide, tb5 123 rfl rfl⟩
set_option maxRecDepth 20000 in
theorem ca_7_15 : callOK 7 177 146 := Or.inl ⟨by decide, tb5 135 rfl rfl⟩
set_option maxRecDepth 20000 in
theorem ca_7_16 : callOK 7 181 147 := Or.inl ⟨by decide, tb5 97 rfl rfl⟩
set_option maxRecDepth 20000 in
theorem ca_7_17 : callOK 7 184 148 := Or.inl ⟨by decide, tb5 127 rfl rfl⟩
set_option maxRecDepth 20000 in
theorem ca_7_18 : callOK 7 187 149 := Or.inl ⟨by decide, tb5 131 rfl rfl⟩
set_option maxRecDepth 20000 in
theorem ca_7_19 : callOK 7 190 152 := Or.inl ⟨by decide, tb5 139 rfl rfl⟩
set_option maxRecDepth 20000 in
theorem ca_7_20 : callOK 7 193 150 := Or.inl ⟨by decide, tb5 143 rfl rfl⟩
set_option maxRecDepth 20000 in
theorem ca_7_21 : callOK 7 196 151 := Or.inl ⟨by decide, tb5 147 rfl rfl⟩
set_option maxRecDepth 20000 in
theorem ca_7_22 : callOK 7 199 154 := Or.inl ⟨by decide, tb5 53 rfl rfl⟩
set_option maxRecDepth 20000 in
theorem ca_7_23 : callOK 7 202 153 := Or.inl ⟨by decide, tb5 70 rfl rfl⟩
set_option maxRecDepth 20000 in
theorem ca_7_24 : callOK 7 208 160 := Or.inl ⟨by decide, tb5 167 rfl rfl⟩
set_option maxRecDepth 20000 in
theorem ca_7_25 : callOK 7 212 156 := Or.inl ⟨by decide, tb5 155 rfl rfl⟩
set_option maxRecDepth 20000 in
theorem ca_7_26 : callOK 7 215 161 := Or.inl ⟨by decide, tb5 159 rfl rfl⟩
set_option maxRecDepth 20000 in
theorem ca_7_27 : callOK 7 218 162 := Or.inl ⟨by decide, tb5 163 rfl rfl⟩
set_option maxRecDepth 20000 in
theorem ca_7_28 : callOK 7 221 158 := Or.inl ⟨by decide, tb5 175 rfl rfl⟩
set_option maxRecDepth 20000 in
theorem ca_7_29 : callOK 7 224 157 := Or.inl ⟨by decide, tb5 183 rfl rfl⟩
set_option maxRecDepth 20000 in
theorem ca_7_30 : callOK 7 229 165 := Or.inl ⟨by decide, tb5 188 rfl rfl⟩
set_option maxRecDepth 20000 in
theorem ca_7_31 : callOK 7 232 159 := Or.inl ⟨by decide, tb5 204 rfl rfl⟩
set_option maxRecDepth 20000 in
theorem ca_7_32 : callOK 7 241 172 := Or.inl ⟨by decide, tb5 216 rfl rfl⟩
set_option maxRecDepth 20000 in
theorem ca_7_33 : callOK 7 247 166 := Or.inl ⟨by decide, tb5 220 rfl rfl⟩
set_option maxRecDepth 20000 in
theorem ca_7_34 : callOK 7 250 171 := Or.inl ⟨by decide, tb5 224 rfl rfl⟩
set_option maxRecDepth 20000 in
theorem ca_7_35 : callOK 7 253 173 := Or.inl ⟨by decide, tb5 212 rfl rfl⟩
set_option maxRecDepth 20000 in
theorem ca_7_36 : callOK 7 257 177 := Or.inl ⟨by decide, tb6 0 rfl rfl⟩
set_option maxRecDepth 20000 in
theorem ca_7_37 : callOK 7 260 179 := Or.inl ⟨by decide, tb6 18 rfl rfl⟩
set_option maxRecDepth 20000 in
theorem ca_7_38 : callOK 7 264 180 := Or.inl ⟨by decide, tb6 14 rfl rfl⟩
set_option maxRecDepth 20000 in
theorem ca_7_39 : callOK 7 267 181 := Or.inl ⟨by decide, tb6 34 rfl rfl⟩
set_option maxRecDepth 20000 in
theorem ca_7_40 : callOK 7 274 183 := Or.inl ⟨by decide, tb6 8 rfl rfl⟩
set_option maxRecDepth 20000 in
theorem ca_7_41 : callOK 7 278 182 := Or.inl ⟨by decide, tb6 42 rfl rfl⟩
set_option maxRecDepth 20000 in
theorem ca_7_42 : callOK 7 283 190 := Or.inl ⟨by decide, tb6 55 rfl rfl⟩
set_option maxRecDepth 20000 in
theorem ca_7_43 : callOK 7 286 191 := Or.inl ⟨by decide, tb6 63 rfl rfl⟩
set_option maxRecDepth 20000 in
theorem ca_7_44 : callOK 7 289 192 := Or.inl ⟨by decide, tb6 71 rfl rfl⟩
set_option maxRecDepth 20000 in
theorem ca_7_45 : callOK 7 292 193 := Or.inl ⟨by decide, tb6 79 rfl rfl⟩
set_option maxRecDepth 20000 in
theorem ca_7_46 : callOK 7 295 198 := Or.inl ⟨by decide, tb6 86 rfl rfl⟩
set_option maxRecDepth 20000 in
theorem ca_7_47 : callOK 7 298 200 := Or.inl ⟨by decide, tb6 98 rfl rfl⟩
set_option maxRecDepth 20000 in
theorem ca_7_48 : callOK 7 301 201 := Or.inl ⟨by decide, tb6 94 rfl rfl⟩
set_option maxRecDepth 20000 in
theorem ca_7_49 : callOK 7 304 206 := Or.inl ⟨by decide, tb6 118 rfl rfl⟩
set_option maxRecDepth 20000 in
theorem ca_7_50 : callOK 7 307 209 := Or.inl ⟨by decide, tb6 130 rfl rfl⟩
set_option maxRecDepth 20000 in
theorem ca_7_51 : callOK 7 310 213 := Or.inl ⟨by decide, tb6 146 rfl rfl⟩
set_option maxRecDepth 20000 in
theorem ca_7_52 : callOK 7 313 214 := Or.inl ⟨by decide, tb6 150 rfl rfl⟩
set_option maxRecDepth 20000 in
theorem ca_7 : ∀ e ∈ callsL.getD 7 [], callOK 7 e.1 e.2 := (List.forall_mem_cons.mpr ⟨ca_7_0, (List.forall_mem_cons.mpr ⟨ca_7_1, (List.forall_mem_cons.mpr ⟨ca_7_2, (List.forall_mem_cons.mpr ⟨ca_7_3, (List.forall_mem_cons.mpr ⟨ca_7_4, (List.forall_mem_cons.mpr ⟨ca_7_5, (List.forall_mem_cons.mpr ⟨ca_7_6, (List.forall_mem_cons.mpr ⟨ca_7_7, (List.forall_mem_cons.mpr ⟨ca_7_8, (List.forall_mem_cons.mpr ⟨ca_7_9, (List.forall_mem_cons.mpr ⟨ca_7_10, (List.forall_mem_cons.mpr ⟨ca_7_11, (List.forall_mem_cons.mpr ⟨ca_7_12, (List.forall_mem_cons.mpr ⟨ca_7_13, (List.forall_mem_cons.mpr ⟨ca_7_14, (List.forall_mem_cons.mpr ⟨ca_7_15, (List.forall_mem_cons.mpr ⟨ca_7_16, (List.forall_mem_cons.mpr ⟨ca_7_17, (List.forall_mem_cons.mpr ⟨ca_7_18, (List.forall_mem_cons.mpr ⟨ca_7_19, (List.forall_mem_cons.mpr ⟨ca_7_20, (List.forall_mem_cons.mpr ⟨ca_7_21, (List.forall_mem_cons.mpr ⟨ca_7_22, (List.forall_mem_cons.mpr ⟨ca_7_23, (List.forall_mem_cons.mpr ⟨ca_7_24, (List.forall_mem_cons.mpr ⟨ca_7_25, (List.forall_mem_cons.mpr ⟨ca_7_26, (List.forall_mem_cons.mpr ⟨ca_7_27, (List.forall_mem_cons.mpr ⟨ca_7_28, (List.forall_mem_cons.mpr ⟨ca_7_29, (List.forall_mem_cons.mpr ⟨ca_7_30, (List.forall_mem_cons.mpr ⟨ca_7_31, (List.forall_mem_cons.mpr ⟨ca_7_32, (List.forall_mem_cons.mpr ⟨ca_7_33, (List.forall_mem_cons.mpr ⟨ca_7_34, (List.forall_mem_cons.mpr ⟨ca_7_35, (List.forall_mem_cons.mpr ⟨ca_7_36, (List.forall_mem_cons.mpr ⟨ca_7_37, (List.forall_mem_cons.mpr ⟨ca_7_38, (List.forall_mem_cons.mpr ⟨ca_7_39, (List.forall_mem_cons.mpr ⟨ca_7_40, (List.forall_mem_cons.mpr ⟨ca_7_41, (List.forall_mem_cons.mpr ⟨ca_7_42, (List.forall_mem_cons.mpr ⟨ca_7_43, (List.forall_mem_cons.mpr ⟨ca_7_44, (List.forall_mem_cons.mpr ⟨ca_7_45, (List.forall_mem_cons.mpr ⟨ca_7_46, (List.forall_mem_cons.mpr ⟨ca_7_47, (List.forall_mem_cons.mpr ⟨ca_7_48, (List.forall_mem_cons.mpr ⟨ca_7_49, (List.forall_mem_cons.mpr ⟨ca_7_50, (List.forall_mem_cons.mpr ⟨ca_7_51, (List.forall_mem_cons.mpr ⟨ca_7_52, (fun _ h => absurd h List.not_mem_nil)⟩)⟩)⟩)⟩)⟩)⟩)⟩)⟩)⟩)⟩)⟩)⟩)⟩)⟩)⟩)⟩)⟩)⟩)⟩)⟩)⟩)⟩)⟩)⟩)⟩)⟩)⟩)⟩)⟩)⟩)⟩)⟩)⟩)⟩)⟩)⟩)⟩)⟩)⟩)⟩)⟩)⟩)⟩)⟩)⟩)⟩)⟩)⟩)⟩)⟩)⟩)⟩)⟩)
set_option maxRecDepth 20000 in
theorem ca_8_0 : callOK 8 7 96 := Or.inl ⟨by decide, tb4 106 rfl rfl⟩
set_option maxRecDepth 20000 in
theorem ca_8_1 : callOK 8 15 91 := Or.inl ⟨by decide, tb1 24 rfl rfl⟩
set_option maxRecDepth 20000 in
theorem ca_8_2 : callOK 8 18 129 := Or.inl ⟨by decide, tb4 180 rfl rfl⟩
set_option maxRecDepth 20000 in
theorem ca_8_3 : callOK 8 19 92 := Or.inl ⟨by decide, tb2 57 rfl rfl⟩
set_option maxRecDepth 20000 in
theorem ca_8_4 : callOK 8 23 133 := Or.inl ⟨by decide, tb5 38 rfl rfl⟩
set_option maxRecDepth 20000 in
theorem ca_8_5 : callOK 8 24 93 := Or.inl ⟨by decide, tb2 69 rfl rfl⟩
set_option maxRecDepth 20000 in
theorem ca_8_6 : callOK 8 28 155 := Or.inl ⟨by decide, tb5 46 rfl rfl⟩
set_option maxRecDepth 20000 in
theorem ca_8_7 : callOK 8 29 94 := Or.inl ⟨by decide, tb2 214 rfl rfl⟩
set_option maxRecDepth 20000 in
theorem ca_8_8 : callOK 8 33 163 := Or.inl ⟨by decide, tb5 151 rfl rfl⟩
set_option maxRecDepth 20000 in
theorem ca_8_9 : callOK 8 34 95 := Or.inl ⟨by decide, tb2 236 rfl rfl⟩
set_option maxRecDepth 20000 in
theorem ca_8_10 : callOK 8 37 164 := Or.inl ⟨by decide, tb5 171 rfl rfl⟩
set_option maxRecDepth 20000 in
theorem ca_8_11 : callOK 8 38 216 := Or.inl ⟨by decide, tb4 102 rfl rfl⟩
set_option maxRecDepth 20000 in
theorem ca_8_12 : callOK 8 43 167 := Or.inl ⟨by decide, tb5 179 rfl rfl⟩
set_option maxRecDepth 20000 in
theorem ca_8_13 : callOK 8 44 130 := Or.inl ⟨by decide, tb5 34 rfl rfl⟩
set_option maxRecDepth 20000 in
theorem ca_8_14 : callOK 8 48 97 := Or.inl ⟨by decide, tb3 8 rfl rfl⟩
set_option maxRecDepth 20000 in
theorem ca_8_15 : callOK 8 51 168 := Or.inl ⟨by decide, tb5 192 rfl rfl⟩
set_option maxRecDepth 20000 in
theorem ca_8_16 : callOK 8 52 98 := Or.inl ⟨by decide, tb3 16 rfl rfl⟩
set_option maxRecDepth 20000 in
theorem ca_8_17 : callOK 8 55 169 := Or.inl ⟨by decide, tb5 196 rfl rfl⟩
set_option maxRecDepth 20000 in
theorem ca_8_18 : callOK 8 56 99 := Or.inl ⟨by decide, tb3 21 rfl rfl⟩
set_option maxRecDepth 20000 in
theorem ca_8_19 : callOK 8 59 170 := Or.inl ⟨by decide, tb5 200 rfl rfl⟩
set_option maxRecDepth 20000 in
theorem ca_8_20 : callOK 8 60 100 := Or.inl ⟨by decide, tb3 33 rfl rfl⟩
set_option maxRecDepth 20000 in
theorem ca_8_21 : callOK 8 63 174 := Or.inl ⟨by decide, tb5 208 rfl rfl⟩
set_option maxRecDepth 20000 in
theorem ca_8_22 : callOK 8 64 101 := Or.inl ⟨by decide, tb3 68 rfl rfl⟩
set_option maxRecDepth 20000 in
theorem ca_8_23 : callOK 8 67 175 := Or.inl ⟨by decide, tb5 228 rfl rfl⟩
set_option maxRecDepth 20000 in
theorem ca_8_24 : callOK 8 68 102 := Or.inl ⟨by decide, tb3 72 rfl rfl⟩
set_option maxRecDepth 20000 in
theorem ca_8_25 : callOK 8 71 176 := Or.inl ⟨by decide, tb5 232 rfl rfl⟩
set_option maxRecDepth 20000 in
theorem ca_8_26 : callOK 8 72 103 := Or.inl ⟨by decide, tb3 77 rfl rfl⟩
set_option maxRecDepth 20000 in
theorem ca_8_27 : callOK 8 75 178 := Or.inl ⟨by decide, tb5 236 rfl rfl⟩
set_option maxRecDepth 20000 in
theorem ca_8_28 : callOK 8 76 105 := Or.inl ⟨by decide, tb3 99 rfl rfl⟩
set_option maxRecDepth 20000 in
theorem ca_8_29 : callOK 8 79 184 := Or.inl ⟨by decide, tb6 4 rfl rfl⟩
set_option maxRecDepth 20000 in
theorem ca_8_30 : callOK 8 80 106 := Or.inl ⟨by decide, tb3 122 rfl rfl⟩
set_option maxRecDepth 20000 in
theorem ca_8_31 : callOK 8 83 185 := Or.inl ⟨by decide, tb6 22 rfl rfl⟩
set_option maxRecDepth 20000 in
theorem ca_8_32 : callOK 8 84 109 := Or.inl ⟨by decide, tb3 131 rfl rfl⟩
set_option maxRecDepth 20000 in
theorem ca_8_33 : callOK 8 87 186 := Or.inl ⟨by decide, tb6 26 rfl rfl⟩
set_option maxRecDepth 20000 in
theorem ca_8_34 : callOK 8 88 110 := Or.inl ⟨by decide, tb3 135 rfl rfl⟩
set_option maxRecDepth 20000 in
theorem ca_8_35 : callOK 8 91 187 := Or.inl ⟨by decide, tb6 30 rfl rfl⟩
set_option maxRecDepth 20000 in
theorem ca_8_36 : callOK 8 92 111 := Or.inl ⟨by decide, tb3 146 rfl rfl⟩
set_option maxRecDepth 20000 in
theorem ca_8_37 : callOK 8 95 188 := Or.inl ⟨by decide, tb6 38 rfl rfl⟩
set_option maxRecDepth 20000 in
theorem ca_8_38 : callOK 8 96 113 := Or.inl ⟨by decide, tb3 150 rfl rfl⟩
set_option maxRecDepth 20000 in
theorem ca_8_39 : callOK 8 100 189 := Or.inl ⟨by decide, tb6 46 rfl rfl⟩
set_option maxRecDepth 20000 in
theorem ca_8_40 : callOK 8 101 114 := Or.inl ⟨by decide, tb3 155 rfl rfl⟩
set_option maxRecDepth 20000 in
theorem ca_8_41 : callOK 8 104 194 := Or.inl ⟨by decide, tb6 51 rfl rfl⟩
set_option maxRecDepth 20000 in
theorem ca_8_42 : callOK 8 105 115 := Or.inl ⟨by decide, tb3 174 rfl rfl⟩
set_option maxRecDepth 20000 in
theorem ca_8_43 : callOK 8 108 195 := Or.inl ⟨by decide, tb6 59 rfl rfl⟩
set_option maxRecDepth 20000 in
theorem ca_8_44 : callOK 8 109 116 := Or.inl ⟨by decide, tb3 178 rfl rfl⟩
set_option maxRecDepth 20000 in
theorem ca_8_45 : callOK 8 112 196 := Or.inl ⟨by decide, tb6 67 rfl rfl⟩
set_option maxRecDepth 20000 in
theorem ca_8_46 : callOK 8 113 117 := Or.inl ⟨by decide, tb3 183 rfl rfl⟩
set_option maxRecDepth 20000 in
theorem ca_8_47 : callOK 8 116 197 := Or.inl ⟨by decide, tb6 75 rfl rfl⟩
set_option maxRecDepth 20000 in
theorem ca_8_48 : callOK 8 117 118 := Or.inl ⟨by decide, tb3 214 rfl rfl⟩
set_option maxRecDepth 20000 in
theorem ca_8_49 : callOK 8 120 199 := Or.inl ⟨by decide, tb6 82 rfl rfl⟩
set_option maxRecDepth 20000 in
theorem ca_8_50 : callOK 8 121 119 := Or.inl ⟨by decide, tb3 233 rfl rfl⟩
set_option maxRecDepth 20000 in
theorem ca_8_51 : callOK 8 124 202 := Or.inl ⟨by decide, tb6 90 rfl rfl⟩
set_option maxRecDepth 20000 in
theorem ca_8_52 : callOK 8 125 120 := Or.inl ⟨by decide, tb4 8 rfl rfl⟩
set_option maxRecDepth 20000 in
theorem ca_8_53 : callOK 8 128 203 := Or.inl ⟨by decide, tb6 102 rfl rfl⟩
set_option maxRecDepth 20000 in
theorem ca_8_54 : callOK 8 129 121 := Or.inl ⟨by decide, tb4 16 rfl rfl⟩
set_option maxRecDepth 20000 in
theorem ca_8_55 : callOK 8 133 204 := Or.inl ⟨by decide, tb6 106 rfl rfl⟩
set_option maxRecDepth 20000 in
theorem ca_8_56 : callOK 8 134 122 := Or.inl ⟨by decide, tb4 21 rfl rfl⟩
set_option maxRecDepth 20000 in
theorem ca_8_57 : callOK 8 137 205 := Or.inl ⟨by decide, tb6 110 rfl rfl⟩
set_option maxRecDepth 20000 in
theorem ca_8_58 : callOK 8 138 123 := Or.inl ⟨by decide, tb4 26 rfl rfl⟩
set_option maxRecDepth 20000 in
theorem ca_8_59 : callOK 8 141 207 := Or.inl ⟨by decide, tb6 114 rfl rfl⟩
set_option maxRecDepth 20000 in
theorem ca_8_60 : callOK 8 142 124 := Or.inl ⟨by decide, tb4 38 rfl rfl⟩
set_option maxRecDepth 20000 in
theorem ca_8_61 : callOK 8 145 208 := Or.inl ⟨by decide, tb6 122 rfl rfl⟩
set_option maxRecDepth 20000 in
theorem ca_8_62 : callOK 8 146 125 := Or.inl ⟨by decide, tb4 51 rfl rfl⟩
set_option maxRecDepth 20000 in
theorem ca_8_63 : callOK 8 150 210 := Or.inl ⟨by decide, tb6 126 rfl rfl⟩
set_option maxRecDepth 20000 in
theorem ca_8_64 : callOK 8 151 126 := Or.inl ⟨by decide, tb4 65 rfl rfl⟩
set_option maxRecDepth 20000 in
theorem ca_8_65 : callOK 8 154 211 := Or.inl ⟨by decide, tb6 134 rfl rfl⟩
set_option maxRecDepth 20000 in
theorem ca_8_66 : callOK 8 155 127 := Or.inl ⟨by decide, tb4 77 rfl rfl⟩
set_option maxRecDepth 20000 in
theorem ca_8_67 : callOK 8 159 212 := Or.inl ⟨by decide, tb6 138 rfl rfl⟩
set_option maxRecDepth 20000 in
theorem ca_8_68 : callOK 8 160 128 := Or.inl ⟨by decide, tb4 89 rfl rfl⟩
set_option maxRecDepth 20000 in
theorem ca_8_69 : callOK 8 163 215 := Or.inl ⟨by decide, tb6 142 rfl rfl⟩
set_option maxRecDepth 20000 in
theorem ca_8 : ∀ e ∈ callsL.getD 8 [], callOK 8 e.1 e.2 := (List.forall_mem_cons.mpr ⟨ca_8_0, (List.forall_mem_cons.mpr ⟨ca_8_1, (List.forall_mem_cons.mpr ⟨ca_8_2, (List.forall_mem_cons.mpr ⟨ca_8_3, (List.forall_mem_cons.mpr ⟨ca_8_4, (List.forall_mem_cons.mpr ⟨ca_8_5, (List.forall_mem_cons.mpr ⟨ca_8_6, (List.forall_mem_cons.mpr ⟨ca_8_7, (List.forall_mem_cons.mpr ⟨ca_8_8, (List.forall_mem_cons.mpr ⟨ca_8_9, (List.forall_mem_cons.mpr ⟨ca_8_10, (List.forall_mem_cons.mpr ⟨ca_8_11, (List.forall_mem_cons.mpr ⟨ca_8_12, (List.forall_mem_cons.mpr ⟨ca_8_13, (List.forall_mem_cons.mpr ⟨ca_8_14, (List.forall_mem_cons.mpr ⟨ca_8_15, (List.forall_mem_cons.mpr ⟨ca_8_16, (List.forall_mem_cons.mpr ⟨ca_8_17, (List.forall_mem_cons.mpr ⟨ca_8_18, (List.forall_mem_cons.mpr ⟨ca_8_19, (List.forall_mem_cons.mpr ⟨ca_8_20, (List.forall_mem_cons.mpr ⟨ca_8_21, (List.forall_mem_cons.mpr ⟨ca_8_22, (List.forall_mem_cons.mpr ⟨ca_8_23, (List.forall_mem_cons.mpr ⟨ca_8_24, (List.forall_mem_cons.mpr ⟨ca_8_25, (List.forall_mem_cons.mpr ⟨ca_8_26, (List.forall_mem_cons.mpr ⟨ca_8_27, (List.forall_mem_cons.mpr ⟨ca_8_28, (List.forall_mem_cons.mpr ⟨ca_8_29, (List.forall_mem_cons.mpr ⟨ca_8_30, (List.forall_mem_cons.mpr ⟨ca_8_31, (List.forall_mem_cons.mpr ⟨ca_8_32, (List.forall_mem_cons.mpr ⟨ca_8_33, (List.forall_mem_cons.mpr ⟨ca_8_34, (List.forall_mem_cons.mpr ⟨ca_8_35, (List.forall_mem_cons.mpr ⟨ca_8_36, (List.forall_mem_cons.mpr ⟨ca_8_37, (List.forall_mem_cons.mpr ⟨ca_8_38, (List.forall_mem_cons.mpr ⟨ca_8_39, (List.forall_mem_cons.mpr ⟨ca_8_40, (List.forall_mem_cons.mpr ⟨ca_8_41, (List.forall_mem_cons.mpr ⟨ca_8_42, (List.forall_mem_cons.mpr ⟨ca_8_43, (List.forall_mem_cons.mpr ⟨ca_8_44, (List.forall_mem_cons.mpr ⟨ca_8_45, (List.forall_mem_cons.mpr ⟨ca_8_46, (List.forall_mem_cons.mpr ⟨ca_8_47, (List.forall_mem_cons.mpr ⟨ca_8_48, (List.forall_mem_cons.mpr ⟨ca_8_49, (List.forall_mem_cons.mpr ⟨ca_8_50, (List.forall_mem_cons.mpr ⟨ca_8_51, (List.forall_mem_cons.mpr ⟨ca_8_52, (List.forall_mem_cons.mpr ⟨ca_8_53, (List.forall_mem_cons.mpr ⟨ca_8_54, (List.forall_mem_cons.mpr ⟨ca_8_55, (List.forall_mem_cons.mpr ⟨ca_8_56, (List.forall_mem_cons.mpr ⟨ca_8_57, (List.forall_mem_cons.mpr ⟨ca_8_58, (List.forall_mem_cons.mpr ⟨ca_8_59, (List.forall_mem_cons.mpr ⟨ca_8_60, (List.forall_mem_cons.mpr ⟨ca_8_61, (List.forall_mem_cons.mpr ⟨ca_8_62, (List.forall_mem_cons.mpr ⟨ca_8_63, (List.forall_mem_cons.mpr ⟨ca_8_64, (List.forall_mem_cons.mpr ⟨ca_8_65, (List.forall_mem_cons.mpr ⟨ca_8_66, (List.forall_mem_cons.mpr ⟨ca_8_67, (List.forall_mem_cons.mpr ⟨ca_8_68, (List.forall_mem_cons.mpr ⟨ca_8_69, (fun _ h => absurd h List.not_mem_nil)⟩)⟩)⟩)⟩)⟩)⟩)⟩)⟩)⟩)⟩)⟩)⟩)⟩)⟩)⟩)⟩)⟩)⟩)⟩)⟩)⟩)⟩)⟩)⟩)⟩)⟩)⟩)⟩)⟩)⟩)⟩)⟩)⟩)⟩)⟩)⟩)⟩)⟩)⟩)⟩)⟩)⟩)⟩)⟩)⟩)⟩)⟩)⟩)⟩)⟩)⟩)⟩)⟩)⟩)⟩)⟩)⟩)⟩)⟩)⟩)⟩)⟩)⟩)⟩)⟩)⟩)⟩)⟩)⟩)⟩)
set_option maxRecDepth 20000 in
theorem ca_9 : ∀ e ∈ callsL.getD 9 [], callOK 9 e.1 e.2 := (fun _ h => absurd h List.not_mem_nil)
set_option maxRecDepth 20000 in
theorem ca_10 : ∀ e ∈ callsL.getD 10 [], callOK 10 e.1 e.2 := (fun _ h => absurd h List.not_mem_nil)
set_option maxRecDepth 20000 in
theorem ca_11 : ∀ e ∈ callsL.getD 11 [], callOK 11 e.1 e.2 := (fun _ h => absurd h List.not_mem_nil)
theorem ca_all {own idx q : Nat} (h : callOf own idx = some q) : callOK own idx q := by
  have hm := lkN_mem h
  match own, hm with
  | 0, hm => exact ca_0 (idx, q) hm
  | 1, hm => exact ca_1 (idx, q) hm
  | 2, hm => exact ca_2 (idx, q) hm
  | 3, hm => exact ca_3 (idx, q) hm
  | 4, hm => exact ca_4 (idx, q) hm
  | 5, hm => exact ca_5 (idx, q) hm
  | 6, hm => exact ca_6 (idx, q) hm
  | 7, hm => exact ca_7 (idx, q) hm
  | 8, hm => exact ca_8 (idx, q) hm
  | 9, hm => exact ca_9 (idx, q) hm
  | 10, hm => exact ca_10 (idx, q) hm
  | 11, hm => exact ca_11 (idx, q) hm
  | k + 12, hm => simp [callsL] at hm
def fldsL : List (List (Nat × (Nat × Nat))) := [[(12, (0, 0)), (21, (0, 1)), (33, (5, 3)), (48, (5, 4)), (54, (5, 2))], [(11, (1, 0)), (15, (1, 1)), (18, (1, 4)), (22, (1, 3)), (25, (1, 2))], [(12, (2, 0)), (18, (2, 1)), (22, (2, 2)), (25, (2, 3)), (28, (2, 4)), (34, (2, 8)), (75, (2, 5)), (79, (2, 6)), (83, (2, 7)), (93, (4, 4)), (125, (5, 2)), (142, (5, 3)), (148, (5, 4)), (157, (5, 5)), (177, (4, 6)), (183, (4, 5))], [(9, (3, 0)), (15, (3, 1)), (18, (3, 2)), (21, (3, 3)), (24, (5, 2)), (30, (3, 4)), (31, (3, 5)), (58, (3, 6)), (61, (3, 7)), (64, (3, 8))], [(9, (4, 0)), (13, (4, 1)), (17, (4, 2)), (29, (4, 3)), (36, (4, 5)), (39, (4, 6)), (42, (4, 4))], [(11, (5, 0)), (15, (5, 1)), (24, (5, 2)), (28, (5, 3)), (31, (5, 4)), (34, (5, 5))], [(12, (6, 1)), (16, (2, 0)), (20, (6, 0)), (24, (6, 2)), (31, (6, 3)), (38, (6, 4)), (45, (6, 5)), (59, (4, 1)), (67, (2, 8)), (125, (3, 6)), (129, (3, 7)), (132, (3, 8)), (138, (5, 2)), (179, (5, 3)), (189, (5, 5)), (250, (1, 4)), (259, (5, 4))], [(7, (7, 1)), (13, (7, 13)), (17, (7, 14)), (21, (7, 15)), (24, (7, 16)), (27, (7, 17)), (30, (7, 18)), (34, (7, 19)), (37, (7, 21)), (40, (7, 22)), (43, (7, 25)), (46, (7, 0)), (50, (7, 2)), (57, (7, 3)), (60, (7, 5)), (63, (7, 4)), (70, (7, 6)), (73, (7, 7)), (76, (7, 8)), (94, (7, 9)), (97, (7, 10)), (138, (7, 11)), (144, (7, 12)), (160, (7, 23)), (163, (7, 24)), (205, (7, 20)), (235, (7, 26)), (238, (7, 28)), (244, (7, 27))], [], [], [], []]
def fldOf (own idx : Nat) : Option (Nat × Nat) := lkN (fldsL.getD own []) idx
def fldOK (own idx ci k : Nat) : Prop := ∃ q : vw_C, vwCl[ci]? = some q ∧ k < q.2.2 ∧ Cond.fieldLink (oName own) idx q.1 (q.2.1 k).2.1 (q.2.1 k).2.2.1 ∈ gtbl
set_option maxRecDepth 20000 in
theorem fa_0_0 : fldOK 0 12 0 0 := ⟨_, rfl, by decide, tb2 6 rfl rfl⟩
set_option maxRecDepth 20000 in
theorem fa_0_1 : fldOK 0 21 0 1 := ⟨_, rfl, by decide, tb2 7 rfl rfl⟩
set_option maxRecDepth 20000 in
theorem fa_0_2 : fldOK 0 33 5 3 := ⟨_, rfl, by decide, tb1 82 rfl rfl⟩
set_option maxRecDepth 20000 in
theorem fa_0_3 : fldOK 0 48 5 4 := ⟨_, rfl, by decide, tb1 87 rfl rfl⟩
set_option maxRecDepth 20000 in
theorem fa_0_4 : fldOK 0 54 5 2 := ⟨_, rfl, by decide, tb1 79 rfl rfl⟩
theorem fa_0 : ∀ e ∈ fldsL.getD 0 [], fldOK 0 e.1 e.2.1 e.2.2 := (List.forall_mem_cons.mpr ⟨fa_0_0, (List.forall_mem_cons.mpr ⟨fa_0_1, (List.forall_mem_cons.mpr ⟨fa_0_2, (List.forall_mem_cons.mpr ⟨fa_0_3, (List.forall_mem_cons.mpr ⟨fa_0_4, (fun _ h => absurd h List.not_mem_nil)⟩)⟩)⟩)⟩)⟩)
set_option maxRecDepth 20000 in
theorem fa_1_0 : fldOK 1 11 1 0 := ⟨_, rfl, by decide, tb2 19 rfl rfl⟩
set_option maxRecDepth 20000 in
theorem fa_1_1 : fldOK 1 15 1 1 := ⟨_, rfl, by decide, tb2 20 rfl rfl⟩
set_option maxRecDepth 20000 in
theorem fa_1_2 : fldOK 1 18 1 4 := ⟨_, rfl, by decide, tb2 23 rfl rfl⟩
set_option maxRecDepth 20000 in
theorem fa_1_3 : fldOK 1 22 1 3 := ⟨_, rfl, by decide, tb2 22 rfl rfl⟩
set_option maxRecDepth 20000 in
theorem fa_1_4 : fldOK 1 25 1 2 := ⟨_, rfl, by decide, tb2 21 rfl rfl⟩
theorem fa_1 : ∀ e ∈ fldsL.getD 1 [], fldOK 1 e.1 e.2.1 e.2.2 := (List.forall_mem_cons.mpr ⟨fa_1_0, (List.forall_mem_cons.mpr ⟨fa_1_1, (List.forall_mem_cons.mpr ⟨fa_1_2, (List.forall_mem_cons.mpr ⟨fa_1_3, (List.forall_mem_cons.mpr ⟨fa_1_4, (fun _ h => absurd h List.not_mem_nil)⟩)⟩)⟩)⟩)⟩)
set_option maxRecDepth 20000 in
theorem fa_2_0 : fldOK 2 12 2 0 := ⟨_, rfl, by decide, tb1 169 rfl rfl⟩
set_option maxRecDepth 20000 in
theorem fa_2_1 : fldOK 2 18 2 1 := ⟨_, rfl, by decide, tb1 171 rfl rfl⟩
set_option maxRecDepth 20000 in
theorem fa_2_2 : fldOK 2 22 2 2 := ⟨_, rfl, by decide, tb1 172 rfl rfl⟩
set_option maxRecDepth 20000 in
theorem fa_2_3 : fldOK 2 25 2 3 := ⟨_, rfl, by decide, tb1 173 rfl rfl⟩
set_option maxRecDepth 20000 in
theorem fa_2_4 : fldOK 2 28 2 4 := ⟨_, rfl, by decide, tb1 174 rfl rfl⟩
set_option maxRecDepth 20000 in
theorem fa_2_5 : fldOK 2 34 2 8 := ⟨_, rfl, by decide, tb1 178 rfl rfl⟩
set_option maxRecDepth 20000 in
theorem fa_2_6 : fldOK 2 75 2 5 := ⟨_, rfl, by decide, tb1 175 rfl rfl⟩
set_option maxRecDepth 20000 in
theorem fa_2_7 : fldOK 2 79 2 6 := ⟨_, rfl, by decide, tb1 176 rfl rfl⟩
set_option maxRecDepth 20000 in
theorem fa_2_8 : fldOK 2 83 2 7 := ⟨_, rfl, by decide, tb1 177 rfl rfl⟩
set_option maxRecDepth 20000 in
theorem fa_2_9 : fldOK 2 93 4 4 := ⟨_, rfl, by decide, tb1 47 rfl rfl⟩
set_option maxRecDepth 20000 in
theorem fa_2_10 : fldOK 2 125 5 2 := ⟨_, rfl, by decide, tb1 80 rfl rfl⟩
set_option maxRecDepth 20000 in
theorem fa_2_11 : fldOK 2 142 5 3 := ⟨_, rfl, by decide, tb1 84 rfl rfl⟩
set_option maxRecDepth 20000 in
theorem fa_2_12 : fldOK 2 148 5 4 := ⟨_, rfl, by decide, tb1 88 rfl rfl⟩
set_option maxRecDepth 20000 in
theorem fa_2_13 : fldOK 2 157 5 5 := ⟨_, rfl, by decide, tb1 91 rfl rfl⟩
set_option maxRecDepth 20000 in
theorem fa_2_14 : fldOK 2 177 4 6 := ⟨_, rfl, by decide, tb1 52 rfl rfl⟩
set_option maxRecDepth 20000 in
theorem fa_2_15 : fldOK 2 183 4 5 := ⟨_, rfl, by decide, tb1 50 rfl rfl⟩
theorem fa_2 : ∀ e ∈ fldsL.getD 2 [], fldOK 2 e.1 e.2.1 e.2.2 := (List.forall_mem_cons.mpr ⟨fa_2_0, (List.forall_mem_cons.mpr ⟨fa_2_1, (List.forall_mem_cons.mpr ⟨fa_2_2, (List.forall_mem_cons.mpr ⟨fa_2_3, (List.forall_mem_cons.mpr ⟨fa_2_4, (List.forall_mem_cons.mpr ⟨fa_2_5, (List.forall_mem_cons.mpr ⟨fa_2_6, (List.forall_mem_cons.mpr ⟨fa_2_7, (List.forall_mem_cons.mpr ⟨fa_2_8, (List.forall_mem_cons.mpr ⟨fa_2_9, (List.forall_mem_cons.mpr ⟨fa_2_10, (List.forall_mem_cons.mpr ⟨fa_2_11, (List.forall_mem_cons.mpr ⟨fa_2_12, (List.forall_mem_cons.mpr ⟨fa_2_13, (List.forall_mem_cons.mpr ⟨fa_2_14, (List.forall_mem_cons.mpr ⟨fa_2_15, (fun _ h => absurd h List.not_mem_nil)⟩)⟩)⟩)⟩)⟩)⟩)⟩)⟩)⟩)⟩)⟩)⟩)⟩)⟩)⟩)⟩)
set_option maxRecDepth 20000 in
theorem fa_3_0 : fldOK 3 9 3 0 := ⟨_, rfl, by decide, tb1 205 rfl rfl⟩
set_option maxRecDepth 20000 in
theorem fa_3_1 : fldOK 3 15 3 1 := ⟨_, rfl, by decide, tb1 206 rfl rfl⟩
set_option maxRecDepth 20000 in
theorem fa_3_2 : fldOK 3 18 3 2 := ⟨_, rfl, by decide, tb1 207 rfl rfl⟩
set_option maxRecDepth 20000 in
theorem fa_3_3 : fldOK 3 21 3 3 := ⟨_, rfl, by decide, tb1 208 rfl rfl⟩
set_option maxRecDepth 20000 in
theorem fa_3_4 : fldOK 3 24 5 2 := ⟨_, rfl, by decide, tb1 77 rfl rfl⟩
set_option maxRecDepth 20000 in
theorem fa_3_5 : fldOK 3 30 3 4 := ⟨_, rfl, by decide, tb1 209 rfl rfl⟩
set_option maxRecDepth 20000 in
theorem fa_3_6 : fldOK 3 31 3 5 := ⟨_, rfl, by decide, tb1 210 rfl rfl⟩
set_option maxRecDepth 20000 in
theorem fa_3_7 : fldOK 3 58 3 6 := ⟨_, rfl, by decide, tb1 211 rfl rfl⟩
set_option maxRecDepth 20000 in
theorem fa_3_8 : fldOK 3 61 3 7 := ⟨_, rfl, by decide, tb1 213 rfl rfl⟩
set_option maxRecDepth 20000 in
theorem fa_3_9 : fldOK 3 64 3 8 := ⟨_, rfl, by decide, tb1 215 rfl rfl⟩
theorem fa_3 : ∀ e ∈ fldsL.getD 3 [], fldOK 3 e.1 e.2.1 e.2.2 := (List.forall_mem_cons.mpr ⟨fa_3_0, (List.forall_mem_cons.mpr ⟨fa_3_1, (List.forall_mem_cons.mpr ⟨fa_3_2, (List.forall_mem_cons.mpr ⟨fa_3_3, (List.forall_mem_cons.mpr ⟨fa_3_4, (List.forall_mem_cons.mpr ⟨fa_3_5, (List.forall_mem_cons.mpr ⟨fa_3_6, (List.forall_mem_cons.mpr ⟨fa_3_7, (List.forall_mem_cons.mpr ⟨fa_3_8, (List.forall_mem_cons.mpr ⟨fa_3_9, (fun _ h => absurd h List.not_mem_nil)⟩)⟩)⟩)⟩)⟩)⟩)⟩)⟩)⟩)⟩)
set_option maxRecDepth 20000 in
theorem fa_4_0 : fldOK 4 9 4 0 := ⟨_, rfl, by decide, tb1 42 rfl rfl⟩
set_option maxRecDepth 20000 in
theorem fa_4_1 : fldOK 4 13 4 1 := ⟨_, rfl, by decide, tb1 43 rfl rfl⟩
set_option maxRecDepth 20000 in
theorem fa_4_2 : fldOK 4 17 4 2 := ⟨_, rfl, by decide, tb1 45 rfl rfl⟩
set_option maxRecDepth 20000 in
theorem fa_4_3 : fldOK 4 29 4 3 := ⟨_, rfl, by decide, tb1 46 rfl rfl⟩
set_option maxRecDepth 20000 in
theorem fa_4_4 : fldOK 4 36 4 5 := ⟨_, rfl, by decide, tb1 49 rfl rfl⟩
set_option maxRecDepth 20000 in
theorem fa_4_5 : fldOK 4 39 4 6 := ⟨_, rfl, by decide, tb1 51 rfl rfl⟩
set_option maxRecDepth 20000 in
theorem fa_4_6 : fldOK 4 42 4 4 := ⟨_, rfl, by decide, tb1 48 rfl rfl⟩
theorem fa_4 : ∀ e ∈ fldsL.getD 4 [], fldOK 4 e.1 e.2.1 e.2.2 := (List.forall_mem_cons.mpr ⟨fa_4_0, (List.forall_mem_cons.mpr ⟨fa_4_1, (List.forall_mem_cons.mpr ⟨fa_4_2, (List.forall_mem_cons.mpr ⟨fa_4_3, (List.forall_mem_cons.mpr ⟨fa_4_4, (List.forall_mem_cons.mpr ⟨fa_4_5, (List.forall_mem_cons.mpr ⟨fa_4_6, (fun _ h => absurd h List.not_mem_nil)⟩)⟩)⟩)⟩)⟩)⟩)⟩)
set_option maxRecDepth 20000 in
theorem fa_5_0 : fldOK 5 11 5 0 := ⟨_, rfl, by decide, tb1 75 rfl rfl⟩
set_option maxRecDepth 20000 in
theorem fa_5_1 : fldOK 5 15 5 1 := ⟨_, rfl, by decide, tb1 76 rfl rfl⟩
set_option maxRecDepth 20000 in
theorem fa_5_2 : fldOK 5 24 5 2 := ⟨_, rfl, by decide, tb1 78 rfl rfl⟩
set_option maxRecDepth 20000 in
theorem fa_5_3 : fldOK 5 28 5 3 := ⟨_, rfl, by decide, tb1 83 rfl rfl⟩
set_option maxRecDepth 20000 in
theorem fa_5_4 : fldOK 5 31 5 4 := ⟨_, rfl, by decide, tb1 86 rfl rfl⟩
set_option maxRecDepth 20000 in
theorem fa_5_5 : fldOK 5 34 5 5 := ⟨_, rfl, by decide, tb1 90 rfl rfl⟩
theorem fa_5 : ∀ e ∈ fldsL.getD 5 [], fldOK 5 e.1 e.2.1 e.2.2 := (List.forall_mem_cons.mpr ⟨fa_5_0, (List.forall_mem_cons.mpr ⟨fa_5_1, (List.forall_mem_cons.mpr ⟨fa_5_2, (List.forall_mem_cons.mpr ⟨fa_5_3, (List.forall_mem_cons.mpr ⟨fa_5_4, (List.forall_mem_cons.mpr ⟨fa_5_5, (fun _ h => absurd h List.not_mem_nil)⟩)⟩)⟩)⟩)⟩)⟩)
set_option maxRecDepth 20000 in
theorem fa_6_0 : fldOK 6 12 6 1 := ⟨_, rfl, by decide, tb2 39 rfl rfl⟩
set_option maxRecDepth 20000 in
theorem fa_6_1 : fldOK 6 16 2 0 := ⟨_, rfl, by decide, tb1 170 rfl rfl⟩
set_option maxRecDepth 20000 in
theorem fa_6_2 : fldOK 6 20 6 0 := ⟨_, rfl, by decide, tb2 38 rfl rfl⟩
set_option maxRecDepth 20000 in
theorem fa_6_3 : fldOK 6 24 6 2 := ⟨_, rfl, by decide, tb2 40 rfl rfl⟩
set_option maxRecDepth 20000 in
theorem fa_6_4 : fldOK 6 31 6 3 := ⟨_, rfl, by decide, tb2 41 rfl rfl⟩
set_option maxRecDepth 20000 in
theorem fa_6_5 : fldOK 6 38 6 4 := ⟨_, rfl, by decide, tb2 42 rfl rfl⟩
set_option maxRecDepth 20000 in
theorem fa_6_6 : fldOK 6 45 6 5 := ⟨_, rfl, by decide, tb2 43 rfl rfl⟩
set_option maxRecDepth 20000 in
theorem fa_6_7 : fldOK 6 59 4 1 := ⟨_, rfl, by decide, tb1 44 rfl rfl⟩
set_option maxRecDepth 20000 in
theorem fa_6_8 : fldOK 6 67 2 8 := ⟨_, rfl, by decide, tb1 179 rfl rfl⟩
set_option maxRecDepth 20000 in
theorem fa_6_9 : fldOK 6 125 3 6 := ⟨_, rfl, by decide, tb1 212 rfl rfl⟩
set_option maxRecDepth 20000 in
theorem fa_6_10 : fldOK 6 129 3 7 := ⟨_, rfl, by decide, tb1 214 rfl rfl⟩
set_option maxRecDepth 20000 in
theorem fa_6_11 : fldOK 6 132 3 8 := ⟨_, rfl, by decide, tb1 216 rfl rfl⟩
set_option maxRecDepth 20000 in
theorem fa_6_12 : fldOK 6 138 5 2 := ⟨_, rfl, by decide, tb1 81 rfl rfl⟩
set_option maxRecDepth 20000 in
theorem fa_6_13 : fldOK 6 179 5 3 := ⟨_, rfl, by decide, tb1 85 rfl rfl⟩
set_option maxRecDepth 20000 in
theorem fa_6_14 : fldOK 6 189 5 5 := ⟨_, rfl, by decide, tb1 92 rfl rfl⟩
set_option maxRecDepth 20000 in
theorem fa_6_15 : fldOK 6 250 1 4 := ⟨_, rfl, by decide, tb2 24 rfl rfl⟩
set_option maxRecDepth 20000 in
theorem fa_6_16 : fldOK 6 259 5 4 := ⟨_, rfl, by decide, tb1 89 rfl rfl⟩
theorem fa_6 : ∀ e ∈ fldsL.getD 6 [], fldOK 6 e.1 e.2.1 e.2.2 := (List.forall_mem_cons.mpr ⟨fa_6_0, (List.forall_mem_cons.mpr ⟨fa_6_1, (List.forall_mem_cons.mpr ⟨fa_6_2, (List.forall_mem_cons.mpr ⟨fa_6_3, (List.forall_mem_cons.mpr ⟨fa_6_4, (List.forall_mem_cons.mpr ⟨fa_6_5, (List.forall_mem_cons.mpr ⟨fa_6_6, (List.forall_mem_cons.mpr ⟨fa_6_7, (List.forall_mem_cons.mpr ⟨fa_6_8, (List.forall_mem_cons.mpr ⟨fa_6_9, (List.forall_mem_cons.mpr ⟨fa_6_10, (List.forall_mem_cons.mpr ⟨fa_6_11, (List.forall_mem_cons.mpr ⟨fa_6_12, (List.forall_mem_cons.mpr ⟨fa_6_13, (List.forall_mem_cons.mpr ⟨fa_6_14, (List.forall_mem_cons.mpr ⟨fa_6_15, (List.forall_mem_cons.mpr ⟨fa_6_16, (fun _ h => absurd h List.not_mem_nil)⟩)⟩)⟩)⟩)⟩)⟩)⟩)⟩)⟩)⟩)⟩)⟩)⟩)⟩)⟩)⟩)⟩)
set_option maxRecDepth 20000 in
theorem fa_7_0 : fldOK 7 7 7 1 := ⟨_, rfl, by decide, tb4 185 rfl rfl⟩
set_option maxRecDepth 20000 in
theorem fa_7_1 : fldOK 7 13 7 13 := ⟨_, rfl, by decide, tb4 197 rfl rfl⟩
set_option maxRecDepth 20000 in
theorem fa_7_2 : fldOK 7 17 7 14 := ⟨_, rfl, by decide, tb4 198 rfl rfl⟩
set_option maxRecDepth 20000 in
theorem fa_7_3 : fldOK 7 21 7 15 := ⟨_, rfl, by decide, tb4 199 rfl rfl⟩
set_option maxRecDepth 20000 in
theorem fa_7_4 : fldOK 7 24 7 16 := ⟨_, rfl, by decide, tb4 200 rfl rfl⟩
set_option maxRecDepth 20000 in
theorem fa_7_5 : fldOK 7 27 7 17 := ⟨_, rfl, by decide, tb4 201 rfl rfl⟩
set_option maxRecDepth 20000 in
theorem fa_7_6 : fldOK 7 30 7 18 := ⟨_, rfl, by decide, tb4 202 rfl rfl⟩
set_option maxRecDepth 20000 in
theorem fa_7_7 : fldOK 7 34 7 19 := ⟨_, rfl, by decide, tb4 203 rfl rfl⟩
set_option maxRecDepth 20000 in
theorem fa_7_8 : fldOK 7 37 7 21 := ⟨_, rfl, by decide, tb4 205 rfl rfl⟩
set_option maxRecDepth 20000 in
theorem fa_7_9 : fldOK 7 40 7 22 := ⟨_, rfl, by decide, tb4 206 rfl rfl⟩
set_option maxRecDepth 20000 in
theorem fa_7_10 : fldOK 7 43 7 25 := ⟨_, rfl, by decide, tb4 209 rfl rfl⟩
set_option maxRecDepth 20000 in
theorem fa_7_11 : fldOK 7 46 7 0 := ⟨_, rfl, by decide, tb4 184 rfl rfl⟩
set_option maxRecDepth 20000 in
theorem fa_7_12 : fldOK 7 50 7 2 := ⟨_, rfl, by decide, tb4 186 rfl rfl⟩
set_option maxRecDepth 20000 in
theorem fa_7_13 : fldOK 7 57 7 3 := ⟨_, rfl, by decide, tb4 187 rfl rfl⟩
set_option maxRecDepth 20000 in
theorem fa_7_14 : fldOK 7 60 7 5 := ⟨_, rfl, by decide, tb4 189 rfl rfl⟩
set_option maxRecDepth 20000 in
theorem fa_7_15 : fldOK 7 63 7 4 := ⟨_, rfl, by decide, tb4 188 rfl rfl⟩
set_option maxRecDepth 20000 in
theorem fa_7_16 : fldOK 7 70 7 6 := ⟨_, rfl, by decide, tb4 190 rfl rfl⟩
set_option maxRecDepth 20000 in
theorem fa_7_17 : fldOK 7 73 7 7 := ⟨_, rfl, by decide, tb4 191 rfl rfl⟩
set_option maxRecDepth 20000 in
theorem fa_7_18 : fldOK 7 76 7 8 := ⟨_, rfl, by decide, tb4 192 rfl rfl⟩
set_option maxRecDepth 20000 in
theorem fa_7_19 : fldOK 7 94 7 9 := ⟨_, rfl, by decide, tb4 193 rfl rfl⟩
set_option maxRecDepth 20000 in
theorem fa_7_20 : fldOK 7 97 7 10 := ⟨_, rfl, by decide, tb4 194 rfl rfl⟩
set_option maxRecDepth 20000 in
theorem fa_7_21 : fldOK 7 138 7 11 := ⟨_, rfl, by decide, tb4 195 rfl rfl⟩
set_option maxRecDepth 20000 in
theorem fa_7_22 : fldOK 7 144 7 12 := ⟨_, rfl, by decide, tb4 196 rfl rfl⟩
set_option maxRecDepth 20000 in
theorem fa_7_23 : fldOK 7 160 7 23 := ⟨_, rfl, by decide, tb4 207 rfl rfl⟩
set_option maxRecDepth 20000 in
theorem fa_7_24 : fldOK 7 163 7 24 := ⟨_, rfl, by decide, tb4 208 rfl rfl⟩
set_option maxRecDepth 20000 in
theorem fa_7_25 : fldOK 7 205 7 20 := ⟨_, rfl, by decide, tb4 204 rfl rfl⟩
set_option maxRecDepth 20000 in
theorem fa_7_26 : fldOK 7 235 7 26 := ⟨_, rfl, by decide, tb4 210 rfl rfl⟩
set_option maxRecDepth 20000 in
theorem fa_7_27 : fldOK 7 238 7 28 := ⟨_, rfl, by decide, tb4 212 rfl rfl⟩
set_option maxRecDepth 20000 in
theorem fa_7_28 : fldOK 7 244 7 27 := ⟨_, rfl, by decide, tb4 211 rfl rfl⟩
theorem fa_7 : ∀ e ∈ fldsL.getD 7 [], fldOK 7 e.1 e.2.1 e.2.2 := (List.forall_mem_cons.mpr ⟨fa_7_0, (List.forall_mem_cons.mpr ⟨fa_7_1, (List.forall_mem_cons.mpr ⟨fa_7_2, (List.forall_mem_cons.mpr ⟨fa_7_3, (List.forall_mem_cons.mpr ⟨fa_7_4, (List.forall_mem_cons.mpr ⟨fa_7_5, (List.forall_mem_cons.mpr ⟨fa_7_6, (List.forall_mem_cons.mpr ⟨fa_7_7, (List.forall_mem_cons.mpr ⟨fa_7_8, (List.forall_mem_cons.mpr ⟨fa_7_9, (List.forall_mem_cons.mpr ⟨fa_7_10, (List.forall_mem_cons.mpr ⟨fa_7_11, (List.forall_mem_cons.mpr ⟨fa_7_12, (List.forall_mem_cons.mpr ⟨fa_7_13, (List.forall_mem_cons.mpr ⟨fa_7_14, (List.forall_mem_cons.mpr ⟨fa_7_15, (List.forall_mem_cons.mpr ⟨fa_7_16, (List.forall_mem_cons.mpr ⟨fa_7_17, (List.forall_mem_cons.mpr ⟨fa_7_18, (List.forall_mem_cons.mpr ⟨fa_7_19, (List.forall_mem_cons.mpr ⟨fa_7_20, (List.forall_mem_cons.mpr ⟨fa_7_21, (List.forall_mem_cons.mpr ⟨fa_7_22, (List.forall_mem_cons.mpr ⟨fa_7_23, (List.forall_mem_cons.mpr ⟨fa_7_24, (List.forall_mem_cons.mpr ⟨fa_7_25, (List.forall_mem_cons.mpr ⟨fa_7_26, (List.forall_mem_cons.mpr ⟨fa_7_27, (List.forall_mem_cons.mpr ⟨fa_7_28, (fun _ h => absurd h List.not_mem_nil)⟩)⟩)⟩)⟩)⟩)⟩)⟩)⟩)⟩)⟩)⟩)⟩)⟩)⟩)⟩)⟩)⟩)⟩)⟩)⟩)⟩)⟩)⟩)⟩)⟩)⟩)⟩)⟩)⟩)
theorem fa_8 : ∀ e ∈ fldsL.getD 8 [], fldOK 8 e.1 e.2.1 e.2.2 := (fun _ h => absurd h List.not_mem_nil)
theorem fa_9 : ∀ e ∈ fldsL.getD 9 [], fldOK 9 e.1 e.2.1 e.2.2 := (fun _ h => absurd h List.not_mem_nil)
theorem fa_10 : ∀ e ∈ fldsL.getD 10 [], fldOK 10 e.1 e.2.1 e.2.2 := (fun _ h => absurd h List.not_mem_nil)
theorem fa_11 : ∀ e ∈ fldsL.getD 11 [], fldOK 11 e.1 e.2.1 e.2.2 := (fun _ h => absurd h List.not_mem_nil)
theorem fa_all {own idx ci k : Nat} (h : fldOf own idx = some (ci, k)) : fldOK own idx ci k := by
  have hm := lkN_mem h
  match own, hm with
  | 0, hm => exact fa_0 (idx, (ci, k)) hm
  | 1, hm => exact fa_1 (idx, (ci, k)) hm
  | 2, hm => exact fa_2 (idx, (ci, k)) hm
  | 3, hm => exact fa_3 (idx, (ci, k)) hm
  | 4, hm => exact fa_4 (idx, (ci, k)) hm
  | 5, hm => exact fa_5 (idx, (ci, k)) hm
  | 6, hm => exact fa_6 (idx, (ci, k)) hm
  | 7, hm => exact fa_7 (idx, (ci, k)) hm
  | 8, hm => exact fa_8 (idx, (ci, k)) hm
  | 9, hm => exact fa_9 (idx, (ci, k)) hm
  | 10, hm => exact fa_10 (idx, (ci, k)) hm
  | 11, hm => exact fa_11 (idx, (ci, k)) hm
  | k + 12, hm => simp [fldsL] at hm
def newsL : List (List (Nat × Nat)) := [[(9, 3), (18, 5)], [], [(9, 4), (31, 5)], [], [], [], [(9, 2), (21, 3), (28, 0), (35, 1), (42, 5)], [], [(8, 6), (16, 7)], [], [], []]
def newOf (own idx : Nat) : Option Nat := lkN (newsL.getD own []) idx
def newOK (own idx ci : Nat) : Prop := ∃ q : vw_C, vwCl[ci]? = some q ∧ Cond.classLink (oName own) idx q.1 ∈ gtbl
theorem na_0_0 : newOK 0 9 3 := ⟨_, rfl, tb2 2 rfl rfl⟩
theorem na_0_1 : newOK 0 18 5 := ⟨_, rfl, tb2 4 rfl rfl⟩
theorem na_0 : ∀ e ∈ newsL.getD 0 [], newOK 0 e.1 e.2 := (List.forall_mem_cons.mpr ⟨na_0_0, (List.forall_mem_cons.mpr ⟨na_0_1, (fun _ h => absurd h List.not_mem_nil)⟩)⟩)
theorem na_1 : ∀ e ∈ newsL.getD 1 [], newOK 1 e.1 e.2 := (fun _ h => absurd h List.not_mem_nil)
theorem na_2_0 : newOK 2 9 4 := ⟨_, rfl, tb1 36 rfl rfl⟩
theorem na_2_1 : newOK 2 31 5 := ⟨_, rfl, tb1 69 rfl rfl⟩
theorem na_2 : ∀ e ∈ newsL.getD 2 [], newOK 2 e.1 e.2 := (List.forall_mem_cons.mpr ⟨na_2_0, (List.forall_mem_cons.mpr ⟨na_2_1, (fun _ h => absurd h List.not_mem_nil)⟩)⟩)
theorem na_3 : ∀ e ∈ newsL.getD 3 [], newOK 3 e.1 e.2 := (fun _ h => absurd h List.not_mem_nil)
theorem na_4 : ∀ e ∈ newsL.getD 4 [], newOK 4 e.1 e.2 := (fun _ h => absurd h List.not_mem_nil)
theorem na_5 : ∀ e ∈ newsL.getD 5 [], newOK 5 e.1 e.2 := (fun _ h => absurd h List.not_mem_nil)
theorem na_6_0 : newOK 6 9 2 := ⟨_, rfl, tb1 30 rfl rfl⟩
theorem na_6_1 : newOK 6 21 3 := ⟨_, rfl, tb1 199 rfl rfl⟩
theorem na_6_2 : newOK 6 28 0 := ⟨_, rfl, tb1 236 rfl rfl⟩
theorem na_6_3 : newOK 6 35 1 := ⟨_, rfl, tb2 13 rfl rfl⟩
theorem na_6_4 : newOK 6 42 5 := ⟨_, rfl, tb2 36 rfl rfl⟩
theorem na_6 : ∀ e ∈ newsL.getD 6 [], newOK 6 e.1 e.2 := (List.forall_mem_cons.mpr ⟨na_6_0, (List.forall_mem_cons.mpr ⟨na_6_1, (List.forall_mem_cons.mpr ⟨na_6_2, (List.forall_mem_cons.mpr ⟨na_6_3, (List.forall_mem_cons.mpr ⟨na_6_4, (fun _ h => absurd h List.not_mem_nil)⟩)⟩)⟩)⟩)⟩)
theorem na_7 : ∀ e ∈ newsL.getD 7 [], newOK 7 e.1 e.2 := (fun _ h => absurd h List.not_mem_nil)
theorem na_8_0 : newOK 8 8 6 := ⟨_, rfl, tb1 22 rfl rfl⟩
theorem na_8_1 : newOK 8 16 7 := ⟨_, rfl, tb4 178 rfl rfl⟩
theorem na_8 : ∀ e ∈ newsL.getD 8 [], newOK 8 e.1 e.2 := (List.forall_mem_cons.mpr ⟨na_8_0, (List.forall_mem_cons.mpr ⟨na_8_1, (fun _ h => absurd h List.not_mem_nil)⟩)⟩)
theorem na_9 : ∀ e ∈ newsL.getD 9 [], newOK 9 e.1 e.2 := (fun _ h => absurd h List.not_mem_nil)
theorem na_10 : ∀ e ∈ newsL.getD 10 [], newOK 10 e.1 e.2 := (fun _ h => absurd h List.not_mem_nil)
theorem na_11 : ∀ e ∈ newsL.getD 11 [], newOK 11 e.1 e.2 := (fun _ h => absurd h List.not_mem_nil)
theorem na_all {own idx ci : Nat} (h : newOf own idx = some ci) : newOK own idx ci := by
  have hm := lkN_mem h
  match own, hm with
  | 0, hm => exact na_0 (idx, ci) hm
  | 1, hm => exact na_1 (idx, ci) hm
  | 2, hm => exact na_2 (idx, ci) hm
  | 3, hm => exact na_3 (idx, ci) hm
  | 4, hm => exact na_4 (idx, ci) hm
  | 5, hm => exact na_5 (idx, ci) hm
  | 6, hm => exact na_6 (idx, ci) hm
  | 7, hm => exact na_7 (idx, ci) hm
  | 8, hm => exact na_8 (idx, ci) hm
  | 9, hm => exact na_9 (idx, ci) hm
  | 10, hm => exact na_10 (idx, ci) hm
  | 11, hm => exact na_11 (idx, ci) hm
  | k + 12, hm => simp [newsL] at hm
def ng1 : Int32 := -1
def ng2 : Int32 := -2
def ngL : Int64 := -1
def kI : Int → Int32
  | .ofNat k => nI k
  | .negSucc 0 => ng1
  | .negSucc 1 => ng2
  | .negSucc k => Int32.ofInt (.negSucc k)
theorem kI_eq (n : Int) : kI n = Int32.ofInt n := by
  match n with
  | .ofNat k => exact (Int32.ofInt_eq_ofNat (n := k)).symm
  | .negSucc 0 => rfl
  | .negSucc 1 => rfl
  | .negSucc (k + 2) => rfl
def kL : Int → Int64
  | .ofNat k => lN k
  | .negSucc 0 => ngL
  | .negSucc k => Int64.ofInt (.negSucc k)
def lconL : List (List (Nat × Int)) := [[], [], [], [], [], [], [(177, -1)], [(80, 97), (82, 122), (88, 96), (90, 48), (92, 57), (227, 2), (270, -1), (272, 4), (281, 99)], [], [], [(314, 6148914691236517205), (316, 3689348814741910323), (318, 1085102592571150095)], []]
def lcon (own idx : Nat) : Option Int := lkN (lconL.getD own []) idx
theorem la_0 : ∀ e ∈ lconL.getD 0 [], Cond.constantLong (oName 0) e.1 (kL e.2) ∈ gtbl := (fun _ h => absurd h List.not_mem_nil)
theorem la_1 : ∀ e ∈ lconL.getD 1 [], Cond.constantLong (oName 1) e.1 (kL e.2) ∈ gtbl := (fun _ h => absurd h List.not_mem_nil)
theorem la_2 : ∀ e ∈ lconL.getD 2 [], Cond.constantLong (oName 2) e.1 (kL e.2) ∈ gtbl := (fun _ h => absurd h List.not_mem_nil)
theorem la_3 : ∀ e ∈ lconL.getD 3 [], Cond.constantLong (oName 3) e.1 (kL e.2) ∈ gtbl := (fun _ h => absurd h List.not_mem_nil)
theorem la_4 : ∀ e ∈ lconL.getD 4 [], Cond.constantLong (oName 4) e.1 (kL e.2) ∈ gtbl := (fun _ h => absurd h List.not_mem_nil)
theorem la_5 : ∀ e ∈ lconL.getD 5 [], Cond.constantLong (oName 5) e.1 (kL e.2) ∈ gtbl := (fun _ h => absurd h List.not_mem_nil)
theorem la_6_0 : Cond.constantLong (oName 6) 177 (kL (-1)) ∈ gtbl := tb3 154 (by decide +kernel) (by decide +kernel)
theorem la_6 : ∀ e ∈ lconL.getD 6 [], Cond.constantLong (oName 6) e.1 (kL e.2) ∈ gtbl := (List.forall_mem_cons.mpr ⟨la_6_0, (fun _ h => absurd h List.not_mem_nil)⟩)
theorem la_7_0 : Cond.constantLong (oName 7) 80 (kL (97)) ∈ gtbl := tb5 65 (by decide +kernel) (by decide +kernel)
theorem la_7_1 : Cond.constantLong (oName 7) 82 (kL (122)) ∈ gtbl := tb5 66 (by decide +kernel) (by decide +kernel)
theorem la_7_2 : Cond.constantLong (oName 7) 88 (kL (96)) ∈ gtbl := tb5 67 (by decide +kernel) (by decide +kernel)
theorem la_7_3 : Cond.constantLong (oName 7) 90 (kL (48)) ∈ gtbl := tb5 68 (by decide +kernel) (by decide +kernel)
theorem la_7_4 : Cond.constantLong (oName 7) 92 (kL (57)) ∈ gtbl := tb5 69 (by decide +kernel) (by decide +kernel)
theorem la_7_5 : Cond.constantLong (oName 7) 227 (kL (2)) ∈ gtbl := tb5 187 (by decide +kernel) (by decide +kernel)
theorem la_7_6 : Cond.constantLong (oName 7) 270 (kL (-1)) ∈ gtbl := tb6 12 (by decide +kernel) (by decide +kernel)
theorem la_7_7 : Cond.constantLong (oName 7) 272 (kL (4)) ∈ gtbl := tb6 13 (by decide +kernel) (by decide +kernel)
theorem la_7_8 : Cond.constantLong (oName 7) 281 (kL (99)) ∈ gtbl := tb6 50 (by decide +kernel) (by decide +kernel)
theorem la_7 : ∀ e ∈ lconL.getD 7 [], Cond.constantLong (oName 7) e.1 (kL e.2) ∈ gtbl := (List.forall_mem_cons.mpr ⟨la_7_0, (List.forall_mem_cons.mpr ⟨la_7_1, (List.forall_mem_cons.mpr ⟨la_7_2, (List.forall_mem_cons.mpr ⟨la_7_3, (List.forall_mem_cons.mpr ⟨la_7_4, (List.forall_mem_cons.mpr ⟨la_7_5, (List.forall_mem_cons.mpr ⟨la_7_6, (List.forall_mem_cons.mpr ⟨la_7_7, (List.forall_mem_cons.mpr ⟨la_7_8, (fun _ h => absurd h List.not_mem_nil)⟩)⟩)⟩)⟩)⟩)⟩)⟩)⟩)⟩)
theorem la_8 : ∀ e ∈ lconL.getD 8 [], Cond.constantLong (oName 8) e.1 (kL e.2) ∈ gtbl := (fun _ h => absurd h List.not_mem_nil)
theorem la_9 : ∀ e ∈ lconL.getD 9 [], Cond.constantLong (oName 9) e.1 (kL e.2) ∈ gtbl := (fun _ h => absurd h List.not_mem_nil)
theorem la_10_0 : Cond.constantLong (oName 10) 314 (kL (6148914691236517205)) ∈ gtbl := tb3 93 (by decide +kernel) (by decide +kernel)
theorem la_10_1 : Cond.constantLong (oName 10) 316 (kL (3689348814741910323)) ∈ gtbl := tb3 94 (by decide +kernel) (by decide +kernel)
theorem la_10_2 : Cond.constantLong (oName 10) 318 (kL (1085102592571150095)) ∈ gtbl := tb3 95 (by decide +kernel) (by decide +kernel)
theorem la_10 : ∀ e ∈ lconL.getD 10 [], Cond.constantLong (oName 10) e.1 (kL e.2) ∈ gtbl := (List.forall_mem_cons.mpr ⟨la_10_0, (List.forall_mem_cons.mpr ⟨la_10_1, (List.forall_mem_cons.mpr ⟨la_10_2, (fun _ h => absurd h List.not_mem_nil)⟩)⟩)⟩)
theorem la_11 : ∀ e ∈ lconL.getD 11 [], Cond.constantLong (oName 11) e.1 (kL e.2) ∈ gtbl := (fun _ h => absurd h List.not_mem_nil)
theorem la_all {own idx : Nat} {v : Int} (h : lcon own idx = some v) : Cond.constantLong (oName own) idx (kL v) ∈ gtbl := by
  have hm := lkN_mem h
  match own, hm with
  | 0, hm => exact la_0 (idx, v) hm
  | 1, hm => exact la_1 (idx, v) hm
  | 2, hm => exact la_2 (idx, v) hm
  | 3, hm => exact la_3 (idx, v) hm
  | 4, hm => exact la_4 (idx, v) hm
  | 5, hm => exact la_5 (idx, v) hm
  | 6, hm => exact la_6 (idx, v) hm
  | 7, hm => exact la_7 (idx, v) hm
  | 8, hm => exact la_8 (idx, v) hm
  | 9, hm => exact la_9 (idx, v) hm
  | 10, hm => exact la_10 (idx, v) hm
  | 11, hm => exact la_11 (idx, v) hm
  | k + 12, hm => simp [lconL] at hm
def iconL : List (List (Nat × Int)) := [[], [], [], [], [], [], [], [], [], [(265, 1431655765), (266, 858993459), (267, 252645135)], [], []]
def icon (own idx : Nat) : Option Int := lkN (iconL.getD own []) idx
theorem ia_0 : ∀ e ∈ iconL.getD 0 [], Cond.constant (oName 0) e.1 (kI e.2) ∈ gtbl := (fun _ h => absurd h List.not_mem_nil)
theorem ia_1 : ∀ e ∈ iconL.getD 1 [], Cond.constant (oName 1) e.1 (kI e.2) ∈ gtbl := (fun _ h => absurd h List.not_mem_nil)
theorem ia_2 : ∀ e ∈ iconL.getD 2 [], Cond.constant (oName 2) e.1 (kI e.2) ∈ gtbl := (fun _ h => absurd h List.not_mem_nil)
theorem ia_3 : ∀ e ∈ iconL.getD 3 [], Cond.constant (oName 3) e.1 (kI e.2) ∈ gtbl := (fun _ h => absurd h List.not_mem_nil)
theorem ia_4 : ∀ e ∈ iconL.getD 4 [], Cond.constant (oName 4) e.1 (kI e.2) ∈ gtbl := (fun _ h => absurd h List.not_mem_nil)
theorem ia_5 : ∀ e ∈ iconL.getD 5 [], Cond.constant (oName 5) e.1 (kI e.2) ∈ gtbl := (fun _ h => absurd h List.not_mem_nil)
theorem ia_6 : ∀ e ∈ iconL.getD 6 [], Cond.constant (oName 6) e.1 (kI e.2) ∈ gtbl := (fun _ h => absurd h List.not_mem_nil)
theorem ia_7 : ∀ e ∈ iconL.getD 7 [], Cond.constant (oName 7) e.1 (kI e.2) ∈ gtbl := (fun _ h => absurd h List.not_mem_nil)
theorem ia_8 : ∀ e ∈ iconL.getD 8 [], Cond.constant (oName 8) e.1 (kI e.2) ∈ gtbl := (fun _ h => absurd h List.not_mem_nil)
theorem ia_9_0 : Cond.constant (oName 9) 265 (kI (1431655765)) ∈ gtbl := tb3 211 (by decide +kernel) (by decide +kernel)
theorem ia_9_1 : Cond.constant (oName 9) 266 (kI (858993459)) ∈ gtbl := tb3 212 (by decide +kernel) (by decide +kernel)
theorem ia_9_2 : Cond.constant (oName 9) 267 (kI (252645135)) ∈ gtbl := tb3 213 (by decide +kernel) (by decide +kernel)
theorem ia_9 : ∀ e ∈ iconL.getD 9 [], Cond.constant (oName 9) e.1 (kI e.2) ∈ gtbl := (List.forall_mem_cons.mpr ⟨ia_9_0, (List.forall_mem_cons.mpr ⟨ia_9_1, (List.forall_mem_cons.mpr ⟨ia_9_2, (fun _ h => absurd h List.not_mem_nil)⟩)⟩)⟩)
theorem ia_10 : ∀ e ∈ iconL.getD 10 [], Cond.constant (oName 10) e.1 (kI e.2) ∈ gtbl := (fun _ h => absurd h List.not_mem_nil)
theorem ia_11 : ∀ e ∈ iconL.getD 11 [], Cond.constant (oName 11) e.1 (kI e.2) ∈ gtbl := (fun _ h => absurd h List.not_mem_nil)
theorem ia_all {own idx : Nat} {v : Int} (h : icon own idx = some v) : Cond.constant (oName own) idx (kI v) ∈ gtbl := by
  have hm := lkN_mem h
  match own, hm with
  | 0, hm => exact ia_0 (idx, v) hm
  | 1, hm => exact ia_1 (idx, v) hm
  | 2, hm => exact ia_2 (idx, v) hm
  | 3, hm => exact ia_3 (idx, v) hm
  | 4, hm => exact ia_4 (idx, v) hm
  | 5, hm => exact ia_5 (idx, v) hm
  | 6, hm => exact ia_6 (idx, v) hm
  | 7, hm => exact ia_7 (idx, v) hm
  | 8, hm => exact ia_8 (idx, v) hm
  | 9, hm => exact ia_9 (idx, v) hm
  | 10, hm => exact ia_10 (idx, v) hm
  | 11, hm => exact ia_11 (idx, v) hm
  | k + 12, hm => simp [iconL] at hm
/-- the texts: by their places 0 land, 1 issue, 2 fact, 3 deed, 4 rule, 5 law, 6 whole, 7 inner, 8 the message -/
def sTexts : List String := ["land", "issue", "fact", "deed", "rule", "law", "whole", "inner", "no such land, issue or question"]
def sconL : List (List (Nat × Nat)) := [[], [], [(38, 0), (44, 1), (46, 2), (48, 3), (50, 4), (52, 5), (54, 6), (56, 7)], [], [], [], [(94, 8)], [(114, 0), (120, 1), (122, 2), (124, 4), (126, 5), (128, 3), (130, 6), (132, 7)], [], [], [], []]
def scon (own idx : Nat) : Option Nat := lkN (sconL.getD own []) idx
theorem lb_obj : Cond.instanceMethod objectInit ∈ gtbl ∧ Cond.code objectInit ⟨#[0xb1]⟩ 1 none ∈ gtbl := ⟨tb1 28 rfl rfl, tb1 29 rfl rfl⟩
theorem lb_max : Cond.static Lib.Math.max.name ∈ gtbl ∧ Cond.initialized "java/lang/Math" ∈ gtbl ∧ Cond.code Lib.Math.max.name Lib.Math.max.code 2 (some .int) ∈ gtbl := ⟨tb2 92 rfl rfl, tb1 14 rfl rfl, tb2 93 rfl rfl⟩
theorem lb_min : Cond.static Lib.Math.min.name ∈ gtbl ∧ Cond.initialized "java/lang/Math" ∈ gtbl ∧ Cond.code Lib.Math.min.name Lib.Math.min.code 2 (some .int) ∈ gtbl := ⟨tb2 89 rfl rfl, tb1 14 rfl rfl, tb2 90 rfl rfl⟩
theorem lb_copy : Cond.native arraycopyName ∈ gtbl ∧ Cond.static arraycopyName ∈ gtbl ∧ Cond.initialized "java/lang/System" ∈ gtbl := ⟨tb3 201 rfl rfl, tb3 200 rfl rfl, tb1 20 rfl rfl⟩
theorem lb_byte : Cond.arrayClass .byte ∈ gtbl := tb1 68 rfl rfl
theorem lb_int : Cond.arrayClass .int ∈ gtbl := tb1 106 rfl rfl
theorem lb_long : Cond.arrayClass .long ∈ gtbl := tb5 32 rfl rfl
theorem lb_boolean : Cond.arrayClass .boolean ∈ gtbl := tb5 33 rfl rfl
def liveL : List (List (Nat × List Nat)) := [[], [(15, [0, 1, 3, 4, 5]), (61, [0, 1, 3, 4, 5]), (67, [4])], [(9, [0, 1, 3, 4]), (54, [0, 1, 3, 4])], [(17, [0, 2, 3, 4, 5, 6, 7]), (43, [0, 2, 3, 4, 5, 6, 7, 8, 9]), (89, [0, 2, 3, 4, 5, 6, 7, 8, 9]), (110, [0, 2, 3, 4, 5, 6, 7, 8, 9])], [], [(2, [0, 1, 3]), (26, [0, 1, 3, 4, 5]), (69, [0, 1, 3, 4, 5])], [(2, [0, 1, 2]), (25, [0, 1, 2, 3, 4]), (66, [0, 1, 2, 3, 4])], [], [], [(34, [0])], [(28, [0, 1])], [(9, [])], [(20, [])], [], [(4, [0, 1, 2])], [(39, [0, 1, 2]), (82, [2])], [], [], [], [], [(45, [0, 1, 2]), (66, [0, 1, 2]), (113, [0, 1]), (140, []), (145, [])], [(112, [0, 1, 2, 3, 4]), (131, [0])], [], [(96, [])], [(47, [0])], [], [(26, []), (31, [])], [(23, []), (24, [])], [(13, [0, 1]), (43, [])], [(2, [0, 1, 2]), (34, [])], [], [], [(22, [0, 1, 2, 3, 4]), (63, [0, 1, 2, 3, 4, 5]), (91, [0, 1, 2, 3, 4])], [(16, []), (17, [])], [(17, [])], [(17, [0, 2]), (160, [0, 2, 3]), (174, [0, 2]), (180, [])], [(23, []), (25, [])], [(4, [0, 1, 3]), (34, [0, 1, 3])], [(4, [0, 1, 2]), (33, [0, 1, 2, 3]), (39, [0, 1, 2])], [(11, [0, 3, 4, 5, 6]), (55, [4]), (77, [7]), (101, [0, 4, 5]), (112, [0, 4, 5]), (134, []), (135, []), (164, [0]), (168, [])], [(41, [3]), (42, [])], [], [], [(4, [0, 1, 2, 3]), (24, [0, 1, 2, 3])], [(4, [0, 1, 2]), (43, [0, 1, 2])], [], [(17, [])], [(3, [0, 1, 2]), (46, [])], [], [(0, [0]), (40, [0]), (126, [])], [(0, [0]), (60, [0]), (79, [])], [(0, [0]), (64, [0]), (82, [])], [], [(14, [0]), (28, [0]), (48, []), (53, [])], [], [], [], [(30, [])], [(30, [])], [(31, [])], [(35, [])], [(31, [])], [(28, [])], [(16, []), (17, [])], [(16, []), (17, [])], [(16, []), (17, [])], [(16, []), (17, [])], [(20, []), (21, [])], [], [(20, [])], [(17, [])], [(21, [])], [(18, [])], [(18, [])], [(27, [])], [(24, [])], [(29, [])], [(31, [0, 1, 2]), (32, [0, 1, 2]), (52, [])], [], [(12, [])], [(4, [0, 1, 2, 3]), (25, [0, 1, 2, 3])], [(4, [0, 1, 2])], [(4, [0, 1, 2, 3]), (32, [0, 1, 2, 3])], [(21, [])], [(4, [0, 1, 2, 3]), (24, [0, 1, 2, 3])], [(4, [0, 1, 2]), (24, [0, 1, 2])], [(2, [0, 1, 2, 3]), (39, [0, 1, 2, 3]), (45, [])], [(28, [0, 1])], [(2, [0, 1, 2]), (26, [0, 1, 2])], [(16, []), (29, [0, 1, 2, 3]), (87, [0, 1, 2, 3]), (129, [0, 1, 2, 3])], [(46, [])], [], [], [(15, []), (69, [2])], [], [], [(21, []), (103, [])], [], [], [], [(58, [])], [], [(29, [0, 2, 3]), (65, [0, 2, 3])], [(58, [])], [(5, [0, 2, 3, 4]), (34, [0, 2, 3, 4])], [(19, []), (59, [])], [(19, []), (67, [])], [(12, []), (17, [])], [(13, []), (14, [])], [(42, [0, 1, 3, 4, 5]), (71, [0, 1, 3, 4, 5])], [(33, [0, 2, 3, 4, 5]), (70, [0, 2, 3, 4, 5])], [(33, [0, 2, 3, 4, 5]), (70, [0, 2, 3, 4, 5])], [], [(10, []), (19, [0, 1, 2, 4]), (47, [0, 1, 2, 4, 5]), (76, [0, 1, 2, 4, 5])], [(22, [])], [(27, [])], [(4, [0, 1, 2]), (49, [0, 1, 2])], [(28, [])], [(72, [])], [(22, [])], [(18, [])], [(28, []), (30, [0, 1, 2, 3, 4])], [(22, [])], [(22, [])], [], [(27, [])], [(25, [])], [(31, [])], [], [], [], [(17, []), (18, [])], [(3, [0, 1, 2])], [], [(22, [])], [(8, [0]), (34, [0]), (138, [0]), (201, [0]), (237, []), (265, [0]), (326, [0]), (361, []), (364, [])], [(24, [0]), (36, [])], [(4, [0, 1, 3])], [(24, []), (25, [])], [(84, []), (85, [])], [(14, [0, 1, 2]), (41, [])], [], [(2, [0, 1, 2])], [(32, []), (37, [])], [(25, [0]), (32, [])], [], [(36, [0])], [], [], [], [(57, [0, 1, 2]), (62, [0, 1, 2]), (79, [0, 1, 2]), (86, []), (121, [0, 1, 2]), (126, [0, 1, 2]), (170, [0])], [(54, [0, 1, 2]), (59, [0, 1, 2]), (76, [0, 1, 2]), (83, [])], [(16, [0, 1, 3]), (52, [0, 1, 3, 4]), (57, [0, 1, 3, 4]), (75, [0, 1, 3, 4]), (82, [])], [(79, [0]), (90, [0, 1]), (130, [0, 1]), (133, [0, 1]), (138, [0, 1]), (214, [0]), (233, [0]), (240, [])], [(2, [0, 1]), (23, [0, 1]), (47, [0, 1]), (68, [0, 1]), (90, [0, 1])], [(58, [0, 2, 3]), (80, [0, 2, 3]), (108, [0, 2, 4]), (139, [0, 2, 4]), (172, [0, 2, 4]), (205, [0, 2, 4])], [], [], [], [], [], [(4, [0, 1, 2, 3]), (37, [0, 1, 3])], [(4, [0, 1, 2, 3]), (31, [0, 1, 3])], [(55, [])], [(26, [])], [(31, [])], [(27, []), (28, [])], [(33, [0, 1, 2, 3]), (34, [0, 1, 2, 3]), (98, [])], [(38, []), (39, [])], [(26, [])], [(23, [])], [(2, [0, 1, 2])], [], [(15, [0, 2]), (114, [0, 2])], [(21, []), (69, [])], [(31, []), (54, [])], [(19, [0, 1, 2, 3]), (51, [0, 1, 3])], [(24, [0, 3, 4, 5]), (54, [0, 3, 5]), (76, [0, 4, 5])], [(21, [0, 1, 2, 3, 4]), (40, [0, 1, 2, 3, 4, 5, 6]), (70, [0, 1, 2, 3, 4, 6]), (98, [0, 1, 2, 3, 4]), (115, [])], [(18, [0, 1, 2, 3]), (41, [0]), (45, []), (57, [1]), (99, [4]), (101, [])], [(11, [0, 2, 4, 5, 6]), (38, [4]), (62, [7])], [], [], [(34, []), (35, [])], [(33, []), (41, [])], [(41, [2]), (54, [])], [(21, []), (28, [0, 1, 2, 3, 4]), (61, [0, 1, 2, 4])], [(32, []), (42, [0, 1, 2, 3, 4, 5]), (59, [0, 1, 2, 3, 4, 5, 6, 7]), (89, [0, 1, 2, 3, 4, 5, 7]), (115, [0, 1, 2, 3, 4, 5]), (131, [])], [(32, []), (39, [0, 1, 2, 3, 4]), (69, [0, 1, 2, 3, 4]), (89, [])], [(25, [0, 1, 2, 3]), (38, [0, 1, 2, 3, 4]), (66, [0, 1, 3, 4])], [(2, [0, 1, 2, 3]), (37, [0, 1, 2, 3])], [(4, [0, 1, 2, 3]), (31, [0, 1, 3])], [], [(4, [1, 2])], [(21, []), (39, [])], [(22, [])], [(9, [0, 1, 2]), (46, [0, 2]), (47, [0, 2])], [(44, []), (57, [0, 1, 2, 3, 4, 5, 6]), (83, [0, 1, 2, 3, 4, 5, 6, 7, 8]), (147, [0, 1, 2, 3, 4, 5, 6, 7, 8]), (191, [])], [(21, []), (25, [0, 1, 2, 4]), (54, [0, 1, 2, 4, 5, 6, 7]), (108, [0, 1, 2, 4, 5, 7]), (109, [0, 1, 2, 4, 5, 7]), (117, [0, 1, 2, 4, 5, 6])], [(17, [0, 1, 2])], [(11, [0, 1]), (49, [0]), (51, [0, 1])], [], [(33, []), (34, [])], [(34, []), (35, [])], [(34, []), (36, [0, 1, 2, 3, 4]), (70, []), (71, []), (86, [])], [(50, []), (51, [])], [(4, [0, 1, 2, 3]), (33, [0, 1, 3])], [(42, []), (61, [0, 2, 3, 4]), (105, [0, 2, 3, 4])], [(30, []), (55, [0, 1, 2, 3, 4]), (99, [0, 1, 2, 4]), (111, [0, 1, 2, 3, 4])], [], [(26, []), (40, [0, 1, 2, 3]), (101, [0, 1, 2, 3]), (110, [0, 1, 2, 3])], [(26, [0, 1])], [(28, []), (30, [0, 1, 2]), (32, [0, 1, 2, 3]), (79, [0, 1, 2, 3]), (104, [])], [(4, [0, 1, 2])], [(4, [0, 1, 2]), (33, [0, 2])], [], [], [(23, [0, 1, 2, 3, 4]), (425, [0, 1, 2, 3, 4]), (1154, [0, 1, 2, 3, 4]), (1190, [0, 1, 2, 3, 4]), (1380, [0, 1, 2, 3, 4]), (1404, [0, 1, 2, 3, 4]), (1437, [0, 1, 2, 3, 4])], [], [], [(5, [0, 1, 2, 3])]]
end
section
/-! THE ABSTRACT MACHINE: ints, longs and references of the system's 44 cells as three functions; a weakest precondition an instruction; a method's meaning as a least fixed point. -/
abbrev aM : Type := Nat → Nat → Int32
abbrev aN : Type := Nat → Nat → Int64
abbrev aP : Type := Nat → Nat → Option Nat
abbrev aL : Type := List (Nat × Value)
abbrev aQ : Type := Option Value → aM → aN → aP → Nat → Prop
abbrev aX : Type := Nat → aL → List Value → aM → aN → aP → Nat → Prop
abbrev aC : Type := Nat → List Value → aM → aN → aP → Nat → aQ → Prop
abbrev aG : Type := Nat × (Nat → Int32)
def uM (M : aM) (a k : Nat) (v : Int32) : aM := va_up M a (va_up (M a) k v)
def uN (N : aN) (a k : Nat) (v : Int64) : aN := va_up N a (va_up (N a) k v)
def uP (P : aP) (a k : Nat) (v : Option Nat) : aP := va_up P a (va_up (P a) k v)
def zM (M : aM) (a : Nat) : aM := va_up M a (fun _ => 0)
def zN (N : aN) (a : Nat) : aN := va_up N a (fun _ => 0)
def zP (P : aP) (a : Nat) : aP := va_up P a (fun _ => none)
/-- the cells in the order of their making: (0, class) an object, (1, n) ints, (2, n) bytes, (3, n) booleans, (4, n) longs -/
def kinds : List (Nat × Nat) := [(0, 6), (0, 2), (0, 4), (2, 700), (1, 8), (1, 22), (1, 22), (1, 22), (0, 5), (1, 89), (1, 5), (0, 3), (1, 6), (1, 6), (1, 6), (1, 7), (0, 0), (0, 3), (1, 6), (1, 6), (1, 6), (1, 7), (0, 5), (1, 89), (1, 5), (0, 1), (1, 1068), (1, 178), (0, 5), (1, 89), (1, 5), (0, 7), (2, 700), (1, 8), (4, 64), (1, 16), (1, 89), (1, 89), (3, 36), (1, 1068), (1, 178), (3, 2), (1, 8), (4, 1)]
def kindOf (a : Nat) : Nat × Nat := kinds.getD a (9, 0)
/-- an object of class ci is at a -/
def okO (nx a ci : Nat) : Prop := kindOf a = (0, ci) ∧ a < nx
/-- a row of kind t is at a, j is a place of it, and i says j -/
def okA (nx a t : Nat) (i : Int32) (j : Nat) : Prop := (kindOf a).1 = t ∧ a < nx ∧ i = nI j ∧ j < (kindOf a).2
def okZ (x : Int32) : Prop := x = 0 ∨ x = 1
/-- what a row of bytes or booleans keeps of x -/
def bst (nx a : Nat) (i : Int32) (k : Nat) (x y : Int32) : Prop := (okA nx a 2 i k ∧ y = x.toInt8.toInt32) ∨ (okA nx a 3 i k ∧ okZ x ∧ y = x)
def lget : aL → Nat → Option Value
  | [], _ => none
  | q :: t, i => bif q.1 == i then some q.2 else lget t i
def lst1 (l : aL) (i : Nat) (v : Value) : aL := (i, v) :: l.filter (fun q => !(q.1 == i) && !(q.1 + 1 == i && q.2.category == 2))
def lst2 (l : aL) (i : Nat) (v : Value) : aL := (i, v) :: l.filter (fun q => !(q.1 == i) && (!(q.1 == i + 1) && !(q.1 + 1 == i && q.2.category == 2)))
def s1i (st : List Value) (k : Int32 → List Value → Prop) : Prop := match st with
  | .int x :: r => k x r
  | _ => False
def s2i (st : List Value) (k : Int32 → Int32 → List Value → Prop) : Prop := match st with
  | .int y :: .int x :: r => k x y r
  | _ => False
def s1l (st : List Value) (k : Int64 → List Value → Prop) : Prop := match st with
  | .long x :: r => k x r
  | _ => False
def s2l (st : List Value) (k : Int64 → Int64 → List Value → Prop) : Prop := match st with
  | .long y :: .long x :: r => k x y r
  | _ => False
def sli (st : List Value) (k : Int64 → Int32 → List Value → Prop) : Prop := match st with
  | .int y :: .long x :: r => k x y r
  | _ => False
def s1r (st : List Value) (k : Nat → List Value → Prop) : Prop := match st with
  | .ref x :: r => k x r
  | _ => False
def ldi (l : aL) (i : Nat) (k : Int32 → Prop) : Prop := match lget l i with
  | some (.int x) => k x
  | _ => False
def ldl (l : aL) (i : Nat) (k : Int64 → Prop) : Prop := match lget l i with
  | some (.long x) => k x
  | _ => False
def lda (l : aL) (i : Nat) (k : Value → Prop) : Prop := match lget l i with
  | some (.ref x) => k (.ref x)
  | some (.retAddr x) => k (.retAddr x)
  | _ => False
def jmp (pc : Nat) (off : Int) (k : Nat → Prop) : Prop := match (pc : Int) + off with
  | .ofNat t => k t
  | .negSucc _ => False
def brc (c : ClassFile.Cond) (x y : Int32) (A B : Prop) : Prop := match c with
  | .eq => (x = y → A) ∧ (¬ x = y → B)
  | .ne => (¬ x = y → A) ∧ (x = y → B)
  | .lt => (x < y → A) ∧ (¬ x < y → B)
  | .ge => (y ≤ x → A) ∧ (¬ y ≤ x → B)
  | .gt => (y < x → A) ∧ (¬ y < x → B)
  | .le => (x ≤ y → A) ∧ (¬ x ≤ y → B)
def swT (x : Int32) (K : Int → Prop) (d : Int) : Int → List Int → Prop
  | _, [] => K d
  | lo, o :: t => (x = kI lo → K o) ∧ (¬ x = kI lo → swT x K d (lo + 1) t)
def swL (x : Int32) (K : Int → Prop) (d : Int) : List (Int × Int) → Prop
  | [] => K d
  | (a, o) :: t => (x = kI a → K o) ∧ (¬ x = kI a → swL x K d t)
def rI (k : Int32 → aM → aN → aP → Nat → Prop) : aQ := fun r M N P nx => match r with
  | some (.int x) => k x M N P nx
  | _ => False
def rJ (k : Int64 → aM → aN → aP → Nat → Prop) : aQ := fun r M N P nx => match r with
  | some (.long x) => k x M N P nx
  | _ => False
def rV (k : aM → aN → aP → Nat → Prop) : aQ := fun r M N P nx => match r with
  | none => k M N P nx
  | _ => False
def catS : List Value → Nat
  | [] => 0
  | v :: t => v.category + catS t
def k8 : Int → Int32
  | .ofNat k => bif Nat.blt k 128 then nI k else (Int8.ofInt (.ofNat k)).toInt32
  | .negSucc 1 => ng2
  | .negSucc k => (Int8.ofInt (.negSucc k)).toInt32
def k16 : Int → Int32
  | .ofNat k => bif Nat.blt k 32768 then nI k else (Int16.ofInt (.ofNat k)).toInt32
  | .negSucc k => (Int16.ofInt (.negSucc k)).toInt32
def postP (rt : Option FieldType) (rest : List Value) (K : List Value → aM → aN → aP → Nat → Prop) : aQ := match rt with
  | none => rV (fun M N P nx => K rest M N P nx)
  | some .long => rJ (fun x M N P nx => K (.long x :: rest) M N P nx)
  | some _ => rI (fun x M N P nx => K (.int x :: rest) M N P nx)
/-- how many values a call takes -/
def mTake (q : Nat) : Nat := bif mKind q == 1 then mArg q else mArg q + 1
def goP (C : aC) (lim q : Nat) (K : List Value → aM → aN → aP → Nat → Prop) (st : List Value) (M : aM) (N : aN) (P : aP) (nx : Nat) : Prop :=
  bif Nat.ble (mTake q) st.length && Nat.ble (catS (st.drop (mTake q))) 8 then (bif mC q == 0 then C q (st.take (mTake q)).reverse M N P nx (postP (mRet q) (st.drop (mTake q)) K) else (nx + mC q ≤ lim ∧ C q (st.take (mTake q)).reverse M N P nx (postP (mRet q) (st.drop (mTake q)) K))) else False
/-- a call: q by its number, its arguments, the receiver's class -/
def callP (C : aC) (lim q : Nat) (K : List Value → aM → aN → aP → Nat → Prop) (st : List Value) (M : aM) (N : aN) (P : aP) (nx : Nat) : Prop :=
  bif mKind q == 1 then goP C lim q K st M N P nx else match (st.take (mTake q)).reverse with
    | .ref a :: _ => okO nx a (mOwn q) ∧ goP C lim q K st M N P nx
    | _ => False
def getP (ty : FieldType) (o k : Nat) (K : Value → Prop) (M : aM) (N : aN) (P : aP) : Prop := match ty with
  | .int => K (.int (M o k))
  | .long => K (.long (N o k))
  | _ => ∃ a, P o k = some a ∧ K (.ref a)
def putP (ty : FieldType) (st : List Value) (k : Nat) (ok : Nat → Prop) (K : List Value → aM → aN → aP → Prop) (M : aM) (N : aN) (P : aP) : Prop := match ty with
  | .int => match st with
    | .int x :: .ref o :: r => ok o ∧ K r (uM M o k x) N P
    | _ => False
  | .long => match st with
    | .long x :: .ref o :: r => ok o ∧ K r M (uN N o k x) P
    | _ => False
  | _ => match st with
    | .ref x :: .ref o :: r => ok o ∧ K r M N (uP P o k (some x))
    | _ => False
def fldFin (ci k : Nat) : Bool := match vwCl[ci]? with
  | some q => (q.2.1 k).2.2.2
  | none => false
def aKind : ArrayType → Nat
  | .int => 1
  | .byte => 2
  | .boolean => 3
  | .long => 4
  | _ => 7
def stepI (C : aC) (G : aG) (j lim : Nat) (Q : aQ) (X : aX) (pc len : Nat) (i : Instr) (lv : aL) (st : List Value) (M : aM) (N : aN) (P : aP) (nx : Nat) : Prop := match i with
  | .iconst n => X (pc + len) lv (.int (kI n) :: st) M N P nx
  | .bipush n => X (pc + len) lv (.int (k8 n) :: st) M N P nx
  | .sipush n => X (pc + len) lv (.int (k16 n) :: st) M N P nx
  | .lconst n => X (pc + len) lv (.long (lN n.val) :: st) M N P nx
  | .ldc2_w x => match lcon (mOwn j) x with
    | some v => X (pc + len) lv (.long (kL v) :: st) M N P nx
    | none => False
  | .ldc x => match scon (mOwn j) x with
    | some k => X (pc + len) lv (.retAddr (k + 1) :: st) M N P nx
    | none => False
  | .ldc_w x => match icon (mOwn j) x with
    | some v => X (pc + len) lv (.int (kI v) :: st) M N P nx
    | none => False
  | .iload n => ldi lv n fun x => X (pc + len) lv (.int x :: st) M N P nx
  | .iload_n n => ldi lv n.val fun x => X (pc + len) lv (.int x :: st) M N P nx
  | .lload n => ldl lv n fun x => X (pc + len) lv (.long x :: st) M N P nx
  | .lload_n n => ldl lv n.val fun x => X (pc + len) lv (.long x :: st) M N P nx
  | .aload n => lda lv n fun v => X (pc + len) lv (v :: st) M N P nx
  | .aload_n n => lda lv n.val fun v => X (pc + len) lv (v :: st) M N P nx
  | .istore n => s1i st fun x r => bif Nat.blt n (mMaxL j) then X (pc + len) (lst1 lv n (.int x)) r M N P nx else False
  | .istore_n n => s1i st fun x r => bif Nat.blt n.val (mMaxL j) then X (pc + len) (lst1 lv n.val (.int x)) r M N P nx else False
  | .lstore n => s1l st fun x r => bif Nat.blt (n + 1) (mMaxL j) then X (pc + len) (lst2 lv n (.long x)) r M N P nx else False
  | .lstore_n n => s1l st fun x r => bif Nat.blt (n.val + 1) (mMaxL j) then X (pc + len) (lst2 lv n.val (.long x)) r M N P nx else False
  | .astore n => s1r st fun x r => bif Nat.blt n (mMaxL j) then X (pc + len) (lst1 lv n (.ref x)) r M N P nx else False
  | .astore_n n => s1r st fun x r => bif Nat.blt n.val (mMaxL j) then X (pc + len) (lst1 lv n.val (.ref x)) r M N P nx else False
  | .iinc n k => ldi lv n fun x => bif Nat.blt n (mMaxL j) then X (pc + len) (lst1 lv n (.int (x + kI k))) st M N P nx else False
  | .iadd => s2i st fun x y r => X (pc + len) lv (.int (x + y) :: r) M N P nx
  | .isub => s2i st fun x y r => X (pc + len) lv (.int (x - y) :: r) M N P nx
  | .imul => s2i st fun x y r => X (pc + len) lv (.int (x * y) :: r) M N P nx
  | .iand => s2i st fun x y r => X (pc + len) lv (.int (x &&& y) :: r) M N P nx
  | .ior => s2i st fun x y r => X (pc + len) lv (.int (x ||| y) :: r) M N P nx
  | .ishl => s2i st fun x y r => X (pc + len) lv (.int (x <<< (y &&& 31)) :: r) M N P nx
  | .ishr => s2i st fun x y r => X (pc + len) lv (.int (x >>> (y &&& 31)) :: r) M N P nx
  | .iushr => s2i st fun x y r => X (pc + len) lv (.int (x.toUInt32 >>> (y.toUInt32 &&& Int32.toUInt32 31)).toInt32 :: r) M N P nx
  | .idiv => s2i st fun x y r => ¬ y = 0 ∧ X (pc + len) lv (.int (x / y) :: r) M N P nx
  | .irem => s2i st fun x y r => ¬ y = 0 ∧ X (pc + len) lv (.int (x - x / y * y) :: r) M N P nx
  | .i2l => s1i st fun x r => X (pc + len) lv (.long x.toInt64 :: r) M N P nx
  | .l2i => s1l st fun x r => X (pc + len) lv (.int x.toInt32 :: r) M N P nx
  | .i2b => s1i st fun x r => X (pc + len) lv (.int x.toInt8.toInt32 :: r) M N P nx
  | .ladd => s2l st fun x y r => X (pc + len) lv (.long (x + y) :: r) M N P nx
  | .lsub => s2l st fun x y r => X (pc + len) lv (.long (x - y) :: r) M N P nx
  | .land => s2l st fun x y r => X (pc + len) lv (.long (x &&& y) :: r) M N P nx
  | .lor => s2l st fun x y r => X (pc + len) lv (.long (x ||| y) :: r) M N P nx
  | .lshl => sli st fun x y r => X (pc + len) lv (.long (x <<< (y.toInt64 &&& 63)) :: r) M N P nx
  | .lshr => sli st fun x y r => X (pc + len) lv (.long (x >>> (y.toInt64 &&& 63)) :: r) M N P nx
  | .lushr => sli st fun x y r => X (pc + len) lv (.long (x.toUInt64 >>> (y.toInt64.toUInt64 &&& Int64.toUInt64 63)).toInt64 :: r) M N P nx
  | .lcmp => s2l st fun x y r => X (pc + len) lv (.int (lg_cmp x y) :: r) M N P nx
  | .dup => match st with
    | v :: r => bif v.category == 1 then X (pc + len) lv (v :: v :: r) M N P nx else False
    | _ => False
  | .dup2 => match st with
    | v :: w :: r => bif v.category == 1 && w.category == 1 then X (pc + len) lv (v :: w :: v :: w :: r) M N P nx else False
    | _ => False
  | .pop => match st with
    | v :: r => bif v.category == 1 then X (pc + len) lv r M N P nx else False
    | _ => False
  | .goto off => jmp pc off fun t => X t lv st M N P nx
  | .ifCond c off => s1i st fun x r => jmp pc off fun t => brc c x 0 (X t lv r M N P nx) (X (pc + len) lv r M N P nx)
  | .if_icmp c off => s2i st fun x y r => jmp pc off fun t => brc c x y (X t lv r M N P nx) (X (pc + len) lv r M N P nx)
  | .tableswitch d lo _ offs => s1i st fun x r => swT x (fun off => jmp pc off fun t => X t lv r M N P nx) d lo offs.toList
  | .lookupswitch d ps => s1i st fun x r => swL x (fun off => jmp pc off fun t => X t lv r M N P nx) d ps.toList
  | .getfield x => s1r st fun o r => match fldOf (mOwn j) x with
    | some (ci, k) => okO nx o ci ∧ getP (cTy ci k) o k (fun v => X (pc + len) lv (v :: r) M N P nx) M N P
    | none => False
  | .putfield x => match fldOf (mOwn j) x with
    | some (ci, k) => bif fldFin ci k && !(mKind j == 2 && mOwn j == ci) then False else putP (cTy ci k) st k (fun o => okO nx o ci) (fun r M N P => X (pc + len) lv r M N P nx) M N P
    | none => False
  | .iaload => match st with
    | .int i :: .ref a :: r => ∃ k, okA nx a 1 i k ∧ X (pc + len) lv (.int (M a k) :: r) M N P nx
    | .int i :: .retAddr 0 :: r => bif j == 217 then ∃ k, i = nI k ∧ k < G.1 ∧ X (pc + len) lv (.int (G.2 k) :: r) M N P nx else False
    | _ => False
  | .baload => match st with
    | .int i :: .ref a :: r => ∃ k, (okA nx a 2 i k ∨ okA nx a 3 i k) ∧ X (pc + len) lv (.int (M a k) :: r) M N P nx
    | _ => False
  | .laload => match st with
    | .int i :: .ref a :: r => ∃ k, okA nx a 4 i k ∧ X (pc + len) lv (.long (N a k) :: r) M N P nx
    | _ => False
  | .iastore => match st with
    | .int x :: .int i :: .ref a :: r => ∃ k, okA nx a 1 i k ∧ X (pc + len) lv r (uM M a k x) N P nx
    | _ => False
  | .bastore => match st with
    | .int x :: .int i :: .ref a :: r => ∃ k y, bst nx a i k x y ∧ X (pc + len) lv r (uM M a k y) N P nx
    | _ => False
  | .lastore => match st with
    | .long x :: .int i :: .ref a :: r => ∃ k, okA nx a 4 i k ∧ X (pc + len) lv r M (uN N a k x) P nx
    | _ => False
  | .arraylength => match st with
    | .ref a :: r => (kindOf a).1 = 1 ∧ a < nx ∧ X (pc + len) lv (.int (nI (kindOf a).2) :: r) M N P nx
    | .retAddr 0 :: r => bif j == 217 then X (pc + len) lv (.int (nI G.1) :: r) M N P nx else False
    | _ => False
  | .new x => bif j == 96 then Q none M N P nx else match newOf (mOwn j) x with
    | some ci => kindOf nx = (0, ci) ∧ nx + 1 ≤ lim ∧ X (pc + len) lv (.ref nx :: st) (zM M nx) (zN N nx) (zP P nx) (nx + 1)
    | none => False
  | .newarray t => s1i st fun n r => (kindOf nx).1 = aKind t ∧ n = nI (kindOf nx).2 ∧ nx + 1 ≤ lim ∧ X (pc + len) lv (.ref nx :: r) (zM M nx) (zN N nx) (zP P nx) (nx + 1)
  | .invokevirtual x => match callOf (mOwn j) x with
    | some q => bif Nat.blt q 1000 && (mKind q == 0 && !(q == 96)) then callP C lim q (fun st M N P nx => X (pc + len) lv st M N P nx) st M N P nx else False
    | none => False
  | .invokespecial x => match callOf (mOwn j) x with
    | some q => bif q == 1000 then s1r st fun _ r => bif Nat.ble (catS r) 8 then X (pc + len) lv r M N P nx else False else (bif Nat.blt q 1000 && mKind q == 2 then callP C lim q (fun st M N P nx => X (pc + len) lv st M N P nx) st M N P nx else False)
    | none => False
  | .invokestatic x => match callOf (mOwn j) x with
    | some q => bif q == 1001 then s2i st fun x y r => bif Nat.ble (catS r) 8 then X (pc + len) lv (.int (if x < y then y else x) :: r) M N P nx else False else bif q == 1002 then s2i st fun x y r => bif Nat.ble (catS r) 8 then X (pc + len) lv (.int (if y < x then y else x) :: r) M N P nx else False else bif q == 1003 then (match st with
        | .int n :: .int dp :: .ref b :: .int sp :: .ref a :: r => bif Nat.ble (catS r) 8 then ((kindOf a).1 = 1 ∧ a < nx ∧ (kindOf b).1 = 1 ∧ b < nx ∧ ∃ sp' dp' n' : Nat, sp = nI sp' ∧ dp = nI dp' ∧ n = nI n' ∧ sp' + n' ≤ (kindOf a).2 ∧ dp' + n' ≤ (kindOf b).2 ∧ X (pc + len) lv r (va_up M b (va_cpy (M a) (M b) sp' dp' n')) N P nx) else False
        | _ => False)
      else bif Nat.blt q 1000 && mKind q == 1 then callP C lim q (fun st M N P nx => X (pc + len) lv st M N P nx) st M N P nx else False
    | none => False
  | .ireturn => match st with
    | [.int x] => match mRet j with
      | some .int => Q (some (.int x)) M N P nx
      | some .boolean => okZ x ∧ Q (some (.int x)) M N P nx
      | _ => False
    | _ => False
  | .lreturn => match st with
    | [.long x] => match mRet j with
      | some .long => Q (some (.long x)) M N P nx
      | _ => False
    | _ => False
  | .return_ => match st with
    | [] => match mRet j with
      | none => Q none M N P nx
      | _ => False
    | _ => False
  | _ => False
def okLen (i : Instr) (len : Nat) : Bool := match i with
  | .bipush _ | .ldc _ | .iload _ | .lload _ | .aload _ | .istore _ | .lstore _ | .astore _ | .newarray _ => len == 2
  | .sipush _ | .ldc2_w _ | .ldc_w _ | .iinc _ _ | .goto _ | .ifCond _ _ | .if_icmp _ _ | .getfield _ | .putfield _ | .new _ | .invokevirtual _ | .invokespecial _ | .invokestatic _ => len == 3
  | .tableswitch _ _ _ _ => true
  | .lookupswitch _ _ => true
  | _ => len == 1
/-- sorted matches, a table of the right size -/
def okSw (i : Instr) : Bool := match i with
  | .tableswitch _ lo hi offs => hi == lo + (offs.size : Int) - 1 && decide (-1000 ≤ lo) && decide (hi ≤ 1000)
  | .lookupswitch _ ps => (ps.toList.zip (ps.toList.drop 1)).all (fun (a, next) => a.1 < next.1) && ps.toList.all (fun q => decide (-1000 ≤ q.1) && decide (q.1 ≤ 1000))
  | _ => true
/-- where stretches meet, only the locals that are still read are known, in their order -/
def nrm (j pc : Nat) (lv : aL) : aL := match lkN (liveL.getD j []) pc with
  | none => lv
  | some ks => ks.filterMap (fun k => (lget lv k).map (fun v => (k, v)))
def nrX (j : Nat) (X : aX) : aX := fun pc lv => X pc (nrm j pc lv)
def stepAt (C : aC) (G : aG) (j lim : Nat) (Q : aQ) (X : aX) : aX := fun pc lv st M N P nx =>
  ∃ (i : Instr) (len : Nat), decode (mCode j) pc = .ok (i, len) ∧ okLen i len = true ∧ okSw i = true ∧ stepI C G j lim Q (nrX j X) pc len i lv st M N P nx
def WP (C : aC) (G : aG) (j lim : Nat) (Q : aQ) : aX := fun pc lv st M N P nx =>
  ∀ X : aX, (∀ pc lv st M N P nx, stepAt C G j lim Q X pc lv st M N P nx → X pc lv st M N P nx) → X pc lv st M N P nx
end
section
/-! the least fixed point: monotone, unfolded, a stretch of instructions at once -/
def cMono (C : aC) : Prop := ∀ q as M N P nx (Q Q' : aQ), (∀ r M N P nx, Q r M N P nx → Q' r M N P nx) → C q as M N P nx Q → C q as M N P nx Q'
def lin : Instr → Bool
  | .goto _ | .ifCond _ _ | .if_icmp _ _ | .tableswitch _ _ _ _ | .lookupswitch _ _ => false
  | _ => true
theorem cm_b {b : Bool} {A B : Prop} (h : A → B) : (bif b then A else False) → (bif b then B else False) := by cases b <;> simp_all
theorem cm_b2 {b : Bool} {A B A' B' : Prop} (h : A → B) (h' : A' → B') : (bif b then A else A') → (bif b then B else B') := by cases b <;> simp_all
theorem s1i_m {st : List Value} {k k' : Int32 → List Value → Prop} (h : ∀ x r, k x r → k' x r) : s1i st k → s1i st k' := by
  unfold s1i; split <;> first | exact h _ _ | exact id
theorem s2i_m {st : List Value} {k k' : Int32 → Int32 → List Value → Prop} (h : ∀ x y r, k x y r → k' x y r) : s2i st k → s2i st k' := by
  unfold s2i; split <;> first | exact h _ _ _ | exact id
theorem s1l_m {st : List Value} {k k' : Int64 → List Value → Prop} (h : ∀ x r, k x r → k' x r) : s1l st k → s1l st k' := by
  unfold s1l; split <;> first | exact h _ _ | exact id
theorem s2l_m {st : List Value} {k k' : Int64 → Int64 → List Value → Prop} (h : ∀ x y r, k x y r → k' x y r) : s2l st k → s2l st k' := by
  unfold s2l; split <;> first | exact h _ _ _ | exact id
theorem sli_m {st : List Value} {k k' : Int64 → Int32 → List Value → Prop} (h : ∀ x y r, k x y r → k' x y r) : sli st k → sli st k' := by
  unfold sli; split <;> first | exact h _ _ _ | exact id
theorem s1r_m {st : List Value} {k k' : Nat → List Value → Prop} (h : ∀ x r, k x r → k' x r) : s1r st k → s1r st k' := by
  unfold s1r; split <;> first | exact h _ _ | exact id
theorem ldi_m {l : aL} {i : Nat} {k k' : Int32 → Prop} (h : ∀ x, k x → k' x) : ldi l i k → ldi l i k' := by
  unfold ldi; split <;> first | exact h _ | exact id
theorem ldl_m {l : aL} {i : Nat} {k k' : Int64 → Prop} (h : ∀ x, k x → k' x) : ldl l i k → ldl l i k' := by
  unfold ldl; split <;> first | exact h _ | exact id
theorem lda_m {l : aL} {i : Nat} {k k' : Value → Prop} (h : ∀ x, k x → k' x) : lda l i k → lda l i k' := by
  unfold lda; split <;> first | exact h _ | exact id
theorem jmp_m {pc : Nat} {off : Int} {k k' : Nat → Prop} (h : ∀ t, k t → k' t) : jmp pc off k → jmp pc off k' := by
  unfold jmp; split <;> first | exact h _ | exact id
theorem brc_m {c : ClassFile.Cond} {x y : Int32} {A B A' B' : Prop} (h : A → A') (h' : B → B') : brc c x y A B → brc c x y A' B' := by
  unfold brc; split <;> exact fun ⟨a, b⟩ => ⟨fun z => h (a z), fun z => h' (b z)⟩
theorem swT_m {x : Int32} {K K' : Int → Prop} {d : Int} (h : ∀ o, K o → K' o) : ∀ (l : List Int) (lo : Int), swT x K d lo l → swT x K' d lo l := by
  intro l
  induction l with
  | nil => intro lo; exact h d
  | cons o t ih => intro lo ⟨a, b⟩; exact ⟨fun z => h _ (a z), fun z => ih _ (b z)⟩
theorem swL_m {x : Int32} {K K' : Int → Prop} {d : Int} (h : ∀ o, K o → K' o) : ∀ (l : List (Int × Int)), swL x K d l → swL x K' d l := by
  intro l
  induction l with
  | nil => exact h d
  | cons o t ih => intro ⟨a, b⟩; exact ⟨fun z => h _ (a z), fun z => ih (b z)⟩
theorem rI_m {k k' : Int32 → aM → aN → aP → Nat → Prop} (h : ∀ x M N P nx, k x M N P nx → k' x M N P nx) : ∀ r M N P nx, rI k r M N P nx → rI k' r M N P nx := by
  intro r M N P nx; unfold rI; split <;> first | exact h _ _ _ _ _ | exact id
theorem rJ_m {k k' : Int64 → aM → aN → aP → Nat → Prop} (h : ∀ x M N P nx, k x M N P nx → k' x M N P nx) : ∀ r M N P nx, rJ k r M N P nx → rJ k' r M N P nx := by
  intro r M N P nx; unfold rJ; split <;> first | exact h _ _ _ _ _ | exact id
theorem rV_m {k k' : aM → aN → aP → Nat → Prop} (h : ∀ M N P nx, k M N P nx → k' M N P nx) : ∀ r M N P nx, rV k r M N P nx → rV k' r M N P nx := by
  intro r M N P nx; unfold rV; split <;> first | exact h _ _ _ _ | exact id
theorem postP_m {rt : Option FieldType} {rest : List Value} {K K' : List Value → aM → aN → aP → Nat → Prop} (h : ∀ st M N P nx, K st M N P nx → K' st M N P nx) : ∀ r M N P nx, postP rt rest K r M N P nx → postP rt rest K' r M N P nx := by
  cases rt with
  | none => exact rV_m (fun _ _ _ _ => h _ _ _ _ _)
  | some t => cases t <;> first | exact rJ_m (fun _ _ _ _ _ => h _ _ _ _ _) | exact rI_m (fun _ _ _ _ _ => h _ _ _ _ _)
theorem goP_m {C : aC} (hC : cMono C) {lim q : Nat} {K K' : List Value → aM → aN → aP → Nat → Prop} (h : ∀ st M N P nx, K st M N P nx → K' st M N P nx) {st : List Value} {M : aM} {N : aN} {P : aP} {nx : Nat} : goP C lim q K st M N P nx → goP C lim q K' st M N P nx :=
  cm_b (cm_b2 (hC _ _ _ _ _ _ _ _ (postP_m h)) (fun ⟨a, b⟩ => ⟨a, hC _ _ _ _ _ _ _ _ (postP_m h) b⟩))
theorem callP_m {C : aC} (hC : cMono C) {lim q : Nat} {K K' : List Value → aM → aN → aP → Nat → Prop} (h : ∀ st M N P nx, K st M N P nx → K' st M N P nx) {st : List Value} {M : aM} {N : aN} {P : aP} {nx : Nat} : callP C lim q K st M N P nx → callP C lim q K' st M N P nx := by
  unfold callP
  refine cm_b2 (goP_m hC h) ?_
  split
  · exact fun ⟨a, b⟩ => ⟨a, goP_m hC h b⟩
  · exact id
theorem getP_m {ty : FieldType} {o k : Nat} {K K' : Value → Prop} {M : aM} {N : aN} {P : aP} (h : ∀ v, K v → K' v) : getP ty o k K M N P → getP ty o k K' M N P := by
  unfold getP; split
  · exact h _
  · exact h _
  · exact fun ⟨a, b, c⟩ => ⟨a, b, h _ c⟩
theorem putP_m {ty : FieldType} {st : List Value} {k : Nat} {ok : Nat → Prop} {K K' : List Value → aM → aN → aP → Prop} {M : aM} {N : aN} {P : aP} (h : ∀ r M N P, K r M N P → K' r M N P) : putP ty st k ok K M N P → putP ty st k ok K' M N P := by
  unfold putP
  split
  · split
    · exact fun ⟨a, b⟩ => ⟨a, h _ _ _ _ b⟩
    · exact id
  · split
    · exact fun ⟨a, b⟩ => ⟨a, h _ _ _ _ b⟩
    · exact id
  · split
    · exact fun ⟨a, b⟩ => ⟨a, h _ _ _ _ b⟩
    · exact id
set_option maxHeartbeats 4000000 in
theorem stepI_m {C : aC} (hC : cMono C) {G : aG} {j lim : Nat} {Q Q' : aQ} (hQ : ∀ r M N P nx, Q r M N P nx → Q' r M N P nx) {X Y : aX} {pc len : Nat} {i : Instr} (h : ∀ t lv st M N P nx, (lin i = true → t = pc + len) → X t lv st M N P nx → Y t lv st M N P nx) {lv : aL} {st : List Value} {M : aM} {N : aN} {P : aP} {nx : Nat} :
    stepI C G j lim Q X pc len i lv st M N P nx → stepI C G j lim Q' Y pc len i lv st M N P nx := by
  cases i <;> unfold stepI <;> dsimp only <;> (try exact id)
  case iconst => exact h _ _ _ _ _ _ _ (fun _ => rfl)
  case bipush => exact h _ _ _ _ _ _ _ (fun _ => rfl)
  case sipush => exact h _ _ _ _ _ _ _ (fun _ => rfl)
  case lconst => exact h _ _ _ _ _ _ _ (fun _ => rfl)
  case ldc2_w => split; exact h _ _ _ _ _ _ _ (fun _ => rfl); exact id
  case ldc => split; exact h _ _ _ _ _ _ _ (fun _ => rfl); exact id
  case ldc_w => split; exact h _ _ _ _ _ _ _ (fun _ => rfl); exact id
  case iload => exact ldi_m fun _ => h _ _ _ _ _ _ _ (fun _ => rfl)
  case iload_n => exact ldi_m fun _ => h _ _ _ _ _ _ _ (fun _ => rfl)
  case lload => exact ldl_m fun _ => h _ _ _ _ _ _ _ (fun _ => rfl)
  case lload_n => exact ldl_m fun _ => h _ _ _ _ _ _ _ (fun _ => rfl)
  case aload => exact lda_m fun _ => h _ _ _ _ _ _ _ (fun _ => rfl)
  case aload_n => exact lda_m fun _ => h _ _ _ _ _ _ _ (fun _ => rfl)
  case istore => exact s1i_m fun _ _ => cm_b (h _ _ _ _ _ _ _ (fun _ => rfl))
  case istore_n => exact s1i_m fun _ _ => cm_b (h _ _ _ _ _ _ _ (fun _ => rfl))
  case lstore => exact s1l_m fun _ _ => cm_b (h _ _ _ _ _ _ _ (fun _ => rfl))
  case lstore_n => exact s1l_m fun _ _ => cm_b (h _ _ _ _ _ _ _ (fun _ => rfl))
  case astore => exact s1r_m fun _ _ => cm_b (h _ _ _ _ _ _ _ (fun _ => rfl))
  case astore_n => exact s1r_m fun _ _ => cm_b (h _ _ _ _ _ _ _ (fun _ => rfl))
  case iinc => exact ldi_m fun _ => cm_b (h _ _ _ _ _ _ _ (fun _ => rfl))
  case iadd => exact s2i_m fun _ _ _ => h _ _ _ _ _ _ _ (fun _ => rfl)
  case isub => exact s2i_m fun _ _ _ => h _ _ _ _ _ _ _ (fun _ => rfl)
  case imul => exact s2i_m fun _ _ _ => h _ _ _ _ _ _ _ (fun _ => rfl)
  case iand => exact s2i_m fun _ _ _ => h _ _ _ _ _ _ _ (fun _ => rfl)
  case ior => exact s2i_m fun _ _ _ => h _ _ _ _ _ _ _ (fun _ => rfl)
  case ishl => exact s2i_m fun _ _ _ => h _ _ _ _ _ _ _ (fun _ => rfl)
  case ishr => exact s2i_m fun _ _ _ => h _ _ _ _ _ _ _ (fun _ => rfl)
  case iushr => exact s2i_m fun _ _ _ => h _ _ _ _ _ _ _ (fun _ => rfl)
  case idiv => exact s2i_m fun _ _ _ ⟨a, b⟩ => ⟨a, h _ _ _ _ _ _ _ (fun _ => rfl) b⟩
  case irem => exact s2i_m fun _ _ _ ⟨a, b⟩ => ⟨a, h _ _ _ _ _ _ _ (fun _ => rfl) b⟩
  case i2l => exact s1i_m fun _ _ => h _ _ _ _ _ _ _ (fun _ => rfl)
  case l2i => exact s1l_m fun _ _ => h _ _ _ _ _ _ _ (fun _ => rfl)
  case i2b => exact s1i_m fun _ _ => h _ _ _ _ _ _ _ (fun _ => rfl)
  case ladd => exact s2l_m fun _ _ _ => h _ _ _ _ _ _ _ (fun _ => rfl)
  case lsub => exact s2l_m fun _ _ _ => h _ _ _ _ _ _ _ (fun _ => rfl)
  case land => exact s2l_m fun _ _ _ => h _ _ _ _ _ _ _ (fun _ => rfl)
  case lor => exact s2l_m fun _ _ _ => h _ _ _ _ _ _ _ (fun _ => rfl)
  case lshl => exact sli_m fun _ _ _ => h _ _ _ _ _ _ _ (fun _ => rfl)
  case lshr => exact sli_m fun _ _ _ => h _ _ _ _ _ _ _ (fun _ => rfl)
  case lushr => exact sli_m fun _ _ _ => h _ _ _ _ _ _ _ (fun _ => rfl)
  case lcmp => exact s2l_m fun _ _ _ => h _ _ _ _ _ _ _ (fun _ => rfl)
  case dup => split; exact cm_b (h _ _ _ _ _ _ _ (fun _ => rfl)); exact id
  case dup2 => split; exact cm_b (h _ _ _ _ _ _ _ (fun _ => rfl)); exact id
  case pop => split; exact cm_b (h _ _ _ _ _ _ _ (fun _ => rfl)); exact id
  case goto => exact jmp_m fun _ => h _ _ _ _ _ _ _ (fun z => by cases z)
  case ifCond => exact s1i_m fun _ _ => jmp_m fun _ => brc_m (h _ _ _ _ _ _ _ (fun z => by cases z)) (h _ _ _ _ _ _ _ (fun z => by cases z))
  case if_icmp => exact s2i_m fun _ _ _ => jmp_m fun _ => brc_m (h _ _ _ _ _ _ _ (fun z => by cases z)) (h _ _ _ _ _ _ _ (fun z => by cases z))
  case tableswitch => exact s1i_m fun _ _ => swT_m (fun _ => jmp_m fun _ => h _ _ _ _ _ _ _ (fun z => by cases z)) _ _
  case lookupswitch => exact s1i_m fun _ _ => swL_m (fun _ => jmp_m fun _ => h _ _ _ _ _ _ _ (fun z => by cases z)) _
  case getfield =>
    refine s1r_m fun _ _ => ?_
    split
    · exact fun ⟨a, b⟩ => ⟨a, getP_m (fun _ => h _ _ _ _ _ _ _ (fun _ => rfl)) b⟩
    · exact id
  case putfield =>
    split
    · exact cm_b2 id (putP_m fun _ _ _ _ => h _ _ _ _ _ _ _ (fun _ => rfl))
    · exact id
  case iaload =>
    split
    · exact fun ⟨k, a, b⟩ => ⟨k, a, h _ _ _ _ _ _ _ (fun _ => rfl) b⟩
    · exact cm_b fun ⟨k, a, c, b⟩ => ⟨k, a, c, h _ _ _ _ _ _ _ (fun _ => rfl) b⟩
    · exact id
  case baload =>
    split
    · exact fun ⟨k, a, b⟩ => ⟨k, a, h _ _ _ _ _ _ _ (fun _ => rfl) b⟩
    · exact id
  case laload =>
    split
    · exact fun ⟨k, a, b⟩ => ⟨k, a, h _ _ _ _ _ _ _ (fun _ => rfl) b⟩
    · exact id
  case iastore =>
    split
    · exact fun ⟨k, a, b⟩ => ⟨k, a, h _ _ _ _ _ _ _ (fun _ => rfl) b⟩
    · exact id
  case bastore =>
    split
    · exact fun ⟨k, y, a, b⟩ => ⟨k, y, a, h _ _ _ _ _ _ _ (fun _ => rfl) b⟩
    · exact id
  case lastore =>
    split
    · exact fun ⟨k, a, b⟩ => ⟨k, a, h _ _ _ _ _ _ _ (fun _ => rfl) b⟩
    · exact id
  case arraylength =>
    split
    · exact fun ⟨k, a, b⟩ => ⟨k, a, h _ _ _ _ _ _ _ (fun _ => rfl) b⟩
    · exact cm_b (h _ _ _ _ _ _ _ (fun _ => rfl))
    · exact id
  case new =>
    refine cm_b2 (hQ _ _ _ _ _) ?_
    split
    · exact fun ⟨k, a, b⟩ => ⟨k, a, h _ _ _ _ _ _ _ (fun _ => rfl) b⟩
    · exact id
  case newarray => exact s1i_m fun _ _ ⟨k, a, c, b⟩ => ⟨k, a, c, h _ _ _ _ _ _ _ (fun _ => rfl) b⟩
  case invokevirtual =>
    split
    · exact cm_b (callP_m hC fun _ _ _ _ _ => h _ _ _ _ _ _ _ (fun _ => rfl))
    · exact id
  case invokespecial =>
    split
    · exact cm_b2 (s1r_m fun _ _ => cm_b (h _ _ _ _ _ _ _ (fun _ => rfl))) (cm_b (callP_m hC fun _ _ _ _ _ => h _ _ _ _ _ _ _ (fun _ => rfl)))
    · exact id
  case invokestatic =>
    split
    · refine cm_b2 (s2i_m fun _ _ _ => cm_b (h _ _ _ _ _ _ _ (fun _ => rfl))) (cm_b2 (s2i_m fun _ _ _ => cm_b (h _ _ _ _ _ _ _ (fun _ => rfl))) (cm_b2 ?_ (cm_b (callP_m hC fun _ _ _ _ _ => h _ _ _ _ _ _ _ (fun _ => rfl)))))
      split
      · refine cm_b ?_
        exact fun ⟨a1, a2, a3, a4, s1, s2, s3, e1, e2, e3, e4, e5, b⟩ => ⟨a1, a2, a3, a4, s1, s2, s3, e1, e2, e3, e4, e5, h _ _ _ _ _ _ _ (fun _ => rfl) b⟩
      · exact id
    · exact id
  case ireturn =>
    split
    · split
      · exact hQ _ _ _ _ _
      · exact fun ⟨a, b⟩ => ⟨a, hQ _ _ _ _ _ b⟩
      · exact id
    · exact id
  case lreturn =>
    split
    · split
      · exact hQ _ _ _ _ _
      · exact id
    · exact id
  case return_ =>
    split
    · split
      · exact hQ _ _ _ _ _
      · exact id
    · exact id
theorem stepAt_m {C : aC} (hC : cMono C) {G : aG} {j lim : Nat} {Q Q' : aQ} (hQ : ∀ r M N P nx, Q r M N P nx → Q' r M N P nx) {X Y : aX} (h : ∀ t lv st M N P nx, X t lv st M N P nx → Y t lv st M N P nx) {pc : Nat} {lv : aL} {st : List Value} {M : aM} {N : aN} {P : aP} {nx : Nat} :
    stepAt C G j lim Q X pc lv st M N P nx → stepAt C G j lim Q' Y pc lv st M N P nx := fun ⟨i, len, a, b, c, d⟩ => ⟨i, len, a, b, c, stepI_m hC hQ (fun t lv st M N P nx _ => h t _ st M N P nx) d⟩
theorem WP_fold {C : aC} (hC : cMono C) {G : aG} {j lim : Nat} {Q : aQ} {pc : Nat} {lv : aL} {st : List Value} {M : aM} {N : aN} {P : aP} {nx : Nat} (h : stepAt C G j lim Q (WP C G j lim Q) pc lv st M N P nx) : WP C G j lim Q pc lv st M N P nx :=
  fun X hX => hX _ _ _ _ _ _ _ (stepAt_m hC (fun _ _ _ _ _ z => z) (fun t lv st M N P nx z => z X hX) h)
theorem WP_unfold {C : aC} (hC : cMono C) {G : aG} {j lim : Nat} {Q : aQ} {pc : Nat} {lv : aL} {st : List Value} {M : aM} {N : aN} {P : aP} {nx : Nat} (h : WP C G j lim Q pc lv st M N P nx) : stepAt C G j lim Q (WP C G j lim Q) pc lv st M N P nx :=
  h (stepAt C G j lim Q (WP C G j lim Q)) (fun _ _ _ _ _ _ _ z => stepAt_m hC (fun _ _ _ _ _ z => z) (fun _ _ _ _ _ _ _ => WP_fold hC) z)
theorem WP_m {C : aC} (hC : cMono C) {G : aG} {j lim : Nat} {Q Q' : aQ} (hQ : ∀ r M N P nx, Q r M N P nx → Q' r M N P nx) {pc : Nat} {lv : aL} {st : List Value} {M : aM} {N : aN} {P : aP} {nx : Nat} (h : WP C G j lim Q pc lv st M N P nx) : WP C G j lim Q' pc lv st M N P nx :=
  h (WP C G j lim Q') (fun _ _ _ _ _ _ _ z => WP_fold hC (stepAt_m hC hQ (fun _ _ _ _ _ _ _ z => z) z))
/-- a stretch -/
def seg (C : aC) (G : aG) (j lim : Nat) (Q : aQ) (X : aX) : List (Instr × Nat) → aX
  | [] => X
  | q :: t => fun pc => stepI C G j lim Q (nrX j (seg C G j lim Q X t)) pc q.2 q.1
def segOK (j : Nat) : List (Instr × Nat) → Nat → Bool
  | [], _ => true
  | q :: t, pc => decide (decode (mCode j) pc = .ok q) && (okLen q.1 q.2 && (okSw q.1 && ((lin q.1 || t.isEmpty) && segOK j t (pc + q.2))))
theorem WP_seg {C : aC} (hC : cMono C) {G : aG} {j lim : Nat} {Q : aQ} : ∀ (is : List (Instr × Nat)) {pc : Nat} (_ : segOK j is pc = true) {lv : aL} {st : List Value} {M : aM} {N : aN} {P : aP} {nx : Nat},
    WP C G j lim Q pc lv st M N P nx ↔ seg C G j lim Q (WP C G j lim Q) is pc lv st M N P nx := by
  intro is
  induction is with
  | nil => intro pc _ lv st M N P nx; exact Iff.rfl
  | cons q t ih =>
    intro pc h lv st M N P nx
    simp only [segOK, Bool.and_eq_true, decide_eq_true_eq, Bool.or_eq_true] at h
    obtain ⟨h1, h2, h3, h4, h5⟩ := h
    obtain ⟨i, len⟩ := q
    have key : ∀ (X Y : aX), (∀ lv st M N P nx, X (pc + len) lv st M N P nx → Y (pc + len) lv st M N P nx) → (∀ t' lv st M N P nx, t.isEmpty = true → X t' lv st M N P nx → Y t' lv st M N P nx) → stepI C G j lim Q (nrX j X) pc len i lv st M N P nx → stepI C G j lim Q (nrX j Y) pc len i lv st M N P nx := by
      intro X Y hX hY
      refine stepI_m hC (fun _ _ _ _ _ z => z) (fun t' lv st M N P nx hl hx => ?_)
      rcases h4 with h4 | h4
      · rw [hl h4] at hx ⊢
        exact hX _ _ _ _ _ _ hx
      · exact hY _ _ _ _ _ _ _ h4 hx
    constructor
    · intro hw
      obtain ⟨i', len', d1, -, -, d4⟩ := WP_unfold hC hw
      rw [h1] at d1
      cases d1
      refine key _ _ (fun lv st M N P nx hx => (ih h5).mp hx) (fun t' lv st M N P nx ht hx => ?_) d4
      cases t with
      | nil => exact hx
      | cons _ _ => cases ht
    · intro hs
      refine WP_fold hC ⟨i, len, h1, h2, h3, key _ _ (fun lv st M N P nx hx => (ih h5).mpr hx) (fun t' lv st M N P nx ht hx => ?_) hs⟩
      cases t with
      | nil => exact hx
      | cons _ _ => cases ht
/-- methods whose meaning is said outright: Reader.wordOf (14), RenvoiDeskModel.spelled (137), RenvoiDeskLaw.rule (216) -/
def wordI (k : Nat) : Int32 := [394692, 10079909, 197748, 136356, 611717, 12343, 24395141, 9910450].getD k 0
def wordL (k : Nat) : Int64 := [394692, 10079909, 197748, 136356, 611717, 12343, 24395141, 9910450].getD k 0
def semQ (C : aC) : aC := fun q as M N P nx Q =>
  bif q == 14 then (match as with
    | [.retAddr (k + 1)] => k < 8 ∧ Q (some (.int (wordI k))) M N P nx
    | _ => False)
  else bif q == 137 then (match as with
    | [.retAddr (k + 1)] => k < 8 ∧ Q (some (.long (wordL k))) M N P nx
    | _ => False)
  else bif q == 216 then (match as with
    | [.ref 0, .int x, .int y, .int z, .ref 43] => WP C (0, fun _ => 0) 96 nx (fun r M' N' P' nx' => match r with
      | some (.int v) => Q (some (.int 0)) M' (uN N' 43 0 v.toInt64) P' (nx + 1)
      | none => Q (some (.int 1)) M' N' P' (nx + 1)
      | _ => False) 0 (lv_args 0 [.ref 0, .int x, .int y, .int z]) [] M N P nx
    | _ => False)
  else bif Nat.ble (catS as) (mMaxL q) then WP C (0, fun _ => 0) q (nx + mC q) (fun r M' N' P' nx' => nx' = nx + mC q ∧ Q r M' N' P' nx') 0 (lv_args 0 as) [] M N P nx else False
def aSem : Nat → aC
  | 0 => fun _ _ _ _ _ _ _ => False
  | d + 1 => semQ (aSem d)
theorem semQ_mono {C : aC} (hC : cMono C) : cMono (semQ C) := by
  intro q as M N P nx Q Q' hQ
  unfold semQ
  refine cm_b2 ?_ (cm_b2 ?_ (cm_b2 ?_ (cm_b (WP_m hC fun r M N P nx ⟨a, b⟩ => ⟨a, hQ _ _ _ _ _ b⟩))))
  · split
    · exact fun ⟨a, b⟩ => ⟨a, hQ _ _ _ _ _ b⟩
    · exact id
  · split
    · exact fun ⟨a, b⟩ => ⟨a, hQ _ _ _ _ _ b⟩
    · exact id
  · split
    · refine WP_m hC fun r M N P nx => ?_
      split
      · exact hQ _ _ _ _ _
      · exact hQ _ _ _ _ _
      · exact id
    · exact id
theorem aSem_mono : ∀ d, cMono (aSem d)
  | 0 => fun _ _ _ _ _ _ _ _ _ h => h
  | d + 1 => semQ_mono (aSem_mono d)
end
section
/-! THE ABSTRACT STATE AND THE HEAP -/
abbrev aE : Type := Nat × Nat × (Nat → Nat)
/-- a value of the abstract machine as the machine has it: cells from E.1 on, the script, the texts -/
def rv (E : aE) : Value → Value
  | .ref a => .ref (E.1 + a)
  | .retAddr 0 => .ref E.2.1
  | .retAddr (k + 1) => .ref (E.2.2 k)
  | v => v
def rl (E : aE) (lv : aL) : aL := lv.map (fun q => (q.1, rv E q.2))
theorem rv_cat (E : aE) (v : Value) : (rv E v).category = v.category := by
  unfold rv; split <;> rfl
def nF (ci : Nat) : Nat := match vwCl[ci]? with
  | some q => q.2.2
  | none => 0
def fvW (bs : Nat) (ty : FieldType) (M : aM) (N : aN) (P : aP) (k j : Nat) : Value := match ty with
  | .int => .int (M k j)
  | .long => .long (N k j)
  | _ => match P k j with
    | none => .null
    | some a => .ref (bs + a)
def fsW (bs ci : Nat) (M : aM) (N : aN) (P : aP) (k : Nat) : List Value := (List.range (nF ci)).map (fun j => fvW bs (cTy ci j) M N P k j)
def ceW (cA : Nat → ClassId) (bs : Nat) (M : aM) (N : aN) (P : aP) (k : Nat) : va_E :=
  if (kindOf k).1 = 0 then .inr ((kindOf k).2, fsW bs (kindOf k).2 M N P k)
  else if (kindOf k).1 = 4 then .inl (cA 4, (kindOf k).2, .inr (.inl (N k)))
  else .inl (cA (kindOf k).1, (kindOf k).2, .inl (M k))
def wsW (cA : Nat → ClassId) (bs : Nat) (M : aM) (N : aN) (P : aP) (nx : Nat) : va_W := (List.range (min nx 44)).map (fun k => (bs + k, ceW cA bs M N P k))
def tysW (cA : Nat → ClassId) : List (ClassId × FieldType) := [(cA 1, .int), (cA 2, .byte), (cA 3, .boolean), (cA 4, .long)]
def relH (D : va_G) (cA : Nat → ClassId) (bs : Nat) (M : aM) (N : aN) (P : aP) (nx : Nat) (H : Heap) : Prop :=
  va_P D vwCl (wsW cA bs M N P nx) H
abbrev aA (bs : Nat) : Nat → Prop := fun q => bs ≤ q
theorem kind_lt {a t n : Nat} (h : kindOf a = (t, n)) (ht : t ≠ 9) : a < 44 := by
  rcases Nat.lt_or_ge a 44 with q | q
  · exact q
  · have : kindOf a = (9, 0) := by
      unfold kindOf
      rw [List.getD_eq_getElem?_getD, List.getElem?_eq_none (by simpa [kinds] using q)]
      rfl
    rw [this] at h
    exact absurd (congrArg Prod.fst h).symm ht
theorem kind_lt' {a t : Nat} (h : (kindOf a).1 = t) (ht : t ≠ 9) : a < 44 := kind_lt (n := (kindOf a).2) (by rw [← h]) ht
theorem kind_sz : ∀ a, a < 44 → (kindOf a).2 ≤ 1068 := by decide +kernel
theorem kind_cl : ∀ a, a < 44 → (kindOf a).1 = 0 → (kindOf a).2 < 8 := by decide +kernel
theorem nF_eq {ci : Nat} {q : vw_C} (h : vwCl[ci]? = some q) : nF ci = q.2.2 := by unfold nF; rw [h]
theorem wsW_get {cA : Nat → ClassId} {bs : Nat} {M : aM} {N : aN} {P : aP} {nx k : Nat} (h : k < nx) (h4 : k < 44) : (wsW cA bs M N P nx)[k]? = some (bs + k, ceW cA bs M N P k) := by
  unfold wsW
  rw [List.getElem?_map, List.getElem?_range (by omega)]
  rfl
theorem wsW_set {cA : Nat → ClassId} {bs : Nat} {M M' : aM} {N N' : aN} {P P' : aP} {nx k : Nat} {e : va_E} (he : e = ceW cA bs M' N' P' k) (h : ∀ i, i ≠ k → ceW cA bs M' N' P' i = ceW cA bs M N P i) : (wsW cA bs M N P nx).set k (bs + k, e) = wsW cA bs M' N' P' nx := by
  apply List.ext_getElem?
  intro i
  rw [List.getElem?_set]
  unfold wsW
  by_cases hi : i < min nx 44
  · rw [List.getElem?_map, List.getElem?_map, List.getElem?_range hi, List.length_map, List.length_range]
    by_cases hk : k = i
    · subst hk
      rw [if_pos rfl, if_pos hi, he]
      rfl
    · rw [if_neg hk]
      show some (bs + i, ceW cA bs M N P i) = some (bs + i, ceW cA bs M' N' P' i)
      rw [h i (fun q => hk q.symm)]
  · rw [List.getElem?_map, List.getElem?_map, List.getElem?_eq_none (by simpa using hi), List.length_map, List.length_range]
    by_cases hk : k = i
    · subst hk
      rw [if_pos rfl, if_neg hi]
      rfl
    · rw [if_neg hk]
      rfl
theorem wsW_D {cA : Nat → ClassId} {bs : Nat} {M : aM} {N : aN} {P : aP} {nx : Nat} : va_D (aA bs) (wsW cA bs M N P nx) := by
  have key : ∀ (i : Nat) (p : Nat × va_E), (wsW cA bs M N P nx)[i]? = some p → p.1 = bs + i := by
    intro i p h
    unfold wsW at h
    rw [List.getElem?_map] at h
    cases hi : (List.range (min nx 44))[i]? with
    | none => rw [hi] at h; cases h
    | some q =>
      rw [hi] at h
      have hq : q = i := by
        have := List.getElem?_eq_some_iff.mp hi
        obtain ⟨a, b⟩ := this
        rw [List.getElem_range] at b
        exact b.symm
      cases h
      show bs + q = bs + i
      rw [hq]
  refine ⟨fun i j p q hp hq e => ?_, fun k q h => ?_⟩
  · have := key i p hp
    have := key j q hq
    omega
  · rw [key k q h]
    exact Nat.le_add_right _ _
theorem wsW_push {cA : Nat → ClassId} {bs : Nat} {M M' : aM} {N N' : aN} {P P' : aP} {nx : Nat} {e : va_E} (hn : nx < 44) (he : e = ceW cA bs M' N' P' nx) (h : ∀ i, i < nx → ceW cA bs M' N' P' i = ceW cA bs M N P i) : wsW cA bs M N P nx ++ [(bs + nx, e)] = wsW cA bs M' N' P' (nx + 1) := by
  unfold wsW
  rw [Nat.min_eq_left (by omega), Nat.min_eq_left (by omega), List.range_succ, List.map_append, List.map_singleton, he]
  congr 1
  apply List.map_congr_left
  intro i hi
  rw [h i (List.mem_range.mp hi)]
theorem ceW_obj {cA : Nat → ClassId} {bs : Nat} {M : aM} {N : aN} {P : aP} {k ci : Nat} (h : kindOf k = (0, ci)) : ceW cA bs M N P k = .inr (ci, fsW bs ci M N P k) := by
  unfold ceW
  rw [if_pos (by rw [h]), h]
theorem ceW_row {cA : Nat → ClassId} {bs : Nat} {M : aM} {N : aN} {P : aP} {k t : Nat} (h : (kindOf k).1 = t) (h0 : t ≠ 0) (h4 : t ≠ 4) : ceW cA bs M N P k = .inl (cA t, (kindOf k).2, .inl (M k)) := by
  unfold ceW
  rw [if_neg (by rw [h]; exact h0), if_neg (by rw [h]; exact h4), h]
theorem ceW_long {cA : Nat → ClassId} {bs : Nat} {M : aM} {N : aN} {P : aP} {k : Nat} (h : (kindOf k).1 = 4) : ceW cA bs M N P k = .inl (cA 4, (kindOf k).2, .inr (.inl (N k))) := by
  unfold ceW
  rw [if_neg (by rw [h]; decide), if_pos h]
theorem fsW_get {bs ci : Nat} {M : aM} {N : aN} {P : aP} {k j : Nat} (h : j < nF ci) : (fsW bs ci M N P k)[j]? = some (fvW bs (cTy ci j) M N P k j) := by
  unfold fsW
  rw [List.getElem?_map, List.getElem?_range h]
  rfl
theorem fsW_len {bs ci : Nat} {M : aM} {N : aN} {P : aP} {k : Nat} : (fsW bs ci M N P k).length = nF ci := by
  unfold fsW
  rw [List.length_map, List.length_range]
theorem fsW_set {bs ci : Nat} {M M' : aM} {N N' : aN} {P P' : aP} {k j : Nat} {v : Value} (hv : v = fvW bs (cTy ci j) M' N' P' k j) (h : ∀ i, i ≠ j → fvW bs (cTy ci i) M' N' P' k i = fvW bs (cTy ci i) M N P k i) : (fsW bs ci M N P k).set j v = fsW bs ci M' N' P' k := by
  apply List.ext_getElem?
  intro i
  rw [List.getElem?_set, fsW_len]
  by_cases hi : i < nF ci
  · rw [fsW_get hi, fsW_get hi]
    by_cases hk : j = i
    · subst hk
      rw [if_pos rfl, if_pos hi, hv]
    · rw [if_neg hk, h i (fun q => hk q.symm)]
  · rw [List.getElem?_eq_none (by rw [fsW_len]; omega), List.getElem?_eq_none (l := fsW bs ci M' N' P' k) (by rw [fsW_len]; omega)]
    by_cases hk : j = i
    · subst hk
      rw [if_pos rfl, if_neg hi]
    · rw [if_neg hk]
/-- cells that a function leaves alone -/
theorem ceW_eq {cA : Nat → ClassId} {bs : Nat} {M M' : aM} {N N' : aN} {P P' : aP} {k : Nat} (hM : M' k = M k) (hN : N' k = N k) (hP : P' k = P k) : ceW cA bs M' N' P' k = ceW cA bs M N P k := by
  unfold ceW fsW fvW
  rw [hM, hN, hP]
theorem up_ne {α : Type} {f : Nat → α} {k j : Nat} {v : α} (h : j ≠ k) : va_up f k v j = f j := if_neg h
theorem up_eq {α : Type} {f : Nat → α} {k : Nat} {v : α} : va_up f k v k = v := if_pos rfl
theorem uM_ne {M : aM} {a k b : Nat} {v : Int32} (h : b ≠ a) : uM M a k v b = M b := up_ne h
theorem uN_ne {M : aN} {a k b : Nat} {v : Int64} (h : b ≠ a) : uN M a k v b = M b := up_ne h
theorem uP_ne {M : aP} {a k b : Nat} {v : Option Nat} (h : b ≠ a) : uP M a k v b = M b := up_ne h
theorem uM_eq {M : aM} {a k : Nat} {v : Int32} : uM M a k v a = va_up (M a) k v := up_eq
theorem uN_eq {M : aN} {a k : Nat} {v : Int64} : uN M a k v a = va_up (M a) k v := up_eq
theorem uP_eq {M : aP} {a k : Nat} {v : Option Nat} : uP M a k v a = va_up (M a) k v := up_eq
theorem lget_mem : ∀ {l : aL} {i : Nat} {v : Value}, lget l i = some v → (i, v) ∈ l
  | [], _, _, h => by cases h
  | q :: t, i, v, h => by
    unfold lget at h
    cases hq : q.1 == i with
    | true =>
      rw [hq] at h
      have e : q = (i, v) := by cases q; simp at hq h; rw [hq, h]
      rw [e]; exact List.mem_cons_self
    | false =>
      rw [hq] at h
      exact List.mem_cons_of_mem _ (lget_mem h)
theorem lh_get {E : aE} {ls : Array Slot} {n : Nat} {lv : aL} (h : lv_has ls n (rl E lv)) {i : Nat} {v : Value} (hg : lget lv i = some v) : ls[i]? = some (.val (rv E v)) :=
  h.2.2 (i, rv E v) (List.mem_map.mpr ⟨(i, v), lget_mem hg, rfl⟩)
theorem lh_nrm {E : aE} {ls : Array Slot} {n j pc : Nat} {lv : aL} (h : lv_has ls n (rl E lv)) : lv_has ls n (rl E (nrm j pc lv)) := by
  unfold nrm
  split
  · exact h
  · refine ⟨h.1, h.2.1, fun q hq => ?_⟩
    obtain ⟨p, hp, rfl⟩ := List.mem_map.mp hq
    obtain ⟨k, -, hk⟩ := List.mem_filterMap.mp hp
    cases hg : lget lv k with
    | none => rw [hg] at hk; cases hk
    | some v =>
      rw [hg] at hk
      cases hk
      exact lh_get h hg
theorem rl_lst1 {E : aE} {lv : aL} {i : Nat} {v : Value} : (i, rv E v) :: (rl E lv).filter (fun q => !(q.1 == i) && !(q.1 + 1 == i && q.2.category == 2)) = rl E (lst1 lv i v) := by
  unfold rl lst1
  rw [List.map_cons, List.filter_map]
  congr 2
  apply List.filter_congr
  intro q _
  show (!(q.1 == i) && !(q.1 + 1 == i && (rv E q.2).category == 2)) = _
  rw [rv_cat]
theorem rl_lst2 {E : aE} {lv : aL} {i : Nat} {v : Value} : (i, rv E v) :: (rl E lv).filter (fun q => !(q.1 == i) && (!(q.1 == i + 1) && !(q.1 + 1 == i && q.2.category == 2))) = rl E (lst2 lv i v) := by
  unfold rl lst2
  rw [List.map_cons, List.filter_map]
  congr 2
  apply List.filter_congr
  intro q _
  show (!(q.1 == i) && (!(q.1 == i + 1) && !(q.1 + 1 == i && (rv E q.2).category == 2))) = _
  rw [rv_cat]
theorem rv_args {E : aE} : ∀ (as : List Value) (k : Nat), lv_args k (as.map (rv E)) = rl E (lv_args k as)
  | [], _ => rfl
  | v :: t, k => by
    have := rv_args (E := E) t
    simp only [List.map_cons, lv_args, rl, rv_cat] at this ⊢
    rw [this]
theorem catS_eq {E : aE} : ∀ (st : List Value), ((st.map (rv E)).map fun v => v.category).sum = catS st
  | [] => rfl
  | v :: t => by
    simp only [List.map_cons, List.sum_cons, catS, rv_cat]
    rw [catS_eq t]
end
section
/-! SOUNDNESS: what WP says of a method's body, the machine does -/
/-- facts of the start that calls need, whatever they are: they go along with the tables and with a heap that keeps what isn't A -/
def evOK (A : Nat → Prop) (Ev : State → Heap → Prop) : Prop := (∀ (s U : State) (H : Heap), s.WarmedH U.vm → Ev s H → Ev U H) ∧ ∀ (U : State) (H H' : Heap), H.size ≤ H'.size → (∀ q : Nat, q < H.size → ¬ A q → H'[q]? = H[q]?) → Ev U H → Ev U H'
def evHas (D : va_G) (cA : Nat → ClassId) (E : aE) (Ev : State → Heap → Prop) : Prop := ∀ (U : State) (H : Heap), Ev U H → va_K D vwCl (tysW cA) U ∧ (∀ w ∈ nestWs, va_Nw w U) ∧ ∀ own idx k, scon own idx = some k → vk_R (oName own) idx (sTexts.getD k "") (E.2.2 k) U
def pcA (D : va_G) (cA : Nat → ClassId) (E : aE) (Ev : State → Heap → Prop) (as : List Value) (M : aM) (N : aN) (P : aP) (nx : Nat) : Array Value → State → Prop := va_Pc (as.map (rv E)) (fun U => relH D cA E.1 M N P nx U.heap ∧ (nx ≤ 44 → U.heap.size = E.1 + nx) ∧ E.1 ≤ U.heap.size ∧ Ev U U.heap)
def qcA (D : va_G) (cA : Nat → ClassId) (E : aE) (Q : aQ) : Array Value → State → Outcome → State → Prop := fun _ st oc t => (∃ (r : Option Value) (M : aM) (N : aN) (P : aP) (nx : Nat), oc = .returned (r.map (rv E)) ∧ Q r M N P nx ∧ relH D cA E.1 M N P nx t.heap) ∧ va_F (aA E.1) st t
def rmA (d q : Nat) : Room := { frames := d, cells := mC q, slots := 1068 * mC q, locals := 128 * d }
def wsA (q : Nat) : List Cond := Cond.code (mName q) (mCode q) (mMaxL q) (mRet q) :: gtbl
def metA (l : Launch) (D : va_G) (cA : Nat → ClassId) (E : aE) (Ev : State → Heap → Prop) (d q : Nat) (as : List Value) (M : aM) (N : aN) (P : aP) (nx : Nat) (Q : aQ) : Prop :=
  Met l (mName q) (wsA q) (rmA d q) (pcA D cA E Ev as M N P nx) (qcA D cA E Q) (mC q) (1068 * mC q) (aA E.1)
theorem pcA_blind {D : va_G} {cA : Nat → ClassId} {E : aE} {Ev : State → Heap → Prop} (hE : evOK (aA E.1) Ev) {as : List Value} {M : aM} {N : aN} {P : aP} {nx : Nat} : FrameBlind (pcA D cA E Ev as M N P nx) :=
  fun _ U _ _ ⟨h1, h2, h3, h4, h5⟩ => ⟨h1, h2, h3, h4, hE.1 U _ _ (State.WarmedH.refl U) h5⟩
theorem gt_good {w : Cond} (h : w ∈ gtbl) : (w.onTables && w.keeps) = true ∨ ∃ ty, w = .arrayClass ty := good_of_word (List.mem_filter.mp h).2
theorem good_A {Ts ws : List Cond} (hT : ∀ w ∈ gtbl, w ∈ Ts) (h : ∀ w ∈ ws, w ∈ gtbl) : GoodIn Ts ws := fun w hw => ⟨hT w (h w hw), gt_good (h w hw)⟩
theorem wsA_in {q : Nat} (h : mOK q) : ∀ w ∈ wsA q, w ∈ gtbl := by
  intro w hw
  rcases List.mem_cons.mp hw with e | e
  · rw [e]; exact h.1
  · exact e
section SND
variable {p : Program} {l : Launch} {e : Env} {R : Room} {s : State} {m : MethodId} {args : Array Value} {below : List Frame} {meth : Method} {c : Code} {D : va_G} {cA : Nat → ClassId} {E : aE} {Ev : State → Heap → Prop}
/-- the machine's side of a place in a body -/
def mpA (p : Program) (l : Launch) (e : Env) (R : Room) (s : State) (m : MethodId) (args : Array Value) (below : List Frame) (meth : Method) (c : Code) (D : va_G) (cA : Nat → ClassId) (E : aE) (j lim n0 : Nat) (Z : State → Prop) : aX := fun pc lv st M N P nx =>
  ∀ (H : Heap) (locs : List Loc) (ls : Array Slot), relH D cA E.1 M N P nx H → va_S (aA E.1) s.heap H locs → lv_has ls (mMaxL j) (rl E lv) → n0 ≤ nx → nx ≤ lim → W p l e R s m args below meth c H locs (nx - n0) (1068 * (nx - n0)) Z (F0 m pc ls (st.map (rv E)))
theorem W_size {H : Heap} {locs : List Loc} {cells slots : Nat} {Z : State → Prop} {g : JFrame} (k : H.size ≤ s.heap.size + cells → W p l e R s m args below meth c H locs cells slots Z g) : W p l e R s m args below meth c H locs cells slots Z g := fun T hT X => k (by rw [← hT]; exact X.heapSize) T hT X
/-- behind a call -/
theorem am_call {pc : Nat} {ls : Array Slot} {rest st0 : List Value} {a : Array Value} {H : Heap} {locs : List Loc} {cells slots mc ms : Nat} {Z : State → Prop} {Q : aQ}
    (hr : va_Run p l e R s m args below meth c H locs cells slots mc ms (F0 m pc ls st0) rest (qcA D cA E Q a) (aA E.1)) (hS : va_S (aA E.1) s.heap H locs)
    (kk : ∀ (r : Option Value) (M : aM) (N : aN) (P : aP) (nx : Nat) (H1 : Heap) (locs1 : List Loc), Q r M N P nx → relH D cA E.1 M N P nx H1 → va_S (aA E.1) s.heap H1 locs1 → W p l e R s m args below meth c H1 locs1 (cells + mc) (slots + ms) Z (F0 m (pc + 3) ls ((r.map (rv E)).toList ++ rest))) : W p l e R s m args below meth c H locs cells slots Z (F0 m pc ls st0) := by
  intro T hT X
  obtain ⟨v, st₀, t, T', L, h0, X', hL, e1, e2, ⟨⟨r, M, N, P, nx, hv, hQ, hR⟩, hz, hk⟩, st⟩ := hr T hT X
  cases hv
  rw [h0] at hz hk
  obtain ⟨t2, a1, b1⟩ := kk r M N P nx T'.heap (locs ++ L) hQ (by rw [e1]; exact hR) ⟨Nat.le_trans hS.1 (by rw [e1]; exact hz), fun q h1 h2 => by rw [e1, hk q (Nat.lt_of_lt_of_le h1 hS.1) h2]; exact hS.2.1 q h1 h2, fun q hq => by
      rcases List.mem_append.mp hq with h | h
      · exact hS.2.2 q h
      · exact hL q h⟩ T' rfl X'
  exact ⟨t2, st t2 a1, b1⟩
theorem nar_Z {x : Int32} (h : okZ x) : narrow .boolean (.int x) = .int x := by
  rcases h with h | h <;> rw [h] <;> decide +kernel
theorem narZ' {x : Int32} (h : okZ x) : vp_nar .boolean x = x := by
  unfold vp_nar
  rw [nar_Z h]
theorem in_A {i : Int32} {k n : Nat} (hi : i = nI k) (hk : k < n) (hn : n ≤ 1068) : vp_in i n ∧ i.toNatClampNeg = k := by
  subst hi
  exact ⟨vp_in_nI hk (by omega), nI_clamp (by omega)⟩
theorem k8_eq (n : Int) : k8 n = (Int8.ofInt n).toInt32 := by
  match n with
  | .ofNat k =>
    show (bif Nat.blt k 128 then nI k else _) = _
    cases h : Nat.blt k 128 with
    | false => rfl
    | true =>
      have : ∀ k, k < 128 → nI k = (Int8.ofInt (.ofNat k)).toInt32 := by decide +kernel
      exact this k (by simpa using h)
  | .negSucc 0 => rfl
  | .negSucc 1 => decide +kernel
  | .negSucc (k + 2) => rfl
theorem k16_eq (n : Int) : k16 n = (Int16.ofInt n).toInt32 := by
  match n with
  | .ofNat k =>
    show (bif Nat.blt k 32768 then nI k else _) = _
    cases h : Nat.blt k 32768 with
    | false => rfl
    | true =>
      have hk : k < 32768 := by simpa using h
      show nI k = _
      apply Int32.toInt_inj.mp
      rw [nI_toInt (by omega), Int16.toInt_toInt32, Int16.toInt_ofInt]
      show (k : Int) = Int.bmod k _
      rw [Int.bmod_eq_of_le] <;> simp [Int16.size] <;> omega
  | .negSucc k => rfl
theorem jmp_el {pc : Nat} {off : Int} {k : Nat → Prop} (h : jmp pc off k) : ∃ t : Nat, (pc : Int) + off = (t : Int) ∧ k t := by
  unfold jmp at h
  split at h
  · rename_i t ht
    exact ⟨t, ht, h⟩
  · exact h.elim
theorem kI_toInt {n : Int} (h1 : -1000 ≤ n) (h2 : n ≤ 1000) : (kI n).toInt = n := by
  rw [kI_eq, Int32.toInt_ofInt, Int.bmod_eq_of_le] <;> simp [Int32.size] <;> omega
end SND
end
section
/-! one instruction: the machine follows stepI -/
theorem ca_no217 : ∀ l ∈ callsL, ∀ e ∈ l, e.2 ≠ 217 := by decide +kernel
theorem ca_217 {own idx : Nat} (h : callOf own idx = some 217) : False := by
  have hm := lkN_mem h
  rw [List.getD_eq_getElem?_getD] at hm
  cases hg : callsL[own]? with
  | none => rw [hg] at hm; exact absurd hm List.not_mem_nil
  | some l => rw [hg] at hm; exact ca_no217 l (List.mem_of_getElem? hg) _ hm rfl
theorem oName_cl : ∀ (ci : Nat) (q : vw_C), vwCl[ci]? = some q → q.1 = oName ci := by
  intro ci q h
  match ci, h with
  | 0, h => cases h; rfl
  | 1, h => cases h; rfl
  | 2, h => cases h; rfl
  | 3, h => cases h; rfl
  | 4, h => cases h; rfl
  | 5, h => cases h; rfl
  | 6, h => cases h; rfl
  | 7, h => cases h; rfl
  | k + 8, h => simp [vwCl] at h
theorem mMaxL_le : ∀ q, mMaxL q ≤ 20 := by
  intro q
  unfold mMaxL
  rw [List.getD_eq_getElem?_getD]
  cases h : mMaxLs[q]? with
  | none => decide
  | some v =>
    have : ∀ v ∈ mMaxLs, v ≤ 20 := by decide +kernel
    exact this v (List.mem_of_getElem? h)
theorem cl_some {ci : Nat} (h : ci < 8) : ∃ q, vwCl[ci]? = some q := ⟨vwCl[ci], List.getElem?_eq_getElem (by simpa using h)⟩
theorem okO_cl {nx o ci : Nat} (h : okO nx o ci) : ∃ q, vwCl[ci]? = some q := by
  have h4 := kind_lt h.1 (by decide)
  have := kind_cl o h4 (by rw [h.1])
  rw [h.1] at this
  exact cl_some this
/-- what holds all through a body -/
def cxA (p : Program) (R : Room) (s : State) (m : MethodId) (args : Array Value) (meth : Method) (c : Code) (D : va_G) (cA : Nat → ClassId) (E : aE) (Ev : State → Heap → Prop) (G : aG) (j lim n0 d : Nat) : Prop :=
  p.tables.exec = Jvm.exec ∧ c.code = mCode j ∧ c.maxLocals = mMaxL j ∧ s.vm.findClass (oName (mOwn j)) = some m.cls ∧ (∀ w ∈ gtbl, w.before args s = true) ∧ (mKind j = 2 → meth.name = "<init>") ∧ Ev s s.heap ∧ evOK (aA E.1) Ev ∧ evHas D cA E Ev ∧ E.1 ≤ s.heap.size ∧ d + 1 ≤ R.frames ∧ 128 * (d + 1) ≤ R.locals ∧ lim - n0 ≤ R.cells ∧ 1068 * (lim - n0) ≤ R.slots ∧ (n0 ≤ 44 → s.heap.size = E.1 + n0) ∧ (j = 217 → va_X E.2.1 G.1 G.2 s s.heap ∧ E.2.1 < s.heap.size ∧ ¬ aA E.1 E.2.1)
section STP
variable {p : Program} {l : Launch} {e : Env} {R : Room} {s : State} {m : MethodId} {args : Array Value} {below : List Frame} {meth : Method} {c : Code} {D : va_G} {cA : Nat → ClassId} {E : aE} {Ev : State → Heap → Prop} {G : aG} {j lim n0 d : Nat} {Z : State → Prop}
/-- a callee's contract -/
def clA (l : Launch) (D : va_G) (cA : Nat → ClassId) (E : aE) (Ev : State → Heap → Prop) (d : Nat) (C : aC) : Prop := ∀ q as M N P nx Q, (q < 216 ∧ q ≠ 96) ∨ (217 < q ∧ q < 221) → C q as M N P nx Q → metA l D cA E Ev d q as M N P nx (fun r M' N' P' nx' => nx' = nx + mC q ∧ Q r M' N' P' nx')
theorem ev_at (hcx : cxA p R s m args meth c D cA E Ev G j lim n0 d) {H : Heap} {locs : List Loc} (hS : va_S (aA E.1) s.heap H locs) : Ev s H := by
  obtain ⟨-, -, -, -, -, -, h1, h2, -⟩ := hcx
  exact h2.2 s _ _ hS.1 hS.2.1 h1
theorem size_at (hcx : cxA p R s m args meth c D cA E Ev G j lim n0 d) {H : Heap} {locs : List Loc} (hS : va_S (aA E.1) s.heap H locs) {M : aM} {N : aN} {P : aP} {nx : Nat} (hR : relH D cA E.1 M N P nx H) (h0 : n0 ≤ nx) (hsz : H.size ≤ s.heap.size + (nx - n0)) : nx ≤ 44 → H.size = E.1 + nx := by
  intro h4
  obtain ⟨-, -, -, -, -, -, -, -, -, q, -, -, -, -, hz, -⟩ := id hcx
  have h1 := hz (by omega)
  have h2 : E.1 + nx ≤ H.size := by
    cases nx with
    | zero => exact Nat.le_trans q hS.1
    | succ k =>
      have := (hR k _ (wsW_get (by omega) (by omega))).lt
      show E.1 + (k + 1) ≤ H.size
      omega
  omega
theorem pre_at (hcx : cxA p R s m args meth c D cA E Ev G j lim n0 d) {H : Heap} {locs : List Loc} (hS : va_S (aA E.1) s.heap H locs) {as : List Value} {M : aM} {N : aN} {P : aP} {nx : Nat} (hR : relH D cA E.1 M N P nx H) (h0 : n0 ≤ nx) (hsz : H.size ≤ s.heap.size + (nx - n0)) : ∀ U : State, U.heap = H → s.WarmedH U.vm → pcA D cA E Ev as M N P nx (as.map (rv E)).toArray U := by
  intro U hU hW
  have hs := size_at hcx hS hR h0 hsz
  refine ⟨rfl, by rw [hU]; exact hR, by rw [hU]; exact hs, by rw [hU]; obtain ⟨-, -, -, -, -, -, -, -, -, q, -⟩ := id hcx; exact Nat.le_trans q hS.1, ?_⟩
  rw [hU]
  obtain ⟨-, -, -, -, -, -, h1, h2, -⟩ := id hcx
  exact h2.1 s U H hW (ev_at hcx hS)
theorem room_A {q : Nat} (hcx : cxA p R s m args meth c D cA E Ev G j lim n0 d) : (rmA d q).frames + 1 ≤ R.frames ∧ 8 + (mMaxL q + 11) + (rmA d q).locals ≤ R.locals := by
  obtain ⟨-, -, -, -, -, -, -, -, -, -, h1, h2, -⟩ := hcx
  refine ⟨h1, ?_⟩
  have := mMaxL_le q
  show 8 + (mMaxL q + 11) + 128 * d ≤ _
  omega
theorem goP_el {C : aC} {lim q : Nat} {K : List Value → aM → aN → aP → Nat → Prop} {st : List Value} {M : aM} {N : aN} {P : aP} {nx : Nat} (h : goP C lim q K st M N P nx) :
    ∃ as rest, st = as.reverse ++ rest ∧ as.length = mTake q ∧ catS rest ≤ 8 ∧ (mC q = 0 ∨ nx + mC q ≤ lim) ∧ C q as M N P nx (postP (mRet q) rest K) ∧ (st.take (mTake q)).reverse = as := by
  unfold goP at h
  cases hb : (Nat.ble (mTake q) st.length && Nat.ble (catS (st.drop (mTake q))) 8) with
  | false => rw [hb] at h; exact h.elim
  | true =>
    rw [hb] at h
    simp only [Bool.and_eq_true, Nat.ble_eq] at hb
    refine ⟨(st.take (mTake q)).reverse, st.drop (mTake q), by rw [List.reverse_reverse, List.take_append_drop], by rw [List.length_reverse, List.length_take]; omega, hb.2, ?_, ?_, rfl⟩
    · cases hc : mC q == 0 with
      | true => exact Or.inl (by simpa using hc)
      | false => rw [hc] at h; exact Or.inr h.1
    · cases hc : mC q == 0 with
      | true => rw [hc] at h; exact h
      | false => rw [hc] at h; exact h.2
/-- the call's end: the abstract machine goes on with what came -/
theorem am_back {q : Nat} {pc : Nat} {lv : aL} {ls : Array Slot} {rest : List Value} {st0 : List Value} {a : Array Value} {H : Heap} {locs : List Loc} {nx mc : Nat} {X : aX} (hX : ∀ t lv st M N P nx, X t lv st M N P nx → mpA p l e R s m args below meth c D cA E j lim n0 Z t lv st M N P nx)
    (hr : va_Run p l e R s m args below meth c H locs (nx - n0) (1068 * (nx - n0)) mc (1068 * mc) (F0 m pc ls st0) (rest.map (rv E)) (qcA D cA E (fun r M' N' P' nx' => nx' = nx + mc ∧ postP (mRet q) rest (fun st M N P nx => X (pc + 3) lv st M N P nx) r M' N' P' nx') a) (aA E.1)) (hS : va_S (aA E.1) s.heap H locs) (hl : lv_has ls (mMaxL j) (rl E lv)) (h0 : n0 ≤ nx) (h1 : nx + mc ≤ lim) : W p l e R s m args below meth c H locs (nx - n0) (1068 * (nx - n0)) Z (F0 m pc ls st0) := by
  refine am_call hr hS fun r M N P nx' H1 locs1 ⟨hn, hq⟩ hR hS1 => ?_
  subst hn
  rw [show nx - n0 + mc = nx + mc - n0 by omega, show 1068 * (nx - n0) + 1068 * mc = 1068 * (nx + mc - n0) by omega]
  cases hrt : mRet q with
  | none =>
    rw [hrt] at hq
    cases r with
    | none => exact hX _ _ _ _ _ _ _ hq H1 locs1 ls hR hS1 hl (by omega) h1
    | some v => exact False.elim (by cases v <;> exact hq)
  | some t =>
    rw [hrt] at hq
    cases r with
    | none => exact False.elim (by cases t <;> exact hq)
    | some v => cases t <;> cases v <;> first | exact False.elim hq | exact hX _ _ _ _ _ _ _ hq H1 locs1 ls hR hS1 hl (by omega) h1
theorem am_virt {C : aC} (hcx : cxA p R s m args meth c D cA E Ev G j lim n0 d) (hC : clA l D cA E Ev d C) {X : aX} (hX : ∀ t lv st M N P nx, X t lv st M N P nx → mpA p l e R s m args below meth c D cA E j lim n0 Z t lv st M N P nx) {q idx pc : Nat} {lv : aL} {st : List Value} {M : aM} {N : aN} {P : aP} {nx : Nat} (hca : callOf (mOwn j) idx = some q) (hq : q < 1000) (hk : mKind q = 0) (h96 : q ≠ 96)
    (h : callP C lim q (fun st M N P nx => X (pc + 3) lv st M N P nx) st M N P nx) (hd : decode (mCode j) pc = .ok (.invokevirtual idx, 3)) : mpA p l e R s m args below meth c D cA E j lim n0 Z pc lv st M N P nx := by
  intro H locs ls hR hS hl h0 hlim
  refine W_size fun hsz => ?_
  unfold callP at h
  rw [hk] at h
  have hT : mTake q = mArg q + 1 := by unfold mTake; rw [hk]; rfl
  have hq6 : q < 216 ∨ (217 < q ∧ q < 221) := by
    rcases ca_all hca with z | z | z | z | z | z
    · rcases (show q < 216 ∨ q = 216 ∨ q = 217 ∨ (217 < q ∧ q < 221) by omega) with y | y | y | y
      · exact Or.inl y
      · subst y; exact absurd hk (by decide)
      · subst y; exact (ca_217 hca).elim
      · exact Or.inr y
    · exact Or.inl z.1
    all_goals (exact absurd z.1 (by omega))
  have hM := mw_all q hq6
  have hlink : Cond.methodLink (oName (mOwn j)) idx (mName q) ∈ gtbl := by
    rcases ca_all hca with z | z | z | z | z | z
    · exact z.2
    · rw [hk] at z; exact absurd z.2.1 (by decide)
    all_goals (exact absurd z.1 (by omega))
  have h' : match (st.take (mTake q)).reverse with
    | .ref a :: _ => okO nx a (mOwn q) ∧ goP C lim q (fun st M N P nx => X (pc + 3) lv st M N P nx) st M N P nx
    | _ => False := h
  clear h
  split at h'
  case h_2 => exact h'.elim
  case h_1 o as' heq =>
  obtain ⟨hO, hgo⟩ := h'
  obtain ⟨as, rest, hst, hlen, hcat, hmc, hCq, has⟩ := goP_el hgo
  rw [heq] at has
  subst has
  have hmet := hC q _ _ _ _ _ _ (hq6.imp (fun z => ⟨z, h96⟩) id) hCq
  obtain ⟨hx, hb, hml, hown, hts, hin, hEv, hE1, hE2, hbs, hRf, hRl, hRc, hRs, hz0, -⟩ := id hcx
  obtain ⟨hcode, hcls, hini, hnm, hpl, hdesc, hk0, -⟩ := hM
  obtain ⟨him, hsel⟩ := hk0 hk
  obtain ⟨r, hr⟩ := okO_cl hO
  have hK := (hE2 s H (ev_at hcx hS)).1
  have hget := wsW_get (cA := cA) (bs := E.1) (M := M) (N := N) (P := P) hO.2 (kind_lt hO.1 (by decide))
  rw [ceW_obj hO.1] at hget
  have hstk : st.map (rv E) = (as'.map (rv E)).reverse ++ .ref (E.1 + o) :: rest.map (rv E) := by
    rw [hst]
    simp [rv]
  refine am_back (q := q) (a := (Value.ref (E.1 + o) :: as'.map (rv E)).toArray) (mc := mC q) (rest := rest) hX ?_ hS hl h0 (by rcases hmc with z | z <;> omega)
  refine va_runV (Ts := gtbl) (own := oName (mOwn j)) (C := oName (mOwn q)) (index := idx) (n := mArg q) (nL := mMaxL j) (As := as'.map (rv E)) (b := E.1 + o) ⟨hx, hb, hml, hown, hts⟩ hmet (cwV (mArg q) hts (good_A (fun w h => h) ?_) rfl rfl rfl ⟨hcls, by rw [hcls]; exact hnm.1, by rw [hcls]; exact hnm.2, hdesc⟩ (room_A hcx)) ⟨pcA_blind hE1, ?_, pre_at hcx hS hR h0 hsz⟩ rfl ?_ hl.1 hstk ?_ hd ⟨by rcases hmc with z | z <;> omega, by rcases hmc with z | z <;> omega⟩
  · intro w hw
    simp only [wsV, List.cons_append, List.nil_append, List.mem_cons] at hw
    rcases hw with rfl | rfl | rfl | rfl | hw
    · exact hlink
    · exact him
    · exact hsel
    · exact hini
    · exact wsA_in (mw_all q hq6) w hw
  · have := va_recv hK hR hr hget
    rw [oName_cl _ _ hr] at this
    exact this
  · rw [List.length_map]
    rw [List.length_cons] at hlen
    omega
  · exact lv_room (by rw [catS_eq]; exact hcat)
theorem am_stat {C : aC} (hcx : cxA p R s m args meth c D cA E Ev G j lim n0 d) (hC : clA l D cA E Ev d C) {X : aX} (hX : ∀ t lv st M N P nx, X t lv st M N P nx → mpA p l e R s m args below meth c D cA E j lim n0 Z t lv st M N P nx) {q idx pc : Nat} {lv : aL} {st : List Value} {M : aM} {N : aN} {P : aP} {nx : Nat} (hca : callOf (mOwn j) idx = some q) (hq : q < 1000) (hk : mKind q = 1) (h6 : q ≠ 216)
    (h : callP C lim q (fun st M N P nx => X (pc + 3) lv st M N P nx) st M N P nx) (hd : decode (mCode j) pc = .ok (.invokestatic idx, 3)) : mpA p l e R s m args below meth c D cA E j lim n0 Z pc lv st M N P nx := by
  intro H locs ls hR hS hl h0 hlim
  refine W_size fun hsz => ?_
  unfold callP at h
  rw [hk] at h
  have hT : mTake q = mArg q := by unfold mTake; rw [hk]; rfl
  have hq6 : q < 216 ∨ (217 < q ∧ q < 221) := by
    rcases ca_all hca with z | z | z | z | z | z
    · rcases (show q < 216 ∨ q = 216 ∨ q = 217 ∨ (217 < q ∧ q < 221) by omega) with y | y | y | y
      · exact Or.inl y
      · exact absurd y h6
      · subst y; exact (ca_217 hca).elim
      · exact Or.inr y
    · exact Or.inl z.1
    all_goals (exact absurd z.1 (by omega))
  have hM := mw_all q hq6
  have hlink : Cond.methodLink (oName (mOwn j)) idx (mName q) ∈ gtbl := by
    rcases ca_all hca with z | z | z | z | z | z
    · exact z.2
    · rw [hk] at z; exact absurd z.2.1 (by decide)
    all_goals (exact absurd z.1 (by omega))
  have hgo : goP C lim q (fun st M N P nx => X (pc + 3) lv st M N P nx) st M N P nx := h
  obtain ⟨as, rest, hst, hlen, hcat, hmc, hCq, -⟩ := goP_el hgo
  have hmet := hC q _ _ _ _ _ _ (hq6.imp (fun z => ⟨z, fun y => by subst y; exact absurd hk (by decide)⟩) id) hCq
  obtain ⟨hx, hb, hml, hown, hts, hin, hEv, hE1, hE2, hbs, hRf, hRl, hRc, hRs, hz0, -⟩ := id hcx
  obtain ⟨hcode, hcls, hini, hnm, hpl, hdesc, -, hk1, -⟩ := hM
  have hstt := hk1 hk
  have hstk : st.map (rv E) = (as.map (rv E)).reverse ++ rest.map (rv E) := by
    rw [hst]
    simp
  refine am_back (q := q) (a := (as.map (rv E)).toArray) (mc := mC q) (rest := rest) hX ?_ hS hl h0 (by rcases hmc with z | z <;> omega)
  refine va_runS (Ts := gtbl) (own := oName (mOwn j)) (index := idx) (n := mArg q) (nL := mMaxL j) (As := as.map (rv E)) ⟨hx, hb, hml, hown, hts⟩ hmet (va_cwS (mArg q) hts (good_A (fun w h => h) ?_) rfl rfl rfl ⟨by rw [hcls]; exact hnm.1, by rw [hcls]; exact hnm.2, hdesc⟩ (room_A hcx)) ⟨pcA_blind hE1, pre_at hcx hS hR h0 hsz⟩ rfl ?_ hl.1 hstk ?_ hd ⟨by rcases hmc with z | z <;> omega, by rcases hmc with z | z <;> omega⟩
  · intro w hw
    simp only [va_wsS, List.cons_append, List.nil_append, List.mem_cons] at hw
    rcases hw with rfl | rfl | rfl | hw
    · exact hlink
    · exact hstt
    · rw [hcls]; exact hini
    · exact wsA_in (mw_all q hq6) w hw
  · rw [List.length_map]
    omega
  · exact lv_room (by rw [catS_eq]; exact hcat)
theorem am_spec {C : aC} (hcx : cxA p R s m args meth c D cA E Ev G j lim n0 d) (hC : clA l D cA E Ev d C) {X : aX} (hX : ∀ t lv st M N P nx, X t lv st M N P nx → mpA p l e R s m args below meth c D cA E j lim n0 Z t lv st M N P nx) {q idx pc : Nat} {lv : aL} {st : List Value} {M : aM} {N : aN} {P : aP} {nx : Nat} (hca : callOf (mOwn j) idx = some q) (hq : q < 1000) (hk : mKind q = 2)
    (h : callP C lim q (fun st M N P nx => X (pc + 3) lv st M N P nx) st M N P nx) (hd : decode (mCode j) pc = .ok (.invokespecial idx, 3)) : mpA p l e R s m args below meth c D cA E j lim n0 Z pc lv st M N P nx := by
  intro H locs ls hR hS hl h0 hlim
  refine W_size fun hsz => ?_
  unfold callP at h
  rw [hk] at h
  have hT : mTake q = mArg q + 1 := by unfold mTake; rw [hk]; rfl
  have hq6 : q < 216 ∨ (217 < q ∧ q < 221) := by
    rcases ca_all hca with z | z | z | z | z | z
    · rcases (show q < 216 ∨ q = 216 ∨ q = 217 ∨ (217 < q ∧ q < 221) by omega) with y | y | y | y
      · exact Or.inl y
      · subst y; exact absurd hk (by decide)
      · subst y; exact (ca_217 hca).elim
      · exact Or.inr y
    · exact Or.inl z.1
    all_goals (exact absurd z.1 (by omega))
  have hM := mw_all q hq6
  have h' : match (st.take (mTake q)).reverse with
    | .ref a :: _ => okO nx a (mOwn q) ∧ goP C lim q (fun st M N P nx => X (pc + 3) lv st M N P nx) st M N P nx
    | _ => False := h
  clear h
  split at h'
  case h_2 => exact h'.elim
  case h_1 o as' heq =>
  obtain ⟨hO, hgo⟩ := h'
  obtain ⟨as, rest, hst, hlen, hcat, hmc, hCq, has⟩ := goP_el hgo
  rw [heq] at has
  subst has
  have hmet := hC q _ _ _ _ _ _ (hq6.imp (fun z => ⟨z, fun y => by subst y; exact absurd hk (by decide)⟩) id) hCq
  obtain ⟨hx, hb, hml, hown, hts, hin, hEv, hE1, hE2, hbs, hRf, hRl, hRc, hRs, hz0, -⟩ := id hcx
  obtain ⟨hcode, hcls, hini, hnm, hpl, hdesc, -, -, hk2, -⟩ := hM
  obtain ⟨him, hname⟩ := hk2 hk
  have hret : mRet q = none := by
    have : ∀ q, q < 221 → mKind q = 2 → mRet q = none := by decide +kernel
    exact this q (by omega) hk
  have hstk : st.map (rv E) = (as'.map (rv E)).reverse ++ .ref (E.1 + o) :: rest.map (rv E) := by
    rw [hst]
    simp [rv]
  have hlen' : (as'.map (rv E)).length = mArg q := by
    rw [List.length_map]
    rw [List.length_cons] at hlen
    omega
  refine am_back (q := q) (a := (Value.ref (E.1 + o) :: as'.map (rv E)).toArray) (mc := mC q) (rest := rest) hX ?_ hS hl h0 (by rcases hmc with z | z <;> omega)
  have hf : nx - n0 + mC q ≤ R.cells ∧ 1068 * (nx - n0) + 1068 * mC q ≤ R.slots := ⟨by rcases hmc with z | z <;> omega, by rcases hmc with z | z <;> omega⟩
  have hw : wsA q = Cond.code (mName q) (mCode q) (mMaxL q) none :: gtbl := by unfold wsA; rw [hret]
  have hG : GoodIn gtbl (wsA q) := good_A (fun w h => h) (wsA_in (mw_all q hq6))
  have hini' : (Cond.initialized (mName q).cls).before args s = true := by rw [hcls]; exact hts _ hini
  rcases ca_all hca with z | z | z | z | z | z
  · exact va_runI (Ts := gtbl) (own := oName (mOwn j)) (index := idx) (n := mArg q) (nL := mMaxL j) (As := as'.map (rv E)) (b := E.1 + o) ⟨hx, hb, hml, hown, hts⟩ hmet (cwI (mArg q) hts hG hw rfl rfl hini' (hts _ z.2) (hts _ him) hname ⟨by rw [hcls]; exact hnm.1, by rw [hcls]; exact hnm.2, hdesc⟩ (room_A hcx)) ⟨pcA_blind hE1, pre_at hcx hS hR h0 hsz⟩ rfl hlen' hl.1 hstk (lv_room (by rw [catS_eq]; exact hcat)) hd hf
  · exact va_runIN (Ts := gtbl) (own := oName (mOwn j)) (index := idx) (n := mArg q) (nL := mMaxL j) (host := "RenvoiDesk") (As := as'.map (rv E)) (b := E.1 + o) ⟨hx, hb, hml, hown, hts⟩ hmet ⟨va_cnB (mArg q) hts hG hw rfl rfl ((hE2 s H (ev_at hcx hS)).2.1 _ z.2.2) hini' ⟨by rw [hcls]; exact hnm.1, by rw [hcls]; exact hnm.2, hdesc⟩ (room_A hcx), hname, hts _ him⟩ ⟨pcA_blind hE1, pre_at hcx hS hR h0 hsz⟩ rfl hlen' hl.1 hstk (lv_room (by rw [catS_eq]; exact hcat)) hd hf
  all_goals (exact absurd z.1 (by omega))
end STP
end
section
/-! THE MACHINE FOLLOWS stepI (by wip/whole/tools/gen33.py) -/
def tyOK : FieldType → Bool
  | .int | .long | .object _ | .array _ => true
  | _ => false
theorem ty_all : ∀ ci, ci < 8 → ∀ k, k < nF ci → tyOK (cTy ci k) = true := by decide +kernel
theorem swT_el {x : Int32} {K : Int → Prop} {d : Int} : ∀ (l : List Int) (lo : Int), -1000 ≤ lo → lo + (l.length : Int) ≤ 1001 → swT x K d lo l → (∀ k : Nat, x.toInt = lo + k → k < l.length → ∃ off, l[k]? = some off ∧ K off) ∧ ((x.toInt < lo ∨ lo + (l.length : Int) ≤ x.toInt) → K d)
  | [], lo, _, _, h => ⟨fun k _ hk => by simp at hk, fun _ => h⟩
  | o :: t, lo, h1, h2, h => by
    rw [List.length_cons] at h2
    by_cases hx : x = kI lo
    · have hxi : x.toInt = lo := by rw [hx]; exact kI_toInt h1 (by omega)
      refine ⟨fun k hk _ => ?_, fun hk => ?_⟩
      · have : k = 0 := by omega
        subst this
        exact ⟨o, rfl, h.1 hx⟩
      · rw [List.length_cons] at hk
        omega
    · have hne : ¬ x.toInt = lo := fun q => hx (Int32.toInt_inj.mp (by rw [kI_toInt h1 (by omega)]; exact q))
      obtain ⟨a, b⟩ := swT_el t (lo + 1) (by omega) (by omega) (h.2 hx)
      refine ⟨fun k hk hl => ?_, fun hk => b ?_⟩
      · cases k with
        | zero => exact absurd (by simpa using hk) hne
        | succ k =>
          rw [List.length_cons] at hl
          obtain ⟨off, e1, e2⟩ := a k (by omega) (by omega)
          exact ⟨off, e1, e2⟩
      · rw [List.length_cons] at hk
        omega
theorem swL_el {x : Int32} {K : Int → Prop} {d : Int} : ∀ (l : List (Int × Int)), (l.all (fun q => decide (-1000 ≤ q.1) && decide (q.1 ≤ 1000))) = true → swL x K d l → K (Op.lookupswitch.offset l d x.toInt)
  | [], _, h => h
  | (a, o) :: t, hb, h => by
    rw [List.all_cons, Bool.and_eq_true, Bool.and_eq_true, decide_eq_true_eq, decide_eq_true_eq] at hb
    by_cases hx : x = kI a
    · rw [Op.lookupswitch.offset_cons, if_pos (by rw [hx]; exact (kI_toInt hb.1.1 hb.1.2).symm)]
      exact h.1 hx
    · rw [lv_osw hx (kI_toInt hb.1.1 hb.1.2)]
      exact swL_el t hb.2 (h.2 hx)
section INS
variable {p : Program} {l : Launch} {e : Env} {R : Room} {s : State} {m : MethodId} {args : Array Value} {below : List Frame} {meth : Method} {c : Code} {D : va_G} {cA : Nat → ClassId} {E : aE} {Ev : State → Heap → Prop} {G : aG} {j lim n0 d : Nat} {Z : State → Prop}
theorem am_iconst (hcx : cxA p R s m args meth c D cA E Ev G j lim n0 d) {C : aC} {Q : aQ} {X : aX} (hX : ∀ t lv st M N P nx, X t lv st M N P nx → mpA p l e R s m args below meth c D cA E j lim n0 Z t lv st M N P nx) {pc len : Nat} {lv : aL} {st : List Value} {M : aM} {N : aN} {P : aP} {nx : Nat} {n : Int} (hd : decode (mCode j) pc = .ok (.iconst n, len)) (hlen : okLen (.iconst n) len = true) (h : stepI C G j lim Q X pc len (.iconst n) lv st M N P nx) : mpA p l e R s m args below meth c D cA E j lim n0 Z pc lv st M N P nx := by
  intro H locs ls hR hS hl h0 hlim
  obtain ⟨hx, hb, hml, hown, hts, hin, hEv, hE1, hE2, hbs, hRf, hRl, hRc, hRs, hz0, hG⟩ := id hcx
  have hlen2 : len = 1 := by simpa [okLen] using hlen
  subst hlen2
  exact lv_iconst hx hb hd (kI_eq n).symm (hX _ _ _ _ _ _ _ h H locs ls hR hS hl h0 hlim)
theorem am_bipush (hcx : cxA p R s m args meth c D cA E Ev G j lim n0 d) {C : aC} {Q : aQ} {X : aX} (hX : ∀ t lv st M N P nx, X t lv st M N P nx → mpA p l e R s m args below meth c D cA E j lim n0 Z t lv st M N P nx) {pc len : Nat} {lv : aL} {st : List Value} {M : aM} {N : aN} {P : aP} {nx : Nat} {n : Int} (hd : decode (mCode j) pc = .ok (.bipush n, len)) (hlen : okLen (.bipush n) len = true) (h : stepI C G j lim Q X pc len (.bipush n) lv st M N P nx) : mpA p l e R s m args below meth c D cA E j lim n0 Z pc lv st M N P nx := by
  intro H locs ls hR hS hl h0 hlim
  obtain ⟨hx, hb, hml, hown, hts, hin, hEv, hE1, hE2, hbs, hRf, hRl, hRc, hRs, hz0, hG⟩ := id hcx
  have hlen2 : len = 2 := by simpa [okLen] using hlen
  subst hlen2
  exact lv_bipush hx hb hd (k8_eq n).symm (hX _ _ _ _ _ _ _ h H locs ls hR hS hl h0 hlim)
theorem am_sipush (hcx : cxA p R s m args meth c D cA E Ev G j lim n0 d) {C : aC} {Q : aQ} {X : aX} (hX : ∀ t lv st M N P nx, X t lv st M N P nx → mpA p l e R s m args below meth c D cA E j lim n0 Z t lv st M N P nx) {pc len : Nat} {lv : aL} {st : List Value} {M : aM} {N : aN} {P : aP} {nx : Nat} {n : Int} (hd : decode (mCode j) pc = .ok (.sipush n, len)) (hlen : okLen (.sipush n) len = true) (h : stepI C G j lim Q X pc len (.sipush n) lv st M N P nx) : mpA p l e R s m args below meth c D cA E j lim n0 Z pc lv st M N P nx := by
  intro H locs ls hR hS hl h0 hlim
  obtain ⟨hx, hb, hml, hown, hts, hin, hEv, hE1, hE2, hbs, hRf, hRl, hRc, hRs, hz0, hG⟩ := id hcx
  have hlen2 : len = 3 := by simpa [okLen] using hlen
  subst hlen2
  exact lv_sipush hx hb hd (k16_eq n).symm (hX _ _ _ _ _ _ _ h H locs ls hR hS hl h0 hlim)
theorem am_lconst (hcx : cxA p R s m args meth c D cA E Ev G j lim n0 d) {C : aC} {Q : aQ} {X : aX} (hX : ∀ t lv st M N P nx, X t lv st M N P nx → mpA p l e R s m args below meth c D cA E j lim n0 Z t lv st M N P nx) {pc len : Nat} {lv : aL} {st : List Value} {M : aM} {N : aN} {P : aP} {nx : Nat} {n : Fin 2} (hd : decode (mCode j) pc = .ok (.lconst n, len)) (hlen : okLen (.lconst n) len = true) (h : stepI C G j lim Q X pc len (.lconst n) lv st M N P nx) : mpA p l e R s m args below meth c D cA E j lim n0 Z pc lv st M N P nx := by
  intro H locs ls hR hS hl h0 hlim
  obtain ⟨hx, hb, hml, hown, hts, hin, hEv, hE1, hE2, hbs, hRf, hRl, hRc, hRs, hz0, hG⟩ := id hcx
  have hlen2 : len = 1 := by simpa [okLen] using hlen
  subst hlen2
  exact lv_lconst hx hb hd rfl (hX _ _ _ _ _ _ _ h H locs ls hR hS hl h0 hlim)
theorem am_ldc2_w (hcx : cxA p R s m args meth c D cA E Ev G j lim n0 d) {C : aC} {Q : aQ} {X : aX} (hX : ∀ t lv st M N P nx, X t lv st M N P nx → mpA p l e R s m args below meth c D cA E j lim n0 Z t lv st M N P nx) {pc len : Nat} {lv : aL} {st : List Value} {M : aM} {N : aN} {P : aP} {nx : Nat} {n : Nat} (hd : decode (mCode j) pc = .ok (.ldc2_w n, len)) (hlen : okLen (.ldc2_w n) len = true) (h : stepI C G j lim Q X pc len (.ldc2_w n) lv st M N P nx) : mpA p l e R s m args below meth c D cA E j lim n0 Z pc lv st M N P nx := by
  intro H locs ls hR hS hl h0 hlim
  obtain ⟨hx, hb, hml, hown, hts, hin, hEv, hE1, hE2, hbs, hRf, hRl, hRc, hRs, hz0, hG⟩ := id hcx
  have hlen2 : len = 3 := by simpa [okLen] using hlen
  subst hlen2
  unfold stepI at h
  dsimp only at h
  split at h
  case h_1 v hv => exact lv_ldc2 hx hb hown (hts _ (la_all hv)) hd (hX _ _ _ _ _ _ _ h H locs ls hR hS hl h0 hlim)
  case h_2 => exact h.elim
theorem am_ldc_w (hcx : cxA p R s m args meth c D cA E Ev G j lim n0 d) {C : aC} {Q : aQ} {X : aX} (hX : ∀ t lv st M N P nx, X t lv st M N P nx → mpA p l e R s m args below meth c D cA E j lim n0 Z t lv st M N P nx) {pc len : Nat} {lv : aL} {st : List Value} {M : aM} {N : aN} {P : aP} {nx : Nat} {n : Nat} (hd : decode (mCode j) pc = .ok (.ldc_w n, len)) (hlen : okLen (.ldc_w n) len = true) (h : stepI C G j lim Q X pc len (.ldc_w n) lv st M N P nx) : mpA p l e R s m args below meth c D cA E j lim n0 Z pc lv st M N P nx := by
  intro H locs ls hR hS hl h0 hlim
  obtain ⟨hx, hb, hml, hown, hts, hin, hEv, hE1, hE2, hbs, hRf, hRl, hRc, hRs, hz0, hG⟩ := id hcx
  have hlen2 : len = 3 := by simpa [okLen] using hlen
  subst hlen2
  unfold stepI at h
  dsimp only at h
  split at h
  case h_1 v hv => exact lv_ldcw hx hb hown (hts _ (ia_all hv)) hd (hX _ _ _ _ _ _ _ h H locs ls hR hS hl h0 hlim)
  case h_2 => exact h.elim
theorem am_ldc (hcx : cxA p R s m args meth c D cA E Ev G j lim n0 d) {C : aC} {Q : aQ} {X : aX} (hX : ∀ t lv st M N P nx, X t lv st M N P nx → mpA p l e R s m args below meth c D cA E j lim n0 Z t lv st M N P nx) {pc len : Nat} {lv : aL} {st : List Value} {M : aM} {N : aN} {P : aP} {nx : Nat} {n : Nat} (hd : decode (mCode j) pc = .ok (.ldc n, len)) (hlen : okLen (.ldc n) len = true) (h : stepI C G j lim Q X pc len (.ldc n) lv st M N P nx) : mpA p l e R s m args below meth c D cA E j lim n0 Z pc lv st M N P nx := by
  intro H locs ls hR hS hl h0 hlim
  obtain ⟨hx, hb, hml, hown, hts, hin, hEv, hE1, hE2, hbs, hRf, hRl, hRc, hRs, hz0, hG⟩ := id hcx
  have hlen2 : len = 2 := by simpa [okLen] using hlen
  subst hlen2
  unfold stepI at h
  dsimp only at h
  split at h
  case h_1 k hk => exact va_ldcS hx hb hown ((hE2 s H (ev_at hcx hS)).2.2 _ _ _ hk) hd (hX _ _ _ _ _ _ _ h H locs ls hR hS hl h0 hlim)
  case h_2 => exact h.elim
theorem am_iload (hcx : cxA p R s m args meth c D cA E Ev G j lim n0 d) {C : aC} {Q : aQ} {X : aX} (hX : ∀ t lv st M N P nx, X t lv st M N P nx → mpA p l e R s m args below meth c D cA E j lim n0 Z t lv st M N P nx) {pc len : Nat} {lv : aL} {st : List Value} {M : aM} {N : aN} {P : aP} {nx : Nat} {n : Nat} (hd : decode (mCode j) pc = .ok (.iload n, len)) (hlen : okLen (.iload n) len = true) (h : stepI C G j lim Q X pc len (.iload n) lv st M N P nx) : mpA p l e R s m args below meth c D cA E j lim n0 Z pc lv st M N P nx := by
  intro H locs ls hR hS hl h0 hlim
  obtain ⟨hx, hb, hml, hown, hts, hin, hEv, hE1, hE2, hbs, hRf, hRl, hRc, hRs, hz0, hG⟩ := id hcx
  have hlen2 : len = 2 := by simpa [okLen] using hlen
  subst hlen2
  unfold stepI ldi at h
  dsimp only at h
  split at h
  case h_1 x hg => exact lv_iload hx hb hd (lh_get hl hg) (hX _ _ _ _ _ _ _ h H locs ls hR hS hl h0 hlim)
  case h_2 => exact h.elim
theorem am_iload_n (hcx : cxA p R s m args meth c D cA E Ev G j lim n0 d) {C : aC} {Q : aQ} {X : aX} (hX : ∀ t lv st M N P nx, X t lv st M N P nx → mpA p l e R s m args below meth c D cA E j lim n0 Z t lv st M N P nx) {pc len : Nat} {lv : aL} {st : List Value} {M : aM} {N : aN} {P : aP} {nx : Nat} {n : Fin 4} (hd : decode (mCode j) pc = .ok (.iload_n n, len)) (hlen : okLen (.iload_n n) len = true) (h : stepI C G j lim Q X pc len (.iload_n n) lv st M N P nx) : mpA p l e R s m args below meth c D cA E j lim n0 Z pc lv st M N P nx := by
  intro H locs ls hR hS hl h0 hlim
  obtain ⟨hx, hb, hml, hown, hts, hin, hEv, hE1, hE2, hbs, hRf, hRl, hRc, hRs, hz0, hG⟩ := id hcx
  have hlen2 : len = 1 := by simpa [okLen] using hlen
  subst hlen2
  unfold stepI ldi at h
  dsimp only at h
  split at h
  case h_1 x hg => exact lv_iload_n hx hb hd rfl (lh_get hl hg) (hX _ _ _ _ _ _ _ h H locs ls hR hS hl h0 hlim)
  case h_2 => exact h.elim
theorem am_lload (hcx : cxA p R s m args meth c D cA E Ev G j lim n0 d) {C : aC} {Q : aQ} {X : aX} (hX : ∀ t lv st M N P nx, X t lv st M N P nx → mpA p l e R s m args below meth c D cA E j lim n0 Z t lv st M N P nx) {pc len : Nat} {lv : aL} {st : List Value} {M : aM} {N : aN} {P : aP} {nx : Nat} {n : Nat} (hd : decode (mCode j) pc = .ok (.lload n, len)) (hlen : okLen (.lload n) len = true) (h : stepI C G j lim Q X pc len (.lload n) lv st M N P nx) : mpA p l e R s m args below meth c D cA E j lim n0 Z pc lv st M N P nx := by
  intro H locs ls hR hS hl h0 hlim
  obtain ⟨hx, hb, hml, hown, hts, hin, hEv, hE1, hE2, hbs, hRf, hRl, hRc, hRs, hz0, hG⟩ := id hcx
  have hlen2 : len = 2 := by simpa [okLen] using hlen
  subst hlen2
  unfold stepI ldl at h
  dsimp only at h
  split at h
  case h_1 x hg => exact lv_lload hx hb hd (lh_get hl hg) (hX _ _ _ _ _ _ _ h H locs ls hR hS hl h0 hlim)
  case h_2 => exact h.elim
theorem am_lload_n (hcx : cxA p R s m args meth c D cA E Ev G j lim n0 d) {C : aC} {Q : aQ} {X : aX} (hX : ∀ t lv st M N P nx, X t lv st M N P nx → mpA p l e R s m args below meth c D cA E j lim n0 Z t lv st M N P nx) {pc len : Nat} {lv : aL} {st : List Value} {M : aM} {N : aN} {P : aP} {nx : Nat} {n : Fin 4} (hd : decode (mCode j) pc = .ok (.lload_n n, len)) (hlen : okLen (.lload_n n) len = true) (h : stepI C G j lim Q X pc len (.lload_n n) lv st M N P nx) : mpA p l e R s m args below meth c D cA E j lim n0 Z pc lv st M N P nx := by
  intro H locs ls hR hS hl h0 hlim
  obtain ⟨hx, hb, hml, hown, hts, hin, hEv, hE1, hE2, hbs, hRf, hRl, hRc, hRs, hz0, hG⟩ := id hcx
  have hlen2 : len = 1 := by simpa [okLen] using hlen
  subst hlen2
  unfold stepI ldl at h
  dsimp only at h
  split at h
  case h_1 x hg => exact lv_lload_n hx hb hd rfl (lh_get hl hg) (hX _ _ _ _ _ _ _ h H locs ls hR hS hl h0 hlim)
  case h_2 => exact h.elim
theorem am_aload (hcx : cxA p R s m args meth c D cA E Ev G j lim n0 d) {C : aC} {Q : aQ} {X : aX} (hX : ∀ t lv st M N P nx, X t lv st M N P nx → mpA p l e R s m args below meth c D cA E j lim n0 Z t lv st M N P nx) {pc len : Nat} {lv : aL} {st : List Value} {M : aM} {N : aN} {P : aP} {nx : Nat} {n : Nat} (hd : decode (mCode j) pc = .ok (.aload n, len)) (hlen : okLen (.aload n) len = true) (h : stepI C G j lim Q X pc len (.aload n) lv st M N P nx) : mpA p l e R s m args below meth c D cA E j lim n0 Z pc lv st M N P nx := by
  intro H locs ls hR hS hl h0 hlim
  obtain ⟨hx, hb, hml, hown, hts, hin, hEv, hE1, hE2, hbs, hRf, hRl, hRc, hRs, hz0, hG⟩ := id hcx
  have hlen2 : len = 2 := by simpa [okLen] using hlen
  subst hlen2
  unfold stepI lda at h
  dsimp only at h
  split at h
  case h_1 x hg => exact lv_aload hx hb hd (lh_get hl hg) (hX _ _ _ _ _ _ _ h H locs ls hR hS hl h0 hlim)
  case h_2 x hg =>
    cases x with
    | zero => exact lv_aload hx hb hd (lh_get hl hg) (hX _ _ _ _ _ _ _ h H locs ls hR hS hl h0 hlim)
    | succ k => exact lv_aload hx hb hd (lh_get hl hg) (hX _ _ _ _ _ _ _ h H locs ls hR hS hl h0 hlim)
  case h_3 => exact h.elim
theorem am_aload_n (hcx : cxA p R s m args meth c D cA E Ev G j lim n0 d) {C : aC} {Q : aQ} {X : aX} (hX : ∀ t lv st M N P nx, X t lv st M N P nx → mpA p l e R s m args below meth c D cA E j lim n0 Z t lv st M N P nx) {pc len : Nat} {lv : aL} {st : List Value} {M : aM} {N : aN} {P : aP} {nx : Nat} {n : Fin 4} (hd : decode (mCode j) pc = .ok (.aload_n n, len)) (hlen : okLen (.aload_n n) len = true) (h : stepI C G j lim Q X pc len (.aload_n n) lv st M N P nx) : mpA p l e R s m args below meth c D cA E j lim n0 Z pc lv st M N P nx := by
  intro H locs ls hR hS hl h0 hlim
  obtain ⟨hx, hb, hml, hown, hts, hin, hEv, hE1, hE2, hbs, hRf, hRl, hRc, hRs, hz0, hG⟩ := id hcx
  have hlen2 : len = 1 := by simpa [okLen] using hlen
  subst hlen2
  unfold stepI lda at h
  dsimp only at h
  split at h
  case h_1 x hg => exact lv_aload_n hx hb hd rfl (lh_get hl hg) (hX _ _ _ _ _ _ _ h H locs ls hR hS hl h0 hlim)
  case h_2 x hg =>
    cases x with
    | zero => exact lv_aload_n hx hb hd rfl (lh_get hl hg) (hX _ _ _ _ _ _ _ h H locs ls hR hS hl h0 hlim)
    | succ k => exact lv_aload_n hx hb hd rfl (lh_get hl hg) (hX _ _ _ _ _ _ _ h H locs ls hR hS hl h0 hlim)
  case h_3 => exact h.elim
theorem am_istore (hcx : cxA p R s m args meth c D cA E Ev G j lim n0 d) {C : aC} {Q : aQ} {X : aX} (hX : ∀ t lv st M N P nx, X t lv st M N P nx → mpA p l e R s m args below meth c D cA E j lim n0 Z t lv st M N P nx) {pc len : Nat} {lv : aL} {st : List Value} {M : aM} {N : aN} {P : aP} {nx : Nat} {n : Nat} (hd : decode (mCode j) pc = .ok (.istore n, len)) (hlen : okLen (.istore n) len = true) (h : stepI C G j lim Q X pc len (.istore n) lv st M N P nx) : mpA p l e R s m args below meth c D cA E j lim n0 Z pc lv st M N P nx := by
  intro H locs ls hR hS hl h0 hlim
  obtain ⟨hx, hb, hml, hown, hts, hin, hEv, hE1, hE2, hbs, hRf, hRl, hRc, hRs, hz0, hG⟩ := id hcx
  have hlen2 : len = 2 := by simpa [okLen] using hlen
  subst hlen2
  unfold stepI s1i at h
  dsimp only at h
  split at h
  case h_1 x r =>
    cases hn : Nat.blt n (mMaxL j) with
    | false => rw [hn] at h; exact h.elim
    | true =>
      rw [hn] at h
      exact lv_istore hx hb hd hl (by simpa using hn) (rl_lst1 (v := .int x)) (fun ls hl => hX _ _ _ _ _ _ _ h H locs ls hR hS hl h0 hlim)
  case h_2 => exact h.elim
theorem am_istore_n (hcx : cxA p R s m args meth c D cA E Ev G j lim n0 d) {C : aC} {Q : aQ} {X : aX} (hX : ∀ t lv st M N P nx, X t lv st M N P nx → mpA p l e R s m args below meth c D cA E j lim n0 Z t lv st M N P nx) {pc len : Nat} {lv : aL} {st : List Value} {M : aM} {N : aN} {P : aP} {nx : Nat} {n : Fin 4} (hd : decode (mCode j) pc = .ok (.istore_n n, len)) (hlen : okLen (.istore_n n) len = true) (h : stepI C G j lim Q X pc len (.istore_n n) lv st M N P nx) : mpA p l e R s m args below meth c D cA E j lim n0 Z pc lv st M N P nx := by
  intro H locs ls hR hS hl h0 hlim
  obtain ⟨hx, hb, hml, hown, hts, hin, hEv, hE1, hE2, hbs, hRf, hRl, hRc, hRs, hz0, hG⟩ := id hcx
  have hlen2 : len = 1 := by simpa [okLen] using hlen
  subst hlen2
  unfold stepI s1i at h
  dsimp only at h
  split at h
  case h_1 x r =>
    cases hn : Nat.blt n.val (mMaxL j) with
    | false => rw [hn] at h; exact h.elim
    | true =>
      rw [hn] at h
      exact lv_istore_n hx hb hd rfl hl (by simpa using hn) (rl_lst1 (v := .int x)) (fun ls hl => hX _ _ _ _ _ _ _ h H locs ls hR hS hl h0 hlim)
  case h_2 => exact h.elim
theorem am_lstore (hcx : cxA p R s m args meth c D cA E Ev G j lim n0 d) {C : aC} {Q : aQ} {X : aX} (hX : ∀ t lv st M N P nx, X t lv st M N P nx → mpA p l e R s m args below meth c D cA E j lim n0 Z t lv st M N P nx) {pc len : Nat} {lv : aL} {st : List Value} {M : aM} {N : aN} {P : aP} {nx : Nat} {n : Nat} (hd : decode (mCode j) pc = .ok (.lstore n, len)) (hlen : okLen (.lstore n) len = true) (h : stepI C G j lim Q X pc len (.lstore n) lv st M N P nx) : mpA p l e R s m args below meth c D cA E j lim n0 Z pc lv st M N P nx := by
  intro H locs ls hR hS hl h0 hlim
  obtain ⟨hx, hb, hml, hown, hts, hin, hEv, hE1, hE2, hbs, hRf, hRl, hRc, hRs, hz0, hG⟩ := id hcx
  have hlen2 : len = 2 := by simpa [okLen] using hlen
  subst hlen2
  unfold stepI s1l at h
  dsimp only at h
  split at h
  case h_1 x r =>
    cases hn : Nat.blt (n + 1) (mMaxL j) with
    | false => rw [hn] at h; exact h.elim
    | true =>
      rw [hn] at h
      exact lv_lstore hx hb hd hl (by simpa using hn) (rl_lst2 (v := .long x)) (fun ls hl => hX _ _ _ _ _ _ _ h H locs ls hR hS hl h0 hlim)
  case h_2 => exact h.elim
theorem am_lstore_n (hcx : cxA p R s m args meth c D cA E Ev G j lim n0 d) {C : aC} {Q : aQ} {X : aX} (hX : ∀ t lv st M N P nx, X t lv st M N P nx → mpA p l e R s m args below meth c D cA E j lim n0 Z t lv st M N P nx) {pc len : Nat} {lv : aL} {st : List Value} {M : aM} {N : aN} {P : aP} {nx : Nat} {n : Fin 4} (hd : decode (mCode j) pc = .ok (.lstore_n n, len)) (hlen : okLen (.lstore_n n) len = true) (h : stepI C G j lim Q X pc len (.lstore_n n) lv st M N P nx) : mpA p l e R s m args below meth c D cA E j lim n0 Z pc lv st M N P nx := by
  intro H locs ls hR hS hl h0 hlim
  obtain ⟨hx, hb, hml, hown, hts, hin, hEv, hE1, hE2, hbs, hRf, hRl, hRc, hRs, hz0, hG⟩ := id hcx
  have hlen2 : len = 1 := by simpa [okLen] using hlen
  subst hlen2
  unfold stepI s1l at h
  dsimp only at h
  split at h
  case h_1 x r =>
    cases hn : Nat.blt (n.val + 1) (mMaxL j) with
    | false => rw [hn] at h; exact h.elim
    | true =>
      rw [hn] at h
      exact lv_lstore_n hx hb hd rfl hl (by simpa using hn) (rl_lst2 (v := .long x)) (fun ls hl => hX _ _ _ _ _ _ _ h H locs ls hR hS hl h0 hlim)
  case h_2 => exact h.elim
theorem am_astore (hcx : cxA p R s m args meth c D cA E Ev G j lim n0 d) {C : aC} {Q : aQ} {X : aX} (hX : ∀ t lv st M N P nx, X t lv st M N P nx → mpA p l e R s m args below meth c D cA E j lim n0 Z t lv st M N P nx) {pc len : Nat} {lv : aL} {st : List Value} {M : aM} {N : aN} {P : aP} {nx : Nat} {n : Nat} (hd : decode (mCode j) pc = .ok (.astore n, len)) (hlen : okLen (.astore n) len = true) (h : stepI C G j lim Q X pc len (.astore n) lv st M N P nx) : mpA p l e R s m args below meth c D cA E j lim n0 Z pc lv st M N P nx := by
  intro H locs ls hR hS hl h0 hlim
  obtain ⟨hx, hb, hml, hown, hts, hin, hEv, hE1, hE2, hbs, hRf, hRl, hRc, hRs, hz0, hG⟩ := id hcx
  have hlen2 : len = 2 := by simpa [okLen] using hlen
  subst hlen2
  unfold stepI s1r at h
  dsimp only at h
  split at h
  case h_1 x r =>
    cases hn : Nat.blt n (mMaxL j) with
    | false => rw [hn] at h; exact h.elim
    | true =>
      rw [hn] at h
      exact lv_astore hx hb hd hl (by simpa using hn) (rl_lst1 (v := .ref x)) (fun ls hl => hX _ _ _ _ _ _ _ h H locs ls hR hS hl h0 hlim)
  case h_2 => exact h.elim
theorem am_astore_n (hcx : cxA p R s m args meth c D cA E Ev G j lim n0 d) {C : aC} {Q : aQ} {X : aX} (hX : ∀ t lv st M N P nx, X t lv st M N P nx → mpA p l e R s m args below meth c D cA E j lim n0 Z t lv st M N P nx) {pc len : Nat} {lv : aL} {st : List Value} {M : aM} {N : aN} {P : aP} {nx : Nat} {n : Fin 4} (hd : decode (mCode j) pc = .ok (.astore_n n, len)) (hlen : okLen (.astore_n n) len = true) (h : stepI C G j lim Q X pc len (.astore_n n) lv st M N P nx) : mpA p l e R s m args below meth c D cA E j lim n0 Z pc lv st M N P nx := by
  intro H locs ls hR hS hl h0 hlim
  obtain ⟨hx, hb, hml, hown, hts, hin, hEv, hE1, hE2, hbs, hRf, hRl, hRc, hRs, hz0, hG⟩ := id hcx
  have hlen2 : len = 1 := by simpa [okLen] using hlen
  subst hlen2
  unfold stepI s1r at h
  dsimp only at h
  split at h
  case h_1 x r =>
    cases hn : Nat.blt n.val (mMaxL j) with
    | false => rw [hn] at h; exact h.elim
    | true =>
      rw [hn] at h
      exact lv_astore_n hx hb hd rfl hl (by simpa using hn) (rl_lst1 (v := .ref x)) (fun ls hl => hX _ _ _ _ _ _ _ h H locs ls hR hS hl h0 hlim)
  case h_2 => exact h.elim
theorem am_iinc (hcx : cxA p R s m args meth c D cA E Ev G j lim n0 d) {C : aC} {Q : aQ} {X : aX} (hX : ∀ t lv st M N P nx, X t lv st M N P nx → mpA p l e R s m args below meth c D cA E j lim n0 Z t lv st M N P nx) {pc len : Nat} {lv : aL} {st : List Value} {M : aM} {N : aN} {P : aP} {nx : Nat} {n : Nat} {z : Int} (hd : decode (mCode j) pc = .ok (.iinc n z, len)) (hlen : okLen (.iinc n z) len = true) (h : stepI C G j lim Q X pc len (.iinc n z) lv st M N P nx) : mpA p l e R s m args below meth c D cA E j lim n0 Z pc lv st M N P nx := by
  intro H locs ls hR hS hl h0 hlim
  obtain ⟨hx, hb, hml, hown, hts, hin, hEv, hE1, hE2, hbs, hRf, hRl, hRc, hRs, hz0, hG⟩ := id hcx
  have hlen2 : len = 3 := by simpa [okLen] using hlen
  subst hlen2
  unfold stepI ldi at h
  dsimp only at h
  split at h
  case h_1 x hg =>
    cases hn : Nat.blt n (mMaxL j) with
    | false => rw [hn] at h; exact h.elim
    | true =>
      rw [hn] at h
      obtain ⟨k, hk⟩ := List.getElem?_of_mem (List.mem_map.mpr ⟨(n, .int x), lget_mem hg, rfl⟩ : (n, rv E (.int x)) ∈ rl E lv)
      exact lv_iinc (v := x + kI z) hx hb hd hl hk (by rw [kI_eq]) (by simpa using hn) (rl_lst1 (v := .int (x + kI z))) (fun ls hl => hX _ _ _ _ _ _ _ h H locs ls hR hS hl h0 hlim)
  case h_2 => exact h.elim
theorem am_iadd (hcx : cxA p R s m args meth c D cA E Ev G j lim n0 d) {C : aC} {Q : aQ} {X : aX} (hX : ∀ t lv st M N P nx, X t lv st M N P nx → mpA p l e R s m args below meth c D cA E j lim n0 Z t lv st M N P nx) {pc len : Nat} {lv : aL} {st : List Value} {M : aM} {N : aN} {P : aP} {nx : Nat}  (hd : decode (mCode j) pc = .ok (.iadd, len)) (hlen : okLen (.iadd) len = true) (h : stepI C G j lim Q X pc len (.iadd) lv st M N P nx) : mpA p l e R s m args below meth c D cA E j lim n0 Z pc lv st M N P nx := by
  intro H locs ls hR hS hl h0 hlim
  obtain ⟨hx, hb, hml, hown, hts, hin, hEv, hE1, hE2, hbs, hRf, hRl, hRc, hRs, hz0, hG⟩ := id hcx
  have hlen2 : len = 1 := by simpa [okLen] using hlen
  subst hlen2
  unfold stepI s2i at h
  dsimp only at h
  split at h
  case h_1 y x r => exact lv_iadd hx hb hd (hX _ _ _ _ _ _ _ h H locs ls hR hS hl h0 hlim)
  case h_2 => exact h.elim
theorem am_isub (hcx : cxA p R s m args meth c D cA E Ev G j lim n0 d) {C : aC} {Q : aQ} {X : aX} (hX : ∀ t lv st M N P nx, X t lv st M N P nx → mpA p l e R s m args below meth c D cA E j lim n0 Z t lv st M N P nx) {pc len : Nat} {lv : aL} {st : List Value} {M : aM} {N : aN} {P : aP} {nx : Nat}  (hd : decode (mCode j) pc = .ok (.isub, len)) (hlen : okLen (.isub) len = true) (h : stepI C G j lim Q X pc len (.isub) lv st M N P nx) : mpA p l e R s m args below meth c D cA E j lim n0 Z pc lv st M N P nx := by
  intro H locs ls hR hS hl h0 hlim
  obtain ⟨hx, hb, hml, hown, hts, hin, hEv, hE1, hE2, hbs, hRf, hRl, hRc, hRs, hz0, hG⟩ := id hcx
  have hlen2 : len = 1 := by simpa [okLen] using hlen
  subst hlen2
  unfold stepI s2i at h
  dsimp only at h
  split at h
  case h_1 y x r => exact lv_isub hx hb hd (hX _ _ _ _ _ _ _ h H locs ls hR hS hl h0 hlim)
  case h_2 => exact h.elim
theorem am_imul (hcx : cxA p R s m args meth c D cA E Ev G j lim n0 d) {C : aC} {Q : aQ} {X : aX} (hX : ∀ t lv st M N P nx, X t lv st M N P nx → mpA p l e R s m args below meth c D cA E j lim n0 Z t lv st M N P nx) {pc len : Nat} {lv : aL} {st : List Value} {M : aM} {N : aN} {P : aP} {nx : Nat}  (hd : decode (mCode j) pc = .ok (.imul, len)) (hlen : okLen (.imul) len = true) (h : stepI C G j lim Q X pc len (.imul) lv st M N P nx) : mpA p l e R s m args below meth c D cA E j lim n0 Z pc lv st M N P nx := by
  intro H locs ls hR hS hl h0 hlim
  obtain ⟨hx, hb, hml, hown, hts, hin, hEv, hE1, hE2, hbs, hRf, hRl, hRc, hRs, hz0, hG⟩ := id hcx
  have hlen2 : len = 1 := by simpa [okLen] using hlen
  subst hlen2
  unfold stepI s2i at h
  dsimp only at h
  split at h
  case h_1 y x r => exact lv_imul hx hb hd (hX _ _ _ _ _ _ _ h H locs ls hR hS hl h0 hlim)
  case h_2 => exact h.elim
theorem am_iand (hcx : cxA p R s m args meth c D cA E Ev G j lim n0 d) {C : aC} {Q : aQ} {X : aX} (hX : ∀ t lv st M N P nx, X t lv st M N P nx → mpA p l e R s m args below meth c D cA E j lim n0 Z t lv st M N P nx) {pc len : Nat} {lv : aL} {st : List Value} {M : aM} {N : aN} {P : aP} {nx : Nat}  (hd : decode (mCode j) pc = .ok (.iand, len)) (hlen : okLen (.iand) len = true) (h : stepI C G j lim Q X pc len (.iand) lv st M N P nx) : mpA p l e R s m args below meth c D cA E j lim n0 Z pc lv st M N P nx := by
  intro H locs ls hR hS hl h0 hlim
  obtain ⟨hx, hb, hml, hown, hts, hin, hEv, hE1, hE2, hbs, hRf, hRl, hRc, hRs, hz0, hG⟩ := id hcx
  have hlen2 : len = 1 := by simpa [okLen] using hlen
  subst hlen2
  unfold stepI s2i at h
  dsimp only at h
  split at h
  case h_1 y x r => exact lv_iand hx hb hd (hX _ _ _ _ _ _ _ h H locs ls hR hS hl h0 hlim)
  case h_2 => exact h.elim
theorem am_ior (hcx : cxA p R s m args meth c D cA E Ev G j lim n0 d) {C : aC} {Q : aQ} {X : aX} (hX : ∀ t lv st M N P nx, X t lv st M N P nx → mpA p l e R s m args below meth c D cA E j lim n0 Z t lv st M N P nx) {pc len : Nat} {lv : aL} {st : List Value} {M : aM} {N : aN} {P : aP} {nx : Nat}  (hd : decode (mCode j) pc = .ok (.ior, len)) (hlen : okLen (.ior) len = true) (h : stepI C G j lim Q X pc len (.ior) lv st M N P nx) : mpA p l e R s m args below meth c D cA E j lim n0 Z pc lv st M N P nx := by
  intro H locs ls hR hS hl h0 hlim
  obtain ⟨hx, hb, hml, hown, hts, hin, hEv, hE1, hE2, hbs, hRf, hRl, hRc, hRs, hz0, hG⟩ := id hcx
  have hlen2 : len = 1 := by simpa [okLen] using hlen
  subst hlen2
  unfold stepI s2i at h
  dsimp only at h
  split at h
  case h_1 y x r => exact lv_ior hx hb hd (hX _ _ _ _ _ _ _ h H locs ls hR hS hl h0 hlim)
  case h_2 => exact h.elim
theorem am_ishl (hcx : cxA p R s m args meth c D cA E Ev G j lim n0 d) {C : aC} {Q : aQ} {X : aX} (hX : ∀ t lv st M N P nx, X t lv st M N P nx → mpA p l e R s m args below meth c D cA E j lim n0 Z t lv st M N P nx) {pc len : Nat} {lv : aL} {st : List Value} {M : aM} {N : aN} {P : aP} {nx : Nat}  (hd : decode (mCode j) pc = .ok (.ishl, len)) (hlen : okLen (.ishl) len = true) (h : stepI C G j lim Q X pc len (.ishl) lv st M N P nx) : mpA p l e R s m args below meth c D cA E j lim n0 Z pc lv st M N P nx := by
  intro H locs ls hR hS hl h0 hlim
  obtain ⟨hx, hb, hml, hown, hts, hin, hEv, hE1, hE2, hbs, hRf, hRl, hRc, hRs, hz0, hG⟩ := id hcx
  have hlen2 : len = 1 := by simpa [okLen] using hlen
  subst hlen2
  unfold stepI s2i at h
  dsimp only at h
  split at h
  case h_1 y x r => exact lv_ishl hx hb hd (hX _ _ _ _ _ _ _ h H locs ls hR hS hl h0 hlim)
  case h_2 => exact h.elim
theorem am_ishr (hcx : cxA p R s m args meth c D cA E Ev G j lim n0 d) {C : aC} {Q : aQ} {X : aX} (hX : ∀ t lv st M N P nx, X t lv st M N P nx → mpA p l e R s m args below meth c D cA E j lim n0 Z t lv st M N P nx) {pc len : Nat} {lv : aL} {st : List Value} {M : aM} {N : aN} {P : aP} {nx : Nat}  (hd : decode (mCode j) pc = .ok (.ishr, len)) (hlen : okLen (.ishr) len = true) (h : stepI C G j lim Q X pc len (.ishr) lv st M N P nx) : mpA p l e R s m args below meth c D cA E j lim n0 Z pc lv st M N P nx := by
  intro H locs ls hR hS hl h0 hlim
  obtain ⟨hx, hb, hml, hown, hts, hin, hEv, hE1, hE2, hbs, hRf, hRl, hRc, hRs, hz0, hG⟩ := id hcx
  have hlen2 : len = 1 := by simpa [okLen] using hlen
  subst hlen2
  unfold stepI s2i at h
  dsimp only at h
  split at h
  case h_1 y x r => exact lv_ishr hx hb hd (hX _ _ _ _ _ _ _ h H locs ls hR hS hl h0 hlim)
  case h_2 => exact h.elim
theorem am_iushr (hcx : cxA p R s m args meth c D cA E Ev G j lim n0 d) {C : aC} {Q : aQ} {X : aX} (hX : ∀ t lv st M N P nx, X t lv st M N P nx → mpA p l e R s m args below meth c D cA E j lim n0 Z t lv st M N P nx) {pc len : Nat} {lv : aL} {st : List Value} {M : aM} {N : aN} {P : aP} {nx : Nat}  (hd : decode (mCode j) pc = .ok (.iushr, len)) (hlen : okLen (.iushr) len = true) (h : stepI C G j lim Q X pc len (.iushr) lv st M N P nx) : mpA p l e R s m args below meth c D cA E j lim n0 Z pc lv st M N P nx := by
  intro H locs ls hR hS hl h0 hlim
  obtain ⟨hx, hb, hml, hown, hts, hin, hEv, hE1, hE2, hbs, hRf, hRl, hRc, hRs, hz0, hG⟩ := id hcx
  have hlen2 : len = 1 := by simpa [okLen] using hlen
  subst hlen2
  unfold stepI s2i at h
  dsimp only at h
  split at h
  case h_1 y x r => exact lv_iushr hx hb hd rfl (hX _ _ _ _ _ _ _ h H locs ls hR hS hl h0 hlim)
  case h_2 => exact h.elim
theorem am_idiv (hcx : cxA p R s m args meth c D cA E Ev G j lim n0 d) {C : aC} {Q : aQ} {X : aX} (hX : ∀ t lv st M N P nx, X t lv st M N P nx → mpA p l e R s m args below meth c D cA E j lim n0 Z t lv st M N P nx) {pc len : Nat} {lv : aL} {st : List Value} {M : aM} {N : aN} {P : aP} {nx : Nat}  (hd : decode (mCode j) pc = .ok (.idiv, len)) (hlen : okLen (.idiv) len = true) (h : stepI C G j lim Q X pc len (.idiv) lv st M N P nx) : mpA p l e R s m args below meth c D cA E j lim n0 Z pc lv st M N P nx := by
  intro H locs ls hR hS hl h0 hlim
  obtain ⟨hx, hb, hml, hown, hts, hin, hEv, hE1, hE2, hbs, hRf, hRl, hRc, hRs, hz0, hG⟩ := id hcx
  have hlen2 : len = 1 := by simpa [okLen] using hlen
  subst hlen2
  unfold stepI s2i at h
  dsimp only at h
  split at h
  case h_1 y x r => exact lv_idiv hx hb hd h.1 (hX _ _ _ _ _ _ _ h.2 H locs ls hR hS hl h0 hlim)
  case h_2 => exact h.elim
theorem am_irem (hcx : cxA p R s m args meth c D cA E Ev G j lim n0 d) {C : aC} {Q : aQ} {X : aX} (hX : ∀ t lv st M N P nx, X t lv st M N P nx → mpA p l e R s m args below meth c D cA E j lim n0 Z t lv st M N P nx) {pc len : Nat} {lv : aL} {st : List Value} {M : aM} {N : aN} {P : aP} {nx : Nat}  (hd : decode (mCode j) pc = .ok (.irem, len)) (hlen : okLen (.irem) len = true) (h : stepI C G j lim Q X pc len (.irem) lv st M N P nx) : mpA p l e R s m args below meth c D cA E j lim n0 Z pc lv st M N P nx := by
  intro H locs ls hR hS hl h0 hlim
  obtain ⟨hx, hb, hml, hown, hts, hin, hEv, hE1, hE2, hbs, hRf, hRl, hRc, hRs, hz0, hG⟩ := id hcx
  have hlen2 : len = 1 := by simpa [okLen] using hlen
  subst hlen2
  unfold stepI s2i at h
  dsimp only at h
  split at h
  case h_1 y x r => exact lv_irem hx hb hd h.1 (hX _ _ _ _ _ _ _ h.2 H locs ls hR hS hl h0 hlim)
  case h_2 => exact h.elim
theorem am_i2l (hcx : cxA p R s m args meth c D cA E Ev G j lim n0 d) {C : aC} {Q : aQ} {X : aX} (hX : ∀ t lv st M N P nx, X t lv st M N P nx → mpA p l e R s m args below meth c D cA E j lim n0 Z t lv st M N P nx) {pc len : Nat} {lv : aL} {st : List Value} {M : aM} {N : aN} {P : aP} {nx : Nat}  (hd : decode (mCode j) pc = .ok (.i2l, len)) (hlen : okLen (.i2l) len = true) (h : stepI C G j lim Q X pc len (.i2l) lv st M N P nx) : mpA p l e R s m args below meth c D cA E j lim n0 Z pc lv st M N P nx := by
  intro H locs ls hR hS hl h0 hlim
  obtain ⟨hx, hb, hml, hown, hts, hin, hEv, hE1, hE2, hbs, hRf, hRl, hRc, hRs, hz0, hG⟩ := id hcx
  have hlen2 : len = 1 := by simpa [okLen] using hlen
  subst hlen2
  unfold stepI s1i at h
  dsimp only at h
  split at h
  case h_1 x r => exact lv_i2l hx hb hd rfl (hX _ _ _ _ _ _ _ h H locs ls hR hS hl h0 hlim)
  case h_2 => exact h.elim
theorem am_l2i (hcx : cxA p R s m args meth c D cA E Ev G j lim n0 d) {C : aC} {Q : aQ} {X : aX} (hX : ∀ t lv st M N P nx, X t lv st M N P nx → mpA p l e R s m args below meth c D cA E j lim n0 Z t lv st M N P nx) {pc len : Nat} {lv : aL} {st : List Value} {M : aM} {N : aN} {P : aP} {nx : Nat}  (hd : decode (mCode j) pc = .ok (.l2i, len)) (hlen : okLen (.l2i) len = true) (h : stepI C G j lim Q X pc len (.l2i) lv st M N P nx) : mpA p l e R s m args below meth c D cA E j lim n0 Z pc lv st M N P nx := by
  intro H locs ls hR hS hl h0 hlim
  obtain ⟨hx, hb, hml, hown, hts, hin, hEv, hE1, hE2, hbs, hRf, hRl, hRc, hRs, hz0, hG⟩ := id hcx
  have hlen2 : len = 1 := by simpa [okLen] using hlen
  subst hlen2
  unfold stepI s1l at h
  dsimp only at h
  split at h
  case h_1 x r => exact lv_l2i hx hb hd rfl (hX _ _ _ _ _ _ _ h H locs ls hR hS hl h0 hlim)
  case h_2 => exact h.elim
theorem am_i2b (hcx : cxA p R s m args meth c D cA E Ev G j lim n0 d) {C : aC} {Q : aQ} {X : aX} (hX : ∀ t lv st M N P nx, X t lv st M N P nx → mpA p l e R s m args below meth c D cA E j lim n0 Z t lv st M N P nx) {pc len : Nat} {lv : aL} {st : List Value} {M : aM} {N : aN} {P : aP} {nx : Nat}  (hd : decode (mCode j) pc = .ok (.i2b, len)) (hlen : okLen (.i2b) len = true) (h : stepI C G j lim Q X pc len (.i2b) lv st M N P nx) : mpA p l e R s m args below meth c D cA E j lim n0 Z pc lv st M N P nx := by
  intro H locs ls hR hS hl h0 hlim
  obtain ⟨hx, hb, hml, hown, hts, hin, hEv, hE1, hE2, hbs, hRf, hRl, hRc, hRs, hz0, hG⟩ := id hcx
  have hlen2 : len = 1 := by simpa [okLen] using hlen
  subst hlen2
  unfold stepI s1i at h
  dsimp only at h
  split at h
  case h_1 x r => exact lv_i2b hx hb hd rfl (hX _ _ _ _ _ _ _ h H locs ls hR hS hl h0 hlim)
  case h_2 => exact h.elim
theorem am_ladd (hcx : cxA p R s m args meth c D cA E Ev G j lim n0 d) {C : aC} {Q : aQ} {X : aX} (hX : ∀ t lv st M N P nx, X t lv st M N P nx → mpA p l e R s m args below meth c D cA E j lim n0 Z t lv st M N P nx) {pc len : Nat} {lv : aL} {st : List Value} {M : aM} {N : aN} {P : aP} {nx : Nat}  (hd : decode (mCode j) pc = .ok (.ladd, len)) (hlen : okLen (.ladd) len = true) (h : stepI C G j lim Q X pc len (.ladd) lv st M N P nx) : mpA p l e R s m args below meth c D cA E j lim n0 Z pc lv st M N P nx := by
  intro H locs ls hR hS hl h0 hlim
  obtain ⟨hx, hb, hml, hown, hts, hin, hEv, hE1, hE2, hbs, hRf, hRl, hRc, hRs, hz0, hG⟩ := id hcx
  have hlen2 : len = 1 := by simpa [okLen] using hlen
  subst hlen2
  unfold stepI s2l at h
  dsimp only at h
  split at h
  case h_1 y x r => exact lv_ladd hx hb hd (hX _ _ _ _ _ _ _ h H locs ls hR hS hl h0 hlim)
  case h_2 => exact h.elim
theorem am_lsub (hcx : cxA p R s m args meth c D cA E Ev G j lim n0 d) {C : aC} {Q : aQ} {X : aX} (hX : ∀ t lv st M N P nx, X t lv st M N P nx → mpA p l e R s m args below meth c D cA E j lim n0 Z t lv st M N P nx) {pc len : Nat} {lv : aL} {st : List Value} {M : aM} {N : aN} {P : aP} {nx : Nat}  (hd : decode (mCode j) pc = .ok (.lsub, len)) (hlen : okLen (.lsub) len = true) (h : stepI C G j lim Q X pc len (.lsub) lv st M N P nx) : mpA p l e R s m args below meth c D cA E j lim n0 Z pc lv st M N P nx := by
  intro H locs ls hR hS hl h0 hlim
  obtain ⟨hx, hb, hml, hown, hts, hin, hEv, hE1, hE2, hbs, hRf, hRl, hRc, hRs, hz0, hG⟩ := id hcx
  have hlen2 : len = 1 := by simpa [okLen] using hlen
  subst hlen2
  unfold stepI s2l at h
  dsimp only at h
  split at h
  case h_1 y x r => exact lv_lsub hx hb hd (hX _ _ _ _ _ _ _ h H locs ls hR hS hl h0 hlim)
  case h_2 => exact h.elim
theorem am_land (hcx : cxA p R s m args meth c D cA E Ev G j lim n0 d) {C : aC} {Q : aQ} {X : aX} (hX : ∀ t lv st M N P nx, X t lv st M N P nx → mpA p l e R s m args below meth c D cA E j lim n0 Z t lv st M N P nx) {pc len : Nat} {lv : aL} {st : List Value} {M : aM} {N : aN} {P : aP} {nx : Nat}  (hd : decode (mCode j) pc = .ok (.land, len)) (hlen : okLen (.land) len = true) (h : stepI C G j lim Q X pc len (.land) lv st M N P nx) : mpA p l e R s m args below meth c D cA E j lim n0 Z pc lv st M N P nx := by
  intro H locs ls hR hS hl h0 hlim
  obtain ⟨hx, hb, hml, hown, hts, hin, hEv, hE1, hE2, hbs, hRf, hRl, hRc, hRs, hz0, hG⟩ := id hcx
  have hlen2 : len = 1 := by simpa [okLen] using hlen
  subst hlen2
  unfold stepI s2l at h
  dsimp only at h
  split at h
  case h_1 y x r => exact lv_land hx hb hd (hX _ _ _ _ _ _ _ h H locs ls hR hS hl h0 hlim)
  case h_2 => exact h.elim
theorem am_lor (hcx : cxA p R s m args meth c D cA E Ev G j lim n0 d) {C : aC} {Q : aQ} {X : aX} (hX : ∀ t lv st M N P nx, X t lv st M N P nx → mpA p l e R s m args below meth c D cA E j lim n0 Z t lv st M N P nx) {pc len : Nat} {lv : aL} {st : List Value} {M : aM} {N : aN} {P : aP} {nx : Nat}  (hd : decode (mCode j) pc = .ok (.lor, len)) (hlen : okLen (.lor) len = true) (h : stepI C G j lim Q X pc len (.lor) lv st M N P nx) : mpA p l e R s m args below meth c D cA E j lim n0 Z pc lv st M N P nx := by
  intro H locs ls hR hS hl h0 hlim
  obtain ⟨hx, hb, hml, hown, hts, hin, hEv, hE1, hE2, hbs, hRf, hRl, hRc, hRs, hz0, hG⟩ := id hcx
  have hlen2 : len = 1 := by simpa [okLen] using hlen
  subst hlen2
  unfold stepI s2l at h
  dsimp only at h
  split at h
  case h_1 y x r => exact lv_lor hx hb hd (hX _ _ _ _ _ _ _ h H locs ls hR hS hl h0 hlim)
  case h_2 => exact h.elim
theorem am_lshl (hcx : cxA p R s m args meth c D cA E Ev G j lim n0 d) {C : aC} {Q : aQ} {X : aX} (hX : ∀ t lv st M N P nx, X t lv st M N P nx → mpA p l e R s m args below meth c D cA E j lim n0 Z t lv st M N P nx) {pc len : Nat} {lv : aL} {st : List Value} {M : aM} {N : aN} {P : aP} {nx : Nat}  (hd : decode (mCode j) pc = .ok (.lshl, len)) (hlen : okLen (.lshl) len = true) (h : stepI C G j lim Q X pc len (.lshl) lv st M N P nx) : mpA p l e R s m args below meth c D cA E j lim n0 Z pc lv st M N P nx := by
  intro H locs ls hR hS hl h0 hlim
  obtain ⟨hx, hb, hml, hown, hts, hin, hEv, hE1, hE2, hbs, hRf, hRl, hRc, hRs, hz0, hG⟩ := id hcx
  have hlen2 : len = 1 := by simpa [okLen] using hlen
  subst hlen2
  unfold stepI sli at h
  dsimp only at h
  split at h
  case h_1 y x r => exact lv_lshl hx hb hd rfl (hX _ _ _ _ _ _ _ h H locs ls hR hS hl h0 hlim)
  case h_2 => exact h.elim
theorem am_lshr (hcx : cxA p R s m args meth c D cA E Ev G j lim n0 d) {C : aC} {Q : aQ} {X : aX} (hX : ∀ t lv st M N P nx, X t lv st M N P nx → mpA p l e R s m args below meth c D cA E j lim n0 Z t lv st M N P nx) {pc len : Nat} {lv : aL} {st : List Value} {M : aM} {N : aN} {P : aP} {nx : Nat}  (hd : decode (mCode j) pc = .ok (.lshr, len)) (hlen : okLen (.lshr) len = true) (h : stepI C G j lim Q X pc len (.lshr) lv st M N P nx) : mpA p l e R s m args below meth c D cA E j lim n0 Z pc lv st M N P nx := by
  intro H locs ls hR hS hl h0 hlim
  obtain ⟨hx, hb, hml, hown, hts, hin, hEv, hE1, hE2, hbs, hRf, hRl, hRc, hRs, hz0, hG⟩ := id hcx
  have hlen2 : len = 1 := by simpa [okLen] using hlen
  subst hlen2
  unfold stepI sli at h
  dsimp only at h
  split at h
  case h_1 y x r => exact lv_lshr hx hb hd rfl (hX _ _ _ _ _ _ _ h H locs ls hR hS hl h0 hlim)
  case h_2 => exact h.elim
theorem am_lushr (hcx : cxA p R s m args meth c D cA E Ev G j lim n0 d) {C : aC} {Q : aQ} {X : aX} (hX : ∀ t lv st M N P nx, X t lv st M N P nx → mpA p l e R s m args below meth c D cA E j lim n0 Z t lv st M N P nx) {pc len : Nat} {lv : aL} {st : List Value} {M : aM} {N : aN} {P : aP} {nx : Nat}  (hd : decode (mCode j) pc = .ok (.lushr, len)) (hlen : okLen (.lushr) len = true) (h : stepI C G j lim Q X pc len (.lushr) lv st M N P nx) : mpA p l e R s m args below meth c D cA E j lim n0 Z pc lv st M N P nx := by
  intro H locs ls hR hS hl h0 hlim
  obtain ⟨hx, hb, hml, hown, hts, hin, hEv, hE1, hE2, hbs, hRf, hRl, hRc, hRs, hz0, hG⟩ := id hcx
  have hlen2 : len = 1 := by simpa [okLen] using hlen
  subst hlen2
  unfold stepI sli at h
  dsimp only at h
  split at h
  case h_1 y x r => exact lv_lushr hx hb hd rfl (hX _ _ _ _ _ _ _ h H locs ls hR hS hl h0 hlim)
  case h_2 => exact h.elim
theorem am_lcmp (hcx : cxA p R s m args meth c D cA E Ev G j lim n0 d) {C : aC} {Q : aQ} {X : aX} (hX : ∀ t lv st M N P nx, X t lv st M N P nx → mpA p l e R s m args below meth c D cA E j lim n0 Z t lv st M N P nx) {pc len : Nat} {lv : aL} {st : List Value} {M : aM} {N : aN} {P : aP} {nx : Nat}  (hd : decode (mCode j) pc = .ok (.lcmp, len)) (hlen : okLen (.lcmp) len = true) (h : stepI C G j lim Q X pc len (.lcmp) lv st M N P nx) : mpA p l e R s m args below meth c D cA E j lim n0 Z pc lv st M N P nx := by
  intro H locs ls hR hS hl h0 hlim
  obtain ⟨hx, hb, hml, hown, hts, hin, hEv, hE1, hE2, hbs, hRf, hRl, hRc, hRs, hz0, hG⟩ := id hcx
  have hlen2 : len = 1 := by simpa [okLen] using hlen
  subst hlen2
  unfold stepI s2l at h
  dsimp only at h
  split at h
  case h_1 y x r => exact W.lcmp hx hb hd (hX _ _ _ _ _ _ _ h H locs ls hR hS hl h0 hlim)
  case h_2 => exact h.elim
theorem am_dup (hcx : cxA p R s m args meth c D cA E Ev G j lim n0 d) {C : aC} {Q : aQ} {X : aX} (hX : ∀ t lv st M N P nx, X t lv st M N P nx → mpA p l e R s m args below meth c D cA E j lim n0 Z t lv st M N P nx) {pc len : Nat} {lv : aL} {st : List Value} {M : aM} {N : aN} {P : aP} {nx : Nat}  (hd : decode (mCode j) pc = .ok (.dup, len)) (hlen : okLen (.dup) len = true) (h : stepI C G j lim Q X pc len (.dup) lv st M N P nx) : mpA p l e R s m args below meth c D cA E j lim n0 Z pc lv st M N P nx := by
  intro H locs ls hR hS hl h0 hlim
  obtain ⟨hx, hb, hml, hown, hts, hin, hEv, hE1, hE2, hbs, hRf, hRl, hRc, hRs, hz0, hG⟩ := id hcx
  have hlen2 : len = 1 := by simpa [okLen] using hlen
  subst hlen2
  unfold stepI at h
  dsimp only at h
  split at h
  case h_1 v r =>
    cases hv : v.category == 1 with
    | false => rw [hv] at h; exact h.elim
    | true =>
      rw [hv] at h
      exact lv_dup hx hb hd (by rw [rv_cat]; simpa using hv) (hX _ _ _ _ _ _ _ h H locs ls hR hS hl h0 hlim)
  case h_2 => exact h.elim
theorem am_pop (hcx : cxA p R s m args meth c D cA E Ev G j lim n0 d) {C : aC} {Q : aQ} {X : aX} (hX : ∀ t lv st M N P nx, X t lv st M N P nx → mpA p l e R s m args below meth c D cA E j lim n0 Z t lv st M N P nx) {pc len : Nat} {lv : aL} {st : List Value} {M : aM} {N : aN} {P : aP} {nx : Nat}  (hd : decode (mCode j) pc = .ok (.pop, len)) (hlen : okLen (.pop) len = true) (h : stepI C G j lim Q X pc len (.pop) lv st M N P nx) : mpA p l e R s m args below meth c D cA E j lim n0 Z pc lv st M N P nx := by
  intro H locs ls hR hS hl h0 hlim
  obtain ⟨hx, hb, hml, hown, hts, hin, hEv, hE1, hE2, hbs, hRf, hRl, hRc, hRs, hz0, hG⟩ := id hcx
  have hlen2 : len = 1 := by simpa [okLen] using hlen
  subst hlen2
  unfold stepI at h
  dsimp only at h
  split at h
  case h_1 v r =>
    cases hv : v.category == 1 with
    | false => rw [hv] at h; exact h.elim
    | true =>
      rw [hv] at h
      exact lv_pop hx hb hd (by rw [rv_cat]; simpa using hv) (hX _ _ _ _ _ _ _ h H locs ls hR hS hl h0 hlim)
  case h_2 => exact h.elim
theorem am_dup2 (hcx : cxA p R s m args meth c D cA E Ev G j lim n0 d) {C : aC} {Q : aQ} {X : aX} (hX : ∀ t lv st M N P nx, X t lv st M N P nx → mpA p l e R s m args below meth c D cA E j lim n0 Z t lv st M N P nx) {pc len : Nat} {lv : aL} {st : List Value} {M : aM} {N : aN} {P : aP} {nx : Nat}  (hd : decode (mCode j) pc = .ok (.dup2, len)) (hlen : okLen (.dup2) len = true) (h : stepI C G j lim Q X pc len (.dup2) lv st M N P nx) : mpA p l e R s m args below meth c D cA E j lim n0 Z pc lv st M N P nx := by
  intro H locs ls hR hS hl h0 hlim
  obtain ⟨hx, hb, hml, hown, hts, hin, hEv, hE1, hE2, hbs, hRf, hRl, hRc, hRs, hz0, hG⟩ := id hcx
  have hlen2 : len = 1 := by simpa [okLen] using hlen
  subst hlen2
  unfold stepI at h
  dsimp only at h
  split at h
  case h_1 v w r =>
    cases hv : (v.category == 1 && w.category == 1) with
    | false => rw [hv] at h; exact h.elim
    | true =>
      rw [hv] at h
      simp only [Bool.and_eq_true, beq_iff_eq] at hv
      exact lv_dup2_11 hx hb hd (by rw [rv_cat]; exact hv.1) (by rw [rv_cat]; exact hv.2) (hX _ _ _ _ _ _ _ h H locs ls hR hS hl h0 hlim)
  case h_2 => exact h.elim
theorem am_goto (hcx : cxA p R s m args meth c D cA E Ev G j lim n0 d) {C : aC} {Q : aQ} {X : aX} (hX : ∀ t lv st M N P nx, X t lv st M N P nx → mpA p l e R s m args below meth c D cA E j lim n0 Z t lv st M N P nx) {pc len : Nat} {lv : aL} {st : List Value} {M : aM} {N : aN} {P : aP} {nx : Nat} {off : Int} (hd : decode (mCode j) pc = .ok (.goto off, len)) (hlen : okLen (.goto off) len = true) (h : stepI C G j lim Q X pc len (.goto off) lv st M N P nx) : mpA p l e R s m args below meth c D cA E j lim n0 Z pc lv st M N P nx := by
  intro H locs ls hR hS hl h0 hlim
  obtain ⟨hx, hb, hml, hown, hts, hin, hEv, hE1, hE2, hbs, hRf, hRl, hRc, hRs, hz0, hG⟩ := id hcx
  have hlen2 : len = 3 := by simpa [okLen] using hlen
  subst hlen2
  obtain ⟨t, ht, h⟩ := jmp_el h
  exact lv_goto hx hb hd ht (hX _ _ _ _ _ _ _ h H locs ls hR hS hl h0 hlim)
theorem am_ifCond (hcx : cxA p R s m args meth c D cA E Ev G j lim n0 d) {C : aC} {Q : aQ} {X : aX} (hX : ∀ t lv st M N P nx, X t lv st M N P nx → mpA p l e R s m args below meth c D cA E j lim n0 Z t lv st M N P nx) {pc len : Nat} {lv : aL} {st : List Value} {M : aM} {N : aN} {P : aP} {nx : Nat} {cd : ClassFile.Cond} {off : Int} (hd : decode (mCode j) pc = .ok (.ifCond cd off, len)) (hlen : okLen (.ifCond cd off) len = true) (h : stepI C G j lim Q X pc len (.ifCond cd off) lv st M N P nx) : mpA p l e R s m args below meth c D cA E j lim n0 Z pc lv st M N P nx := by
  intro H locs ls hR hS hl h0 hlim
  obtain ⟨hx, hb, hml, hown, hts, hin, hEv, hE1, hE2, hbs, hRf, hRl, hRc, hRs, hz0, hG⟩ := id hcx
  have hlen2 : len = 3 := by simpa [okLen] using hlen
  subst hlen2
  unfold stepI s1i at h
  dsimp only at h
  split at h
  case h_1 x r =>
    obtain ⟨t, ht, h⟩ := jmp_el h
    cases cd
    case eq => exact lv_if_eq hx hb hd ht (fun z => hX _ _ _ _ _ _ _ (h.1 z) H locs ls hR hS hl h0 hlim) (fun z => hX _ _ _ _ _ _ _ (h.2 z) H locs ls hR hS hl h0 hlim)
    case ne => exact lv_if_ne hx hb hd ht (fun z => hX _ _ _ _ _ _ _ (h.1 z) H locs ls hR hS hl h0 hlim) (fun z => hX _ _ _ _ _ _ _ (h.2 z) H locs ls hR hS hl h0 hlim)
    case lt => exact lv_if_lt hx hb hd ht (fun z => hX _ _ _ _ _ _ _ (h.1 z) H locs ls hR hS hl h0 hlim) (fun z => hX _ _ _ _ _ _ _ (h.2 z) H locs ls hR hS hl h0 hlim)
    case ge => exact lv_if_ge hx hb hd ht (fun z => hX _ _ _ _ _ _ _ (h.1 z) H locs ls hR hS hl h0 hlim) (fun z => hX _ _ _ _ _ _ _ (h.2 z) H locs ls hR hS hl h0 hlim)
    case gt => exact lv_if_gt hx hb hd ht (fun z => hX _ _ _ _ _ _ _ (h.1 z) H locs ls hR hS hl h0 hlim) (fun z => hX _ _ _ _ _ _ _ (h.2 z) H locs ls hR hS hl h0 hlim)
    case le => exact lv_if_le hx hb hd ht (fun z => hX _ _ _ _ _ _ _ (h.1 z) H locs ls hR hS hl h0 hlim) (fun z => hX _ _ _ _ _ _ _ (h.2 z) H locs ls hR hS hl h0 hlim)
  case h_2 => exact h.elim
theorem am_if_icmp (hcx : cxA p R s m args meth c D cA E Ev G j lim n0 d) {C : aC} {Q : aQ} {X : aX} (hX : ∀ t lv st M N P nx, X t lv st M N P nx → mpA p l e R s m args below meth c D cA E j lim n0 Z t lv st M N P nx) {pc len : Nat} {lv : aL} {st : List Value} {M : aM} {N : aN} {P : aP} {nx : Nat} {cd : ClassFile.Cond} {off : Int} (hd : decode (mCode j) pc = .ok (.if_icmp cd off, len)) (hlen : okLen (.if_icmp cd off) len = true) (h : stepI C G j lim Q X pc len (.if_icmp cd off) lv st M N P nx) : mpA p l e R s m args below meth c D cA E j lim n0 Z pc lv st M N P nx := by
  intro H locs ls hR hS hl h0 hlim
  obtain ⟨hx, hb, hml, hown, hts, hin, hEv, hE1, hE2, hbs, hRf, hRl, hRc, hRs, hz0, hG⟩ := id hcx
  have hlen2 : len = 3 := by simpa [okLen] using hlen
  subst hlen2
  unfold stepI s2i at h
  dsimp only at h
  split at h
  case h_1 y x r =>
    obtain ⟨t, ht, h⟩ := jmp_el h
    cases cd
    case eq => exact lv_icmp_eq hx hb hd ht (fun z => hX _ _ _ _ _ _ _ (h.1 z) H locs ls hR hS hl h0 hlim) (fun z => hX _ _ _ _ _ _ _ (h.2 z) H locs ls hR hS hl h0 hlim)
    case ne => exact lv_icmp_ne hx hb hd ht (fun z => hX _ _ _ _ _ _ _ (h.1 z) H locs ls hR hS hl h0 hlim) (fun z => hX _ _ _ _ _ _ _ (h.2 z) H locs ls hR hS hl h0 hlim)
    case lt => exact lv_icmp_lt hx hb hd ht (fun z => hX _ _ _ _ _ _ _ (h.1 z) H locs ls hR hS hl h0 hlim) (fun z => hX _ _ _ _ _ _ _ (h.2 z) H locs ls hR hS hl h0 hlim)
    case ge => exact lv_icmp_ge hx hb hd ht (fun z => hX _ _ _ _ _ _ _ (h.1 z) H locs ls hR hS hl h0 hlim) (fun z => hX _ _ _ _ _ _ _ (h.2 z) H locs ls hR hS hl h0 hlim)
    case gt => exact lv_icmp_gt hx hb hd ht (fun z => hX _ _ _ _ _ _ _ (h.1 z) H locs ls hR hS hl h0 hlim) (fun z => hX _ _ _ _ _ _ _ (h.2 z) H locs ls hR hS hl h0 hlim)
    case le => exact lv_icmp_le hx hb hd ht (fun z => hX _ _ _ _ _ _ _ (h.1 z) H locs ls hR hS hl h0 hlim) (fun z => hX _ _ _ _ _ _ _ (h.2 z) H locs ls hR hS hl h0 hlim)
  case h_2 => exact h.elim
theorem am_tableswitch (hcx : cxA p R s m args meth c D cA E Ev G j lim n0 d) {C : aC} {Q : aQ} {X : aX} (hX : ∀ t lv st M N P nx, X t lv st M N P nx → mpA p l e R s m args below meth c D cA E j lim n0 Z t lv st M N P nx) {pc len : Nat} {lv : aL} {st : List Value} {M : aM} {N : aN} {P : aP} {nx : Nat} {df lo hi : Int} {offs : Array Int} (hd : decode (mCode j) pc = .ok (.tableswitch df lo hi offs, len)) (hsw : okSw (.tableswitch df lo hi offs) = true) (h : stepI C G j lim Q X pc len (.tableswitch df lo hi offs) lv st M N P nx) : mpA p l e R s m args below meth c D cA E j lim n0 Z pc lv st M N P nx := by
  intro H locs ls hR hS hl h0 hlim
  obtain ⟨hx, hb, hml, hown, hts, hin, hEv, hE1, hE2, hbs, hRf, hRl, hRc, hRs, hz0, hG⟩ := id hcx
  unfold stepI s1i at h
  dsimp only at h
  split at h
  case h_2 => exact h.elim
  case h_1 x r =>
  simp only [okSw, Bool.and_eq_true, beq_iff_eq, decide_eq_true_eq] at hsw
  obtain ⟨⟨s1, s2⟩, s3⟩ := hsw
  have hsz : offs.toList.length = offs.size := Array.length_toList
  obtain ⟨a, b⟩ := swT_el offs.toList lo s2 (by rw [hsz]; omega) h
  by_cases ho : x.toInt < lo ∨ hi < x.toInt
  · obtain ⟨t, ht, h⟩ := jmp_el (b (by rw [hsz]; omega))
    exact lv_tableOut hx hb hd ho ht (hX _ _ _ _ _ _ _ h H locs ls hR hS hl h0 hlim)
  · obtain ⟨off, e1, h⟩ := a (x.toInt - lo).toNat (by omega) (by rw [hsz]; omega)
    obtain ⟨t, ht, h⟩ := jmp_el h
    exact lv_tableIn hx hb hd (fun z => ho (Or.inl z)) (fun z => ho (Or.inr z)) (by rw [← Array.getElem?_toList]; exact e1) ht (hX _ _ _ _ _ _ _ h H locs ls hR hS hl h0 hlim)
theorem am_lookupswitch (hcx : cxA p R s m args meth c D cA E Ev G j lim n0 d) {C : aC} {Q : aQ} {X : aX} (hX : ∀ t lv st M N P nx, X t lv st M N P nx → mpA p l e R s m args below meth c D cA E j lim n0 Z t lv st M N P nx) {pc len : Nat} {lv : aL} {st : List Value} {M : aM} {N : aN} {P : aP} {nx : Nat} {df : Int} {ps : Array (Int × Int)} (hd : decode (mCode j) pc = .ok (.lookupswitch df ps, len)) (hsw : okSw (.lookupswitch df ps) = true) (h : stepI C G j lim Q X pc len (.lookupswitch df ps) lv st M N P nx) : mpA p l e R s m args below meth c D cA E j lim n0 Z pc lv st M N P nx := by
  intro H locs ls hR hS hl h0 hlim
  obtain ⟨hx, hb, hml, hown, hts, hin, hEv, hE1, hE2, hbs, hRf, hRl, hRc, hRs, hz0, hG⟩ := id hcx
  unfold stepI s1i at h
  dsimp only at h
  split at h
  case h_2 => exact h.elim
  case h_1 x r =>
  rw [okSw, Bool.and_eq_true] at hsw
  obtain ⟨t, ht, h⟩ := jmp_el (swL_el ps.toList hsw.2 h)
  exact lv_lookup hx hb hd hsw.1 rfl ht (hX _ _ _ _ _ _ _ h H locs ls hR hS hl h0 hlim)
theorem am_getfield (hcx : cxA p R s m args meth c D cA E Ev G j lim n0 d) {C : aC} {Q : aQ} {X : aX} (hX : ∀ t lv st M N P nx, X t lv st M N P nx → mpA p l e R s m args below meth c D cA E j lim n0 Z t lv st M N P nx) {pc len : Nat} {lv : aL} {st : List Value} {M : aM} {N : aN} {P : aP} {nx : Nat} {n : Nat} (hd : decode (mCode j) pc = .ok (.getfield n, len)) (hlen : okLen (.getfield n) len = true) (h : stepI C G j lim Q X pc len (.getfield n) lv st M N P nx) : mpA p l e R s m args below meth c D cA E j lim n0 Z pc lv st M N P nx := by
  intro H locs ls hR hS hl h0 hlim
  obtain ⟨hx, hb, hml, hown, hts, hin, hEv, hE1, hE2, hbs, hRf, hRl, hRc, hRs, hz0, hG⟩ := id hcx
  have hlen2 : len = 3 := by simpa [okLen] using hlen
  subst hlen2
  unfold stepI s1r at h
  dsimp only at h
  split at h
  case h_2 => exact h.elim
  case h_1 o r =>
  split at h
  case h_2 => exact h.elim
  case h_1 ci k hf =>
  obtain ⟨hO, h⟩ := h
  obtain ⟨q, hq, hk, hlink⟩ := fa_all hf
  obtain ⟨c1, c2, c3, c4, c5, c6⟩ := cx_all ci q hq
  have hget := wsW_get (cA := cA) (bs := E.1) (M := M) (N := N) (P := P) hO.2 (kind_lt hO.1 (by decide))
  rw [ceW_obj hO.1] at hget
  refine va_get (D := D) (ci := ci) (C := q.1) (T := q.2.1) (N := q.2.2) (ref := q.1) hx hb hts c1 hown (hE2 s H (ev_at hcx hS)).1 hR o hget hq k hk (hts _ hlink) (fun _ h9 => by rw [c6 k hk] at h9; exact h9) (fsW_get (by rw [nF_eq hq]; exact hk)) hd ?_
  have hty := ty_all ci (by have := (List.getElem?_eq_some_iff.mp hq).1; simpa using this) k (by rw [nF_eq hq]; exact hk)
  revert h hty
  generalize cTy ci k = ty
  intro h hty
  cases ty <;> first | (exact absurd hty (by decide)) | skip
  case int => exact hX _ _ _ _ _ _ _ h H locs ls hR hS hl h0 hlim
  case long => exact hX _ _ _ _ _ _ _ h H locs ls hR hS hl h0 hlim
  all_goals (obtain ⟨a, ha, h⟩ := h; show W _ _ _ _ _ _ _ _ _ _ _ _ _ _ _ (F0 m (pc + 3) ls ((match P o k with | none => Value.null | some a => .ref (E.1 + a)) :: r.map (rv E))); rw [ha]; exact hX _ _ _ _ _ _ _ h H locs ls hR hS hl h0 hlim)
theorem am_putfield (hcx : cxA p R s m args meth c D cA E Ev G j lim n0 d) {C : aC} {Q : aQ} {X : aX} (hX : ∀ t lv st M N P nx, X t lv st M N P nx → mpA p l e R s m args below meth c D cA E j lim n0 Z t lv st M N P nx) {pc len : Nat} {lv : aL} {st : List Value} {M : aM} {N : aN} {P : aP} {nx : Nat} {n : Nat} (hd : decode (mCode j) pc = .ok (.putfield n, len)) (hlen : okLen (.putfield n) len = true) (h : stepI C G j lim Q X pc len (.putfield n) lv st M N P nx) : mpA p l e R s m args below meth c D cA E j lim n0 Z pc lv st M N P nx := by
  intro H locs ls hR hS hl h0 hlim
  obtain ⟨hx, hb, hml, hown, hts, hin, hEv, hE1, hE2, hbs, hRf, hRl, hRc, hRs, hz0, hG⟩ := id hcx
  have hlen2 : len = 3 := by simpa [okLen] using hlen
  subst hlen2
  unfold stepI at h
  dsimp only at h
  split at h
  case h_2 => exact h.elim
  case h_1 ci k hf =>
  obtain ⟨q, hq, hk, hlink⟩ := fa_all hf
  obtain ⟨c1, c2, c3, c4, c5, c6⟩ := cx_all ci q hq
  have hff : fldFin ci k = (q.2.1 k).2.2.2 := by unfold fldFin; rw [hq]
  have hci8 : ci < 8 := by have := (List.getElem?_eq_some_iff.mp hq).1; simpa using this
  have hnF : k < nF ci := by rw [nF_eq hq]; exact hk
  cases hfb : (fldFin ci k && !(mKind j == 2 && mOwn j == ci)) with
  | true => rw [hfb] at h; exact h.elim
  | false =>
  rw [hfb] at h
  have hK := (hE2 s H (ev_at hcx hS)).1
  have put : ∀ (o : Nat) (v : Value) (r : List Value) (M2 : aM) (N2 : aN) (P2 : aP), okO nx o ci → narrow (cTy ci k) v = v → fits (cTy ci k) v = true → v = fvW E.1 (cTy ci k) M2 N2 P2 o k → (∀ i, i ≠ k → fvW E.1 (cTy ci i) M2 N2 P2 o i = fvW E.1 (cTy ci i) M N P o i) → (∀ i, i ≠ o → M2 i = M i ∧ N2 i = N i ∧ P2 i = P i) → X (pc + 3) lv r M2 N2 P2 nx → W p l e R s m args below meth c H locs (nx - n0) (1068 * (nx - n0)) Z (F0 m pc ls (v :: .ref (E.1 + o) :: r.map (rv E))) := by
    intro o v r M2 N2 P2 hO hn hfi hv hsame hoth hgo
    have hget := wsW_get (cA := cA) (bs := E.1) (M := M) (N := N) (P := P) hO.2 (kind_lt hO.1 (by decide))
    rw [ceW_obj hO.1] at hget
    have hset : (wsW cA E.1 M N P nx).set o (E.1 + o, .inr (ci, (fsW E.1 ci M N P o).set k v)) = wsW cA E.1 M2 N2 P2 nx := wsW_set (by rw [ceW_obj hO.1, fsW_set hv hsame]) (fun i hi => ceW_eq (hoth i hi).1 (hoth i hi).2.1 (hoth i hi).2.2)
    cases hfin : (q.2.1 k).2.2.2 with
    | false => exact va_put (D := D) (ci := ci) (C := q.1) (T := q.2.1) (N := q.2.2) (ref := q.1) (ty := cTy ci k) hx hb hts c1 (cTy ci) c2 c3 hown hK hR wsW_D hS o hget hq k hk (hts _ hlink) (fun _ h9 => by rw [c6 k hk] at h9; exact h9) hfin (c2 k hk) hn hfi (by rw [fsW_len]; exact hnF) hd (fun H1 locs1 hP1 _ hS1 => by rw [hset] at hP1; exact hX _ _ _ _ _ _ _ hgo H1 locs1 ls hP1 hS1 hl h0 hlim)
    | true =>
      rw [hff, hfin] at hfb
      simp only [Bool.true_and, Bool.not_eq_false', Bool.and_eq_true, beq_iff_eq] at hfb
      exact va_putF (D := D) (ci := ci) (C := q.1) (T := q.2.1) (N := q.2.2) (ref := q.1) (own := oName (mOwn j)) (ty := cTy ci k) hx hb hts c1 (cTy ci) c2 c3 hown hK hR wsW_D hS o hget hq k hk (hts _ hlink) (fun _ h9 => by rw [c6 k hk] at h9; exact h9) hfin (hin hfb.1) (by rw [c6 k hk, hfb.2]; exact oName_cl ci q hq) (c2 k hk) hn hfi (by rw [fsW_len]; exact hnF) hd (fun H1 locs1 hP1 _ hS1 => by rw [hset] at hP1; exact hX _ _ _ _ _ _ _ hgo H1 locs1 ls hP1 hS1 hl h0 hlim)
  have hty := ty_all ci hci8 k hnF
  have fve : ∀ (ty : FieldType) (M2 M1 : aM) (N2 N1 : aN) (P2 P1 : aP) (o i : Nat), M2 o i = M1 o i → N2 o i = N1 o i → P2 o i = P1 o i → fvW E.1 ty M2 N2 P2 o i = fvW E.1 ty M1 N1 P1 o i := by
    intro ty M2 M1 N2 N1 P2 P1 o i e1 e2 e3
    unfold fvW
    rw [e1, e2, e3]
  unfold putP at h
  split at h
  case h_1 hty1 =>
    split at h
    case h_2 => exact h.elim
    case h_1 x o r =>
    obtain ⟨hO, h⟩ := h
    exact put o (.int x) r _ _ _ hO (by rw [hty1]; rfl) (by rw [hty1]; rfl) (by rw [hty1]; show _ = Value.int (uM M o k x o k); rw [uM_eq, up_eq]) (fun i hi => fve _ _ _ _ _ _ _ _ _ (by rw [uM_eq, up_ne hi]) rfl rfl) (fun i hi => ⟨uM_ne hi, rfl, rfl⟩) h
  case h_2 hty1 =>
    split at h
    case h_2 => exact h.elim
    case h_1 x o r =>
    obtain ⟨hO, h⟩ := h
    exact put o (.long x) r _ _ _ hO (by rw [hty1]; rfl) (by rw [hty1]; rfl) (by rw [hty1]; show _ = Value.long (uN N o k x o k); rw [uN_eq, up_eq]) (fun i hi => fve _ _ _ _ _ _ _ _ _ rfl (by rw [uN_eq, up_ne hi]) rfl) (fun i hi => ⟨rfl, uN_ne hi, rfl⟩) h
  case h_3 hn1 hn2 =>
    split at h
    case h_2 => exact h.elim
    case h_1 x o r =>
    obtain ⟨hO, h⟩ := h
    refine put o (.ref (E.1 + x)) r _ _ _ hO ?_ ?_ ?_ (fun i hi => fve _ _ _ _ _ _ _ _ _ rfl rfl (by rw [uP_eq, up_ne hi])) (fun i hi => ⟨rfl, rfl, uP_ne hi⟩) h
    · cases hc : cTy ci k <;> first | rfl | (rw [hc] at hty; exact absurd hty (by decide))
    · cases hc : cTy ci k <;> first | rfl | (rw [hc] at hty; exact absurd hty (by decide)) | exact absurd hc hn1 | exact absurd hc hn2
    · cases hc : cTy ci k <;> first | (rw [hc] at hty; exact absurd hty (by decide)) | exact absurd hc hn1 | exact absurd hc hn2 | (show _ = match uP P o k (some x) o k with | none => Value.null | some a => .ref (E.1 + a); rw [uP_eq, up_eq])
theorem am_iaload (hcx : cxA p R s m args meth c D cA E Ev G j lim n0 d) {C : aC} {Q : aQ} {X : aX} (hX : ∀ t lv st M N P nx, X t lv st M N P nx → mpA p l e R s m args below meth c D cA E j lim n0 Z t lv st M N P nx) {pc len : Nat} {lv : aL} {st : List Value} {M : aM} {N : aN} {P : aP} {nx : Nat} (hG31 : G.1 < 2 ^ 31) (hd : decode (mCode j) pc = .ok (.iaload, len)) (hlen : okLen (.iaload) len = true) (h : stepI C G j lim Q X pc len (.iaload) lv st M N P nx) : mpA p l e R s m args below meth c D cA E j lim n0 Z pc lv st M N P nx := by
  intro H locs ls hR hS hl h0 hlim
  obtain ⟨hx, hb, hml, hown, hts, hin, hEv, hE1, hE2, hbs, hRf, hRl, hRc, hRs, hz0, hG⟩ := id hcx
  have hlen2 : len = 1 := by simpa [okLen] using hlen
  subst hlen2
  unfold stepI at h
  dsimp only at h
  split at h
  case h_1 i a r =>
    obtain ⟨k, hA, h⟩ := h
    obtain ⟨a1, a2, a3, a4⟩ := hA
    have h44 := kind_lt' a1 (by decide)
    obtain ⟨hin1, hcl⟩ := in_A a3 a4 (kind_sz a h44)
    have hget := wsW_get (cA := cA) (bs := E.1) (M := M) (N := N) (P := P) a2 h44
    have hK := (hE2 s H (ev_at hcx hS)).1
    rw [ceW_row a1 (by decide) (by decide)] at hget
    refine va_iald hx hb hK hR a 0 hget rfl hin1 hd ?_
    rw [hcl]
    exact hX _ _ _ _ _ _ _ h H locs ls hR hS hl h0 hlim
  case h_2 i r =>
    cases hj : j == 217 with
    | false => rw [hj] at h; exact h.elim
    | true =>
      rw [hj] at h
      obtain ⟨k, e1, e2, h⟩ := h
      obtain ⟨x1, x2, x3⟩ := hG (by simpa using hj)
      have hlt : G.1 < 2 ^ 31 := hG31
      have hcl : i.toNatClampNeg = k := by rw [e1]; exact nI_clamp (by omega)
      refine va_sld hx hb x1 x2 x3 hS (by rw [e1]; exact vp_in_nI e2 hlt) hd ?_
      rw [hcl]
      exact hX _ _ _ _ _ _ _ h H locs ls hR hS hl h0 hlim
  case h_3 => exact h.elim
theorem am_baload (hcx : cxA p R s m args meth c D cA E Ev G j lim n0 d) {C : aC} {Q : aQ} {X : aX} (hX : ∀ t lv st M N P nx, X t lv st M N P nx → mpA p l e R s m args below meth c D cA E j lim n0 Z t lv st M N P nx) {pc len : Nat} {lv : aL} {st : List Value} {M : aM} {N : aN} {P : aP} {nx : Nat}  (hd : decode (mCode j) pc = .ok (.baload, len)) (hlen : okLen (.baload) len = true) (h : stepI C G j lim Q X pc len (.baload) lv st M N P nx) : mpA p l e R s m args below meth c D cA E j lim n0 Z pc lv st M N P nx := by
  intro H locs ls hR hS hl h0 hlim
  obtain ⟨hx, hb, hml, hown, hts, hin, hEv, hE1, hE2, hbs, hRf, hRl, hRc, hRs, hz0, hG⟩ := id hcx
  have hlen2 : len = 1 := by simpa [okLen] using hlen
  subst hlen2
  unfold stepI at h
  dsimp only at h
  split at h
  case h_2 => exact h.elim
  case h_1 i a r =>
    obtain ⟨k, hA | hA, h⟩ := h
    · obtain ⟨a1, a2, a3, a4⟩ := hA
      have h44 := kind_lt' a1 (by decide)
      obtain ⟨hin1, hcl⟩ := in_A a3 a4 (kind_sz a h44)
      have hget := wsW_get (cA := cA) (bs := E.1) (M := M) (N := N) (P := P) a2 h44
      have hK := (hE2 s H (ev_at hcx hS)).1
      rw [ceW_row a1 (by decide) (by decide)] at hget
      refine va_bald hx hb hK hR a 1 hget rfl hin1 hd ?_
      rw [hcl]
      exact hX _ _ _ _ _ _ _ h H locs ls hR hS hl h0 hlim
    · obtain ⟨a1, a2, a3, a4⟩ := hA
      have h44 := kind_lt' a1 (by decide)
      obtain ⟨hin1, hcl⟩ := in_A a3 a4 (kind_sz a h44)
      have hget := wsW_get (cA := cA) (bs := E.1) (M := M) (N := N) (P := P) a2 h44
      have hK := (hE2 s H (ev_at hcx hS)).1
      rw [ceW_row a1 (by decide) (by decide)] at hget
      refine va_zald hx hb hK hR a 2 hget rfl hin1 hd ?_
      rw [hcl]
      exact hX _ _ _ _ _ _ _ h H locs ls hR hS hl h0 hlim
theorem am_laload (hcx : cxA p R s m args meth c D cA E Ev G j lim n0 d) {C : aC} {Q : aQ} {X : aX} (hX : ∀ t lv st M N P nx, X t lv st M N P nx → mpA p l e R s m args below meth c D cA E j lim n0 Z t lv st M N P nx) {pc len : Nat} {lv : aL} {st : List Value} {M : aM} {N : aN} {P : aP} {nx : Nat}  (hd : decode (mCode j) pc = .ok (.laload, len)) (hlen : okLen (.laload) len = true) (h : stepI C G j lim Q X pc len (.laload) lv st M N P nx) : mpA p l e R s m args below meth c D cA E j lim n0 Z pc lv st M N P nx := by
  intro H locs ls hR hS hl h0 hlim
  obtain ⟨hx, hb, hml, hown, hts, hin, hEv, hE1, hE2, hbs, hRf, hRl, hRc, hRs, hz0, hG⟩ := id hcx
  have hlen2 : len = 1 := by simpa [okLen] using hlen
  subst hlen2
  unfold stepI at h
  dsimp only at h
  split at h
  case h_2 => exact h.elim
  case h_1 i a r =>
    obtain ⟨k, hA, h⟩ := h
    obtain ⟨a1, a2, a3, a4⟩ := hA
    have h44 := kind_lt' a1 (by decide)
    obtain ⟨hin1, hcl⟩ := in_A a3 a4 (kind_sz a h44)
    have hget := wsW_get (cA := cA) (bs := E.1) (M := M) (N := N) (P := P) a2 h44
    have hK := (hE2 s H (ev_at hcx hS)).1
    rw [ceW_long a1] at hget
    refine va_lald hx hb hK hR a 3 hget rfl hin1 hd ?_
    rw [hcl]
    exact hX _ _ _ _ _ _ _ h H locs ls hR hS hl h0 hlim
theorem am_iastore (hcx : cxA p R s m args meth c D cA E Ev G j lim n0 d) {C : aC} {Q : aQ} {X : aX} (hX : ∀ t lv st M N P nx, X t lv st M N P nx → mpA p l e R s m args below meth c D cA E j lim n0 Z t lv st M N P nx) {pc len : Nat} {lv : aL} {st : List Value} {M : aM} {N : aN} {P : aP} {nx : Nat}  (hd : decode (mCode j) pc = .ok (.iastore, len)) (hlen : okLen (.iastore) len = true) (h : stepI C G j lim Q X pc len (.iastore) lv st M N P nx) : mpA p l e R s m args below meth c D cA E j lim n0 Z pc lv st M N P nx := by
  intro H locs ls hR hS hl h0 hlim
  obtain ⟨hx, hb, hml, hown, hts, hin, hEv, hE1, hE2, hbs, hRf, hRl, hRc, hRs, hz0, hG⟩ := id hcx
  have hlen2 : len = 1 := by simpa [okLen] using hlen
  subst hlen2
  unfold stepI at h
  dsimp only at h
  split at h
  case h_2 => exact h.elim
  case h_1 x i a r =>
    obtain ⟨k, hA, h⟩ := h
    obtain ⟨a1, a2, a3, a4⟩ := hA
    have h44 := kind_lt' a1 (by decide)
    obtain ⟨hin1, hcl⟩ := in_A a3 a4 (kind_sz a h44)
    have hget := wsW_get (cA := cA) (bs := E.1) (M := M) (N := N) (P := P) a2 h44
    have hK := (hE2 s H (ev_at hcx hS)).1
    rw [ceW_row a1 (by decide) (by decide)] at hget
    refine va_iast hx hb hK hR wsW_D hS a 0 hget rfl hin1 hd (fun H1 locs1 hP1 _ hS1 => ?_)
    have hset : (wsW cA E.1 M N P nx).set a (E.1 + a, .inl (cA 1, (kindOf a).2, .inl (upd (M a) k x))) = wsW cA E.1 (uM M a k x) N P nx := wsW_set (by rw [ceW_row a1 (by decide) (by decide), uM_eq]; rfl) (fun i hi => ceW_eq (uM_ne hi) rfl rfl)
    rw [hcl, hset] at hP1
    exact hX _ _ _ _ _ _ _ h H1 locs1 ls hP1 hS1 hl h0 hlim
theorem am_bastore (hcx : cxA p R s m args meth c D cA E Ev G j lim n0 d) {C : aC} {Q : aQ} {X : aX} (hX : ∀ t lv st M N P nx, X t lv st M N P nx → mpA p l e R s m args below meth c D cA E j lim n0 Z t lv st M N P nx) {pc len : Nat} {lv : aL} {st : List Value} {M : aM} {N : aN} {P : aP} {nx : Nat}  (hd : decode (mCode j) pc = .ok (.bastore, len)) (hlen : okLen (.bastore) len = true) (h : stepI C G j lim Q X pc len (.bastore) lv st M N P nx) : mpA p l e R s m args below meth c D cA E j lim n0 Z pc lv st M N P nx := by
  intro H locs ls hR hS hl h0 hlim
  obtain ⟨hx, hb, hml, hown, hts, hin, hEv, hE1, hE2, hbs, hRf, hRl, hRc, hRs, hz0, hG⟩ := id hcx
  have hlen2 : len = 1 := by simpa [okLen] using hlen
  subst hlen2
  unfold stepI at h
  dsimp only at h
  split at h
  case h_2 => exact h.elim
  case h_1 x i a r =>
    obtain ⟨k, y, ⟨hA, hy⟩ | ⟨hA, hz, hy⟩, h⟩ := h
    · subst hy
      obtain ⟨a1, a2, a3, a4⟩ := hA
      have h44 := kind_lt' a1 (by decide)
      obtain ⟨hin1, hcl⟩ := in_A a3 a4 (kind_sz a h44)
      have hget := wsW_get (cA := cA) (bs := E.1) (M := M) (N := N) (P := P) a2 h44
      have hK := (hE2 s H (ev_at hcx hS)).1
      rw [ceW_row a1 (by decide) (by decide)] at hget
      refine va_bast hx hb hK hR wsW_D hS a 1 hget rfl hin1 hd (fun H1 locs1 hP1 _ hS1 => ?_)
      have hset : (wsW cA E.1 M N P nx).set a (E.1 + a, .inl (cA 2, (kindOf a).2, .inl (upd (M a) k (x.toInt8.toInt32)))) = wsW cA E.1 (uM M a k x.toInt8.toInt32) N P nx := wsW_set (by rw [ceW_row a1 (by decide) (by decide), uM_eq]; rfl) (fun i hi => ceW_eq (uM_ne hi) rfl rfl)
      rw [hcl, vp_nar_byte, hset] at hP1
      exact hX _ _ _ _ _ _ _ h H1 locs1 ls hP1 hS1 hl h0 hlim
    · subst hy
      obtain ⟨a1, a2, a3, a4⟩ := hA
      have h44 := kind_lt' a1 (by decide)
      obtain ⟨hin1, hcl⟩ := in_A a3 a4 (kind_sz a h44)
      have hget := wsW_get (cA := cA) (bs := E.1) (M := M) (N := N) (P := P) a2 h44
      have hK := (hE2 s H (ev_at hcx hS)).1
      rw [ceW_row a1 (by decide) (by decide)] at hget
      refine va_zast hx hb hK hR wsW_D hS a 2 hget rfl hin1 hd (fun H1 locs1 hP1 _ hS1 => ?_)
      have hset : (wsW cA E.1 M N P nx).set a (E.1 + a, .inl (cA 3, (kindOf a).2, .inl (upd (M a) k y))) = wsW cA E.1 (uM M a k y) N P nx := wsW_set (by rw [ceW_row a1 (by decide) (by decide), uM_eq]; rfl) (fun i hi => ceW_eq (uM_ne hi) rfl rfl)
      rw [hcl, narZ' hz, hset] at hP1
      exact hX _ _ _ _ _ _ _ h H1 locs1 ls hP1 hS1 hl h0 hlim
theorem am_lastore (hcx : cxA p R s m args meth c D cA E Ev G j lim n0 d) {C : aC} {Q : aQ} {X : aX} (hX : ∀ t lv st M N P nx, X t lv st M N P nx → mpA p l e R s m args below meth c D cA E j lim n0 Z t lv st M N P nx) {pc len : Nat} {lv : aL} {st : List Value} {M : aM} {N : aN} {P : aP} {nx : Nat}  (hd : decode (mCode j) pc = .ok (.lastore, len)) (hlen : okLen (.lastore) len = true) (h : stepI C G j lim Q X pc len (.lastore) lv st M N P nx) : mpA p l e R s m args below meth c D cA E j lim n0 Z pc lv st M N P nx := by
  intro H locs ls hR hS hl h0 hlim
  obtain ⟨hx, hb, hml, hown, hts, hin, hEv, hE1, hE2, hbs, hRf, hRl, hRc, hRs, hz0, hG⟩ := id hcx
  have hlen2 : len = 1 := by simpa [okLen] using hlen
  subst hlen2
  unfold stepI at h
  dsimp only at h
  split at h
  case h_2 => exact h.elim
  case h_1 x i a r =>
    obtain ⟨k, hA, h⟩ := h
    obtain ⟨a1, a2, a3, a4⟩ := hA
    have h44 := kind_lt' a1 (by decide)
    obtain ⟨hin1, hcl⟩ := in_A a3 a4 (kind_sz a h44)
    have hget := wsW_get (cA := cA) (bs := E.1) (M := M) (N := N) (P := P) a2 h44
    have hK := (hE2 s H (ev_at hcx hS)).1
    rw [ceW_long a1] at hget
    refine va_last hx hb hK hR wsW_D hS a 3 hget rfl hin1 hd (fun H1 locs1 hP1 _ hS1 => ?_)
    have hset : (wsW cA E.1 M N P nx).set a (E.1 + a, .inl (cA 4, (kindOf a).2, .inr (.inl (vp_updL (N a) k x)))) = wsW cA E.1 M (uN N a k x) P nx := wsW_set (by rw [ceW_long a1, uN_eq]; rfl) (fun i hi => ceW_eq rfl (uN_ne hi) rfl)
    rw [hcl, hset] at hP1
    exact hX _ _ _ _ _ _ _ h H1 locs1 ls hP1 hS1 hl h0 hlim
theorem am_arraylength (hcx : cxA p R s m args meth c D cA E Ev G j lim n0 d) {C : aC} {Q : aQ} {X : aX} (hX : ∀ t lv st M N P nx, X t lv st M N P nx → mpA p l e R s m args below meth c D cA E j lim n0 Z t lv st M N P nx) {pc len : Nat} {lv : aL} {st : List Value} {M : aM} {N : aN} {P : aP} {nx : Nat}  (hd : decode (mCode j) pc = .ok (.arraylength, len)) (hlen : okLen (.arraylength) len = true) (h : stepI C G j lim Q X pc len (.arraylength) lv st M N P nx) : mpA p l e R s m args below meth c D cA E j lim n0 Z pc lv st M N P nx := by
  intro H locs ls hR hS hl h0 hlim
  obtain ⟨hx, hb, hml, hown, hts, hin, hEv, hE1, hE2, hbs, hRf, hRl, hRc, hRs, hz0, hG⟩ := id hcx
  have hlen2 : len = 1 := by simpa [okLen] using hlen
  subst hlen2
  unfold stepI at h
  dsimp only at h
  split at h
  case h_1 a r =>
    obtain ⟨a1, a2, h⟩ := h
    have h44 := kind_lt' a1 (by decide)
    have hget := wsW_get (cA := cA) (bs := E.1) (M := M) (N := N) (P := P) a2 h44
    rw [ceW_row a1 (by decide) (by decide)] at hget
    exact va_alen hx hb (hE2 s H (ev_at hcx hS)).1 hR a 0 hget (ty := .int) rfl (v := nI (kindOf a).2) rfl hd (hX _ _ _ _ _ _ _ h H locs ls hR hS hl h0 hlim)
  case h_2 r =>
    cases hj : j == 217 with
    | false => rw [hj] at h; exact h.elim
    | true =>
      rw [hj] at h
      obtain ⟨x1, x2, x3⟩ := hG (by simpa using hj)
      exact va_slen hx hb x1 x2 x3 hS hd (hX _ _ _ _ _ _ _ h H locs ls hR hS hl h0 hlim)
  case h_3 => exact h.elim
end INS
end
section
/-! new cells, library calls, and all instructions together -/
theorem def_fv {bs : Nat} {ty : FieldType} {M : aM} {N : aN} {P : aP} {k i : Nat} (h : tyOK ty = true) : defaultValue ty = fvW bs ty (zM M k) (zN N k) (zP P k) k i := by
  have e1 : zM M k k i = 0 := by unfold zM; rw [up_eq]
  have e2 : zN N k k i = 0 := by unfold zN; rw [up_eq]
  have e3 : zP P k k i = none := by unfold zP; rw [up_eq]
  cases ty <;> first | (exact absurd h (by decide)) | skip
  case int => show Value.int 0 = Value.int _; rw [e1]
  case long => show Value.long 0 = Value.long _; rw [e2]
  all_goals (show Value.null = match zP P k k i with | none => Value.null | some a => .ref (bs + a); rw [e3])
section MAK
variable {p : Program} {l : Launch} {e : Env} {R : Room} {s : State} {m : MethodId} {args : Array Value} {below : List Frame} {meth : Method} {c : Code} {D : va_G} {cA : Nat → ClassId} {E : aE} {Ev : State → Heap → Prop} {G : aG} {j lim n0 d : Nat} {Z : State → Prop}
theorem am_new (hcx : cxA p R s m args meth c D cA E Ev G j lim n0 d) {C : aC} {Q : aQ} {X : aX} (hX : ∀ t lv st M N P nx, X t lv st M N P nx → mpA p l e R s m args below meth c D cA E j lim n0 Z t lv st M N P nx) {pc len : Nat} {lv : aL} {st : List Value} {M : aM} {N : aN} {P : aP} {nx : Nat} {n : Nat} (hd : decode (mCode j) pc = .ok (.new n, len)) (hlen : okLen (.new n) len = true) (hth : j = 96 → Q none M N P nx → mpA p l e R s m args below meth c D cA E j lim n0 Z pc lv st M N P nx) (h : stepI C G j lim Q X pc len (.new n) lv st M N P nx) : mpA p l e R s m args below meth c D cA E j lim n0 Z pc lv st M N P nx := by
  intro H locs ls hR hS hl h0 hlim
  refine W_size fun hsz => ?_
  obtain ⟨hx, hb, hml, hown, hts, hin, hEv, hE1, hE2, hbs, hRf, hRl, hRc, hRs, hz0, hG⟩ := id hcx
  have hlen2 : len = 3 := by simpa [okLen] using hlen
  subst hlen2
  unfold stepI at h
  dsimp only at h
  cases hj : j == 96 with
  | true =>
    rw [hj] at h
    exact hth (by simpa using hj) h H locs ls hR hS hl h0 hlim
  | false =>
  rw [hj] at h
  have h' : match newOf (mOwn j) n with
    | some ci => kindOf nx = (0, ci) ∧ nx + 1 ≤ lim ∧ X (pc + 3) lv (.ref nx :: st) (zM M nx) (zN N nx) (zP P nx) (nx + 1)
    | none => False := h
  clear h
  split at h'
  case h_2 => exact h'.elim
  case h_1 ci hn =>
  obtain ⟨k1, k2, h⟩ := h'
  have h44 := kind_lt k1 (by decide)
  have hs := size_at hcx hS hR h0 hsz (by omega)
  obtain ⟨q, hq, hlink⟩ := na_all hn
  obtain ⟨c1, c2, c3, c4, c5, c6⟩ := cx_all ci q hq
  have hci8 : ci < 8 := by have := (List.getElem?_eq_some_iff.mp hq).1; simpa using this
  have hK := (hE2 s H (ev_at hcx hS)).1
  have hKn := hK.1 ci q hq
  have hN : q.2.2 ≤ 1068 := by rw [← nF_eq hq]; have : ∀ ci, ci < 8 → nF ci ≤ 1068 := by decide +kernel
                               exact this ci hci8
  refine W.newcK hx hb hown (hts _ hlink) (hts _ c4) (hts _ c5) rfl hd (by omega) (by omega) hKn.2.1 (h := E.1 + nx) hs (fun H1 kC hkC e1 z1 o1 => ?_)
  refine W.widen (k := nx + 1 - n0) (n := 1068 * (nx + 1 - n0)) (by omega) (by omega) ?_
  have hk : ∀ (k : Nat) (x : Nat × va_E), (wsW cA E.1 M N P nx)[k]? = some x → H1[x.1]? = H[x.1]? := fun k x hx => o1 x.1 (by rw [← hs]; exact (hR k x hx).lt)
  have hP1 : relH D cA E.1 (zM M nx) (zN N nx) (zP P nx) (nx + 1) H1 := by
    unfold relH
    rw [← wsW_push (M := M) (N := N) (P := P) (e := .inr (ci, fsW E.1 ci (zM M nx) (zN N nx) (zP P nx) nx)) h44 (ceW_obj k1).symm (fun i hi => ceW_eq (up_ne (by omega)) (up_ne (by omega)) (up_ne (by omega)))]
    refine (hR.kept hk).app (fun k x hx => ?_)
    have hz : k < 1 := (List.getElem?_eq_some_iff.mp hx).1
    rw [show k = 0 by omega] at hx
    cases hx
    refine ⟨q, hq, (u_born (cTy ci) hts c1 hKn hkC e1 c2).to (fun i hi => ?_)⟩
    show defaultValue (cTy ci i) = (fsW E.1 ci (zM M nx) (zN N nx) (zP P nx) nx).getD i .null
    rw [List.getD_eq_getElem?_getD, fsW_get (by rw [nF_eq hq]; exact hi)]
    exact def_fv (ty_all ci hci8 i (by rw [nF_eq hq]; exact hi))
  have hS1 : va_S (aA E.1) s.heap H1 locs := ⟨Nat.le_trans hS.1 (by omega), fun x h1 h2 => (o1 x (by have := hS.1; omega)).trans (hS.2.1 x h1 h2), hS.2.2⟩
  exact hX _ _ _ _ _ _ _ h H1 locs ls hP1 hS1 hl (by omega) k2
theorem am_newarray (hcx : cxA p R s m args meth c D cA E Ev G j lim n0 d) {C : aC} {Q : aQ} {X : aX} (hX : ∀ t lv st M N P nx, X t lv st M N P nx → mpA p l e R s m args below meth c D cA E j lim n0 Z t lv st M N P nx) {pc len : Nat} {lv : aL} {st : List Value} {M : aM} {N : aN} {P : aP} {nx : Nat} {at_ : ArrayType} (hd : decode (mCode j) pc = .ok (.newarray at_, len)) (hlen : okLen (.newarray at_) len = true) (h : stepI C G j lim Q X pc len (.newarray at_) lv st M N P nx) : mpA p l e R s m args below meth c D cA E j lim n0 Z pc lv st M N P nx := by
  intro H locs ls hR hS hl h0 hlim
  refine W_size fun hsz => ?_
  obtain ⟨hx, hb, hml, hown, hts, hin, hEv, hE1, hE2, hbs, hRf, hRl, hRc, hRs, hz0, hG⟩ := id hcx
  have hlen2 : len = 2 := by simpa [okLen] using hlen
  subst hlen2
  unfold stepI s1i at h
  dsimp only at h
  split at h
  case h_2 => exact h.elim
  case h_1 n r =>
  obtain ⟨k1, k0, k2, h⟩ := h
  have h9 : aKind at_ ≠ 9 := by cases at_ <;> decide
  have h44 := kind_lt' k1 h9
  have hs := size_at hcx hS hR h0 hsz (by omega)
  have hN := kind_sz nx h44
  have hK := (hE2 s H (ev_at hcx hS)).1
  have hcl : n.toNatClampNeg = (kindOf nx).2 := by rw [k0]; exact nI_clamp (by omega)
  have hn0 : ¬ n < 0 := by rw [k0]; exact nI_pos (by omega)
  have key : ∀ (H1 : Heap) (e2 : va_E), e2 = ceW cA E.1 (zM M nx) (zN N nx) (zP P nx) nx → va_at D vwCl (E.1 + nx, e2) H1 → H1.size = E.1 + nx + 1 → (∀ q, q < E.1 + nx → H1[q]? = H[q]?) → W p l e R s m args below meth c H1 locs (nx - n0 + 1) (1068 * (nx - n0) + (kindOf nx).2) Z (F0 m (pc + 2) ls (.ref (E.1 + nx) :: r.map (rv E))) := by
    intro H1 e2 he2 hat z1 o1
    refine W.widen (k := nx + 1 - n0) (n := 1068 * (nx + 1 - n0)) (by omega) (by omega) ?_
    have hk : ∀ (k : Nat) (x : Nat × va_E), (wsW cA E.1 M N P nx)[k]? = some x → H1[x.1]? = H[x.1]? := fun k x hx => o1 x.1 (by rw [← hs]; exact (hR k x hx).lt)
    have hP1 : relH D cA E.1 (zM M nx) (zN N nx) (zP P nx) (nx + 1) H1 := by
      unfold relH
      rw [← wsW_push (M := M) (N := N) (P := P) h44 he2 (fun i hi => ceW_eq (up_ne (by omega)) (up_ne (by omega)) (up_ne (by omega)))]
      refine (hR.kept hk).app (fun k x hx => ?_)
      have hz : k < 1 := (List.getElem?_eq_some_iff.mp hx).1
      rw [show k = 0 by omega] at hx
      cases hx
      exact hat
    have hS1 : va_S (aA E.1) s.heap H1 locs := ⟨Nat.le_trans hS.1 (by omega), fun x h1 h2 => (o1 x (by have := hS.1; omega)).trans (hS.2.1 x h1 h2), hS.2.2⟩
    exact hX _ _ _ _ _ _ _ h H1 locs ls hP1 hS1 hl (by omega) k2
  have z1 : zM M nx nx = fun _ => 0 := up_eq
  have z2 : zN N nx nx = fun _ => 0 := up_eq
  cases at_ <;> first | (exact absurd h44 (by have h7 := kind_lt' (a := nx) (t := 7) k1 (by decide); have : ∀ a, a < 44 → (kindOf a).1 ≠ 7 := by decide +kernel
                                              exact absurd k1 (this nx h7))) | skip
  case int =>
    refine va_newaK (atype := .int) hx hb (hts _ lb_int) rfl hd rfl hn0 hcl (by show _ * 4 ≤ _; omega) (by omega) (by omega) (h := E.1 + nx) hs (fun H1 cB e1 z3 o1 hAr hNm => ?_)
    have hc : cB = cA 1 := Option.some.inj (hNm.symm.trans (hK.2 0 _ rfl).2)
    refine key H1 (.inl (cA 1, (kindOf nx).2, .inl (fun _ => 0))) (by rw [ceW_row k1 (by decide) (by decide), z1]; rfl) ?_ z3 o1
    rw [hc] at e1
    exact e1
  case byte =>
    refine va_newaK (atype := .byte) hx hb (hts _ lb_byte) rfl hd rfl hn0 hcl (by show _ * 1 ≤ _; omega) (by omega) (by omega) (h := E.1 + nx) hs (fun H1 cB e1 z3 o1 hAr hNm => ?_)
    have hc : cB = cA 2 := Option.some.inj (hNm.symm.trans (hK.2 1 _ rfl).2)
    refine key H1 (.inl (cA 2, (kindOf nx).2, .inl (fun _ => 0))) (by rw [ceW_row k1 (by decide) (by decide), z1]; rfl) ?_ z3 o1
    rw [hc] at e1
    exact e1
  case boolean =>
    refine va_newaK (atype := .boolean) hx hb (hts _ lb_boolean) rfl hd rfl hn0 hcl (by show _ * 1 ≤ _; omega) (by omega) (by omega) (h := E.1 + nx) hs (fun H1 cB e1 z3 o1 hAr hNm => ?_)
    have hc : cB = cA 3 := Option.some.inj (hNm.symm.trans (hK.2 2 _ rfl).2)
    refine key H1 (.inl (cA 3, (kindOf nx).2, .inl (fun _ => 0))) (by rw [ceW_row k1 (by decide) (by decide), z1]; rfl) ?_ z3 o1
    rw [hc] at e1
    exact e1
  case long =>
    refine va_newaK (atype := .long) hx hb (hts _ lb_long) rfl hd rfl hn0 hcl (by show _ * 8 ≤ _; omega) (by omega) (by omega) (h := E.1 + nx) hs (fun H1 cB e1 z3 o1 hAr hNm => ?_)
    have hc : cB = cA 4 := Option.some.inj (hNm.symm.trans (hK.2 3 _ rfl).2)
    refine key H1 (.inl (cA 4, (kindOf nx).2, .inr (.inl (fun _ => 0)))) (by rw [ceW_long k1, z2]) ?_ z3 o1
    rw [hc] at e1
    exact e1
theorem am_invokespecial (hcx : cxA p R s m args meth c D cA E Ev G j lim n0 d) {C : aC} (hC : clA l D cA E Ev d C) {Q : aQ} {X : aX} (hX : ∀ t lv st M N P nx, X t lv st M N P nx → mpA p l e R s m args below meth c D cA E j lim n0 Z t lv st M N P nx) {pc len : Nat} {lv : aL} {st : List Value} {M : aM} {N : aN} {P : aP} {nx : Nat} {n : Nat} (hd : decode (mCode j) pc = .ok (.invokespecial n, len)) (hlen : okLen (.invokespecial n) len = true) (h : stepI C G j lim Q X pc len (.invokespecial n) lv st M N P nx) : mpA p l e R s m args below meth c D cA E j lim n0 Z pc lv st M N P nx := by
  have hlen2 : len = 3 := by simpa [okLen] using hlen
  subst hlen2
  unfold stepI at h
  dsimp only at h
  split at h
  case h_2 => exact h.elim
  case h_1 q hq =>
  cases h1 : q == 1000 with
  | true =>
    rw [h1] at h
    have hq1 : q = 1000 := by simpa using h1
    subst hq1
    intro H locs ls hR hS hl h0 hlim
    obtain ⟨hx, hb, hml, hown, hts, hin, hEv, hE1, hE2, hbs, hRf, hRl, hRc, hRs, hz0, hG⟩ := id hcx
    have h' : s1r st fun _ r => bif Nat.ble (catS r) 8 then X (pc + 3) lv r M N P nx else False := h
    clear h
    unfold s1r at h'
    split at h'
    case h_2 => exact h'.elim
    case h_1 a r =>
    cases hc : Nat.ble (catS r) 8 with
    | false => rw [hc] at h'; exact h'.elim
    | true =>
      rw [hc] at h'
      have hc' : catS r ≤ 8 := by simpa using hc
      have hlk : Cond.methodLink (oName (mOwn j)) n objectInit ∈ gtbl := by
        rcases ca_all hq with z | z | z | z | z | z
        · exact absurd z.1 (by decide)
        · exact absurd z.1 (by decide)
        · exact z.2
        all_goals (exact absurd z.1 (by decide))
      exact W.objInit hx hb hown (hts _ hlk) (hts _ lb_obj.1) (hts _ lb_obj.2) rfl (by rw [hml]; exact hl.1) rfl hd (by omega) (by rw [catS_eq]; show 2 * 0 + _ + _ ≤ _; omega) (hX _ _ _ _ _ _ _ h' H locs ls hR hS hl h0 hlim)
  | false =>
    rw [h1] at h
    have h' : bif Nat.blt q 1000 && mKind q == 2 then callP C lim q (fun st M N P nx => X (pc + 3) lv st M N P nx) st M N P nx else False := h
    cases h2 : (Nat.blt q 1000 && mKind q == 2) with
    | false => rw [h2] at h'; exact h'.elim
    | true =>
      rw [h2] at h'
      simp only [Bool.and_eq_true, Nat.blt_eq, beq_iff_eq] at h2
      exact am_spec hcx hC hX hq h2.1 h2.2 h' hd
theorem am_invokevirtual (hcx : cxA p R s m args meth c D cA E Ev G j lim n0 d) {C : aC} (hC : clA l D cA E Ev d C) {Q : aQ} {X : aX} (hX : ∀ t lv st M N P nx, X t lv st M N P nx → mpA p l e R s m args below meth c D cA E j lim n0 Z t lv st M N P nx) {pc len : Nat} {lv : aL} {st : List Value} {M : aM} {N : aN} {P : aP} {nx : Nat} {n : Nat} (hd : decode (mCode j) pc = .ok (.invokevirtual n, len)) (hlen : okLen (.invokevirtual n) len = true) (h : stepI C G j lim Q X pc len (.invokevirtual n) lv st M N P nx) : mpA p l e R s m args below meth c D cA E j lim n0 Z pc lv st M N P nx := by
  have hlen2 : len = 3 := by simpa [okLen] using hlen
  subst hlen2
  unfold stepI at h
  dsimp only at h
  split at h
  case h_2 => exact h.elim
  case h_1 q hq =>
  cases h2 : (Nat.blt q 1000 && (mKind q == 0 && !(q == 96))) with
  | false => rw [h2] at h; exact h.elim
  | true =>
    rw [h2] at h
    simp only [Bool.and_eq_true, Nat.blt_eq, beq_iff_eq, Bool.not_eq_true', beq_eq_false_iff_ne] at h2
    exact am_virt hcx hC hX hq h2.1 h2.2.1 h2.2.2 h hd
theorem am_invokestatic (hcx : cxA p R s m args meth c D cA E Ev G j lim n0 d) {C : aC} (hC : clA l D cA E Ev d C) {Q : aQ} {X : aX} (hX : ∀ t lv st M N P nx, X t lv st M N P nx → mpA p l e R s m args below meth c D cA E j lim n0 Z t lv st M N P nx) {pc len : Nat} {lv : aL} {st : List Value} {M : aM} {N : aN} {P : aP} {nx : Nat} {n : Nat} (hd : decode (mCode j) pc = .ok (.invokestatic n, len)) (hlen : okLen (.invokestatic n) len = true)
    (h216 : callOf (mOwn j) n = some 216 → callP C lim 216 (fun st M N P nx => X (pc + 3) lv st M N P nx) st M N P nx → decode (mCode j) pc = .ok (.invokestatic n, 3) → mpA p l e R s m args below meth c D cA E j lim n0 Z pc lv st M N P nx)
    (h : stepI C G j lim Q X pc len (.invokestatic n) lv st M N P nx) : mpA p l e R s m args below meth c D cA E j lim n0 Z pc lv st M N P nx := by
  have hlen2 : len = 3 := by simpa [okLen] using hlen
  subst hlen2
  unfold stepI at h
  dsimp only at h
  split at h
  case h_2 => exact h.elim
  case h_1 q hq =>
  obtain ⟨hx, hb, hml, hown, hts, hin, hEv, hE1, hE2, hbs, hRf, hRl, hRc, hRs, hz0, hG⟩ := id hcx
  cases h1 : q == 1001 with
  | true =>
    rw [h1] at h
    have hq1 : q = 1001 := by simpa using h1
    subst hq1
    have h' : s2i st fun x y r => bif Nat.ble (catS r) 8 then X (pc + 3) lv (.int (if x < y then y else x) :: r) M N P nx else False := h
    intro H locs ls hR hS hl h0 hlim
    unfold s2i at h'
    split at h'
    case h_2 => exact h'.elim
    case h_1 y x r =>
    cases hc : Nat.ble (catS r) 8 with
    | false => rw [hc] at h'; exact h'.elim
    | true =>
      rw [hc] at h'
      have hc' : catS r ≤ 8 := by simpa using hc
      have hlk : Cond.methodLink (oName (mOwn j)) n Lib.Math.max.name ∈ gtbl := by
        rcases ca_all hq with z | z | z | z | z | z
        case inr.inr.inr.inl => exact z.2
        all_goals (exact absurd z.1 (by decide))
      exact va_mmax hx hb (by rw [hml]; exact hl.1.symm) hown (hts _ hlk) (hts _ lb_max.1) (hts _ lb_max.2.1) (hts _ lb_max.2.2) (by omega) (by rw [catS_eq]; omega) (by omega) (by omega) hd (hX _ _ _ _ _ _ _ h' H locs ls hR hS hl h0 hlim)
  | false =>
  rw [h1] at h
  cases h2 : q == 1002 with
  | true =>
    rw [h2] at h
    have hq1 : q = 1002 := by simpa using h2
    subst hq1
    have h' : s2i st fun x y r => bif Nat.ble (catS r) 8 then X (pc + 3) lv (.int (if y < x then y else x) :: r) M N P nx else False := h
    intro H locs ls hR hS hl h0 hlim
    unfold s2i at h'
    split at h'
    case h_2 => exact h'.elim
    case h_1 y x r =>
    cases hc : Nat.ble (catS r) 8 with
    | false => rw [hc] at h'; exact h'.elim
    | true =>
      rw [hc] at h'
      have hc' : catS r ≤ 8 := by simpa using hc
      have hlk : Cond.methodLink (oName (mOwn j)) n Lib.Math.min.name ∈ gtbl := by
        rcases ca_all hq with z | z | z | z | z | z
        case inr.inr.inr.inr.inl => exact z.2
        all_goals (exact absurd z.1 (by decide))
      exact va_mmin hx hb (by rw [hml]; exact hl.1.symm) hown (hts _ hlk) (hts _ lb_min.1) (hts _ lb_min.2.1) (hts _ lb_min.2.2) (by omega) (by rw [catS_eq]; omega) (by omega) (by omega) hd (hX _ _ _ _ _ _ _ h' H locs ls hR hS hl h0 hlim)
  | false =>
  rw [h2] at h
  cases h3 : q == 1003 with
  | true =>
    rw [h3] at h
    have hq1 : q = 1003 := by simpa using h3
    subst hq1
    have h' : match (generalizing := false) st with
        | .int n :: .int dp :: .ref b :: .int sp :: .ref a :: r => bif Nat.ble (catS r) 8 then ((kindOf a).1 = 1 ∧ a < nx ∧ (kindOf b).1 = 1 ∧ b < nx ∧ ∃ sp' dp' n' : Nat, sp = nI sp' ∧ dp = nI dp' ∧ n = nI n' ∧ sp' + n' ≤ (kindOf a).2 ∧ dp' + n' ≤ (kindOf b).2 ∧ X (pc + 3) lv r (va_up M b (va_cpy (M a) (M b) sp' dp' n')) N P nx) else False
        | _ => False := h
    clear h
    intro H locs ls hR hS hl h0 hlim
    split at h'
    case h_2 => exact h'.elim
    case h_1 n' dp b sp a r =>
    cases hc : Nat.ble (catS r) 8 with
    | false => rw [hc] at h'; exact h'.elim
    | true =>
      rw [hc] at h'
      obtain ⟨a1, a2, b1, b2, s1, s2, s3, e1, e2, e3, e4, e5, h'⟩ := h'
      have hc' : catS r ≤ 8 := by simpa using hc
      have hlk : Cond.methodLink (oName (mOwn j)) n arraycopyName ∈ gtbl := by
        rcases ca_all hq with z | z | z | z | z | z
        case inr.inr.inr.inr.inr => exact z.2
        all_goals (exact absurd z.1 (by decide))
      have ha44 := kind_lt' a1 (by decide)
      have hb44 := kind_lt' b1 (by decide)
      have hsa := kind_sz a ha44
      have hsb := kind_sz b hb44
      have g1 := wsW_get (cA := cA) (bs := E.1) (M := M) (N := N) (P := P) a2 ha44
      have g2 := wsW_get (cA := cA) (bs := E.1) (M := M) (N := N) (P := P) b2 hb44
      rw [ceW_row a1 (by decide) (by decide)] at g1
      rw [ceW_row b1 (by decide) (by decide)] at g2
      subst e1; subst e2; subst e3
      have hset : (wsW cA E.1 M N P nx).set b (E.1 + b, .inl (cA 1, (kindOf b).2, .inl (va_cpy (M a) (M b) s1 s2 s3))) = wsW cA E.1 (va_up M b (va_cpy (M a) (M b) s1 s2 s3)) N P nx := wsW_set (by rw [ceW_row b1 (by decide) (by decide), up_eq]) (fun i hi => ceW_eq (up_ne hi) rfl rfl)
      refine va_copyi hx hb (by rw [hml]; exact hl.1.symm) hown (hts _ hlk) (hts _ lb_copy.1) (hts _ lb_copy.2.1) (hts _ lb_copy.2.2) (hE2 s H (ev_at hcx hS)).1 hR wsW_D hS a b 0 0 g1 g2 rfl rfl rfl (nI_pos (by omega)) (nI_pos (by omega)) (nI_pos (by omega)) (by rw [nI_clamp (by omega), nI_clamp (by omega)]; exact e4) (by rw [nI_clamp (by omega), nI_clamp (by omega)]; exact e5) (fun _ _ => rfl) (by omega) (by rw [catS_eq]; show _ + 18 ≤ _; omega) hd (fun H1 locs1 hP1 _ hS1 => ?_)
      rw [nI_clamp (by omega), nI_clamp (by omega), nI_clamp (by omega), hset] at hP1
      exact hX _ _ _ _ _ _ _ h' H1 locs1 ls hP1 hS1 hl h0 hlim
  | false =>
  rw [h3] at h
  have h' : bif Nat.blt q 1000 && mKind q == 1 then callP C lim q (fun st M N P nx => X (pc + 3) lv st M N P nx) st M N P nx else False := h
  cases h4 : (Nat.blt q 1000 && mKind q == 1) with
  | false => rw [h4] at h'; exact h'.elim
  | true =>
    rw [h4] at h'
    simp only [Bool.and_eq_true, Nat.blt_eq, beq_iff_eq] at h4
    by_cases h6 : q = 216
    · subst h6
      exact h216 hq h' hd
    · exact am_stat hcx hC hX hq h4.1 h4.2 h6 h' hd
end MAK
end
section
/-! A BODY, and a call of any depth -/
section BDY
variable {p : Program} {l : Launch} {e : Env} {R : Room} {s : State} {m : MethodId} {args : Array Value} {below : List Frame} {meth : Method} {c : Code} {D : va_G} {cA : Nat → ClassId} {E : aE} {Ev : State → Heap → Prop} {G : aG} {j lim n0 d : Nat} {Z : State → Prop}
set_option maxHeartbeats 4000000 in
theorem am_body (hcx : cxA p R s m args meth c D cA E Ev G j lim n0 d) (hG31 : G.1 < 2 ^ 31) {C : aC} (hC : clA l D cA E Ev d C) {Q : aQ}
    (h216 : ∀ (X : aX), (∀ t lv st M N P nx, X t lv st M N P nx → mpA p l e R s m args below meth c D cA E j lim n0 Z t lv st M N P nx) → ∀ n pc lv st M N P nx, callOf (mOwn j) n = some 216 → callP C lim 216 (fun st M N P nx => X (pc + 3) lv st M N P nx) st M N P nx → decode (mCode j) pc = .ok (.invokestatic n, 3) → mpA p l e R s m args below meth c D cA E j lim n0 Z pc lv st M N P nx)
    (hri : ∀ x M N P nx pc H locs ls, Q (some (.int x)) M N P nx → (mRet j = some .int ∨ (mRet j = some .boolean ∧ okZ x)) → relH D cA E.1 M N P nx H → va_S (aA E.1) s.heap H locs → n0 ≤ nx → nx ≤ lim → decode (mCode j) pc = .ok (.ireturn, 1) → W p l e R s m args below meth c H locs (nx - n0) (1068 * (nx - n0)) Z (F0 m pc ls [.int x]))
    (hrl : ∀ x M N P nx pc H locs ls, Q (some (.long x)) M N P nx → mRet j = some .long → relH D cA E.1 M N P nx H → va_S (aA E.1) s.heap H locs → n0 ≤ nx → nx ≤ lim → decode (mCode j) pc = .ok (.lreturn, 1) → W p l e R s m args below meth c H locs (nx - n0) (1068 * (nx - n0)) Z (F0 m pc ls [.long x]))
    (hrv : ∀ M N P nx pc H locs ls, Q none M N P nx → mRet j = none → relH D cA E.1 M N P nx H → va_S (aA E.1) s.heap H locs → n0 ≤ nx → nx ≤ lim → decode (mCode j) pc = .ok (.return_, 1) → W p l e R s m args below meth c H locs (nx - n0) (1068 * (nx - n0)) Z (F0 m pc ls []))
    (hth : ∀ n pc lv st M N P nx, j = 96 → decode (mCode j) pc = .ok (.new n, 3) → Q none M N P nx → mpA p l e R s m args below meth c D cA E j lim n0 Z pc lv st M N P nx) :
    ∀ pc lv st M N P nx, WP C G j lim Q pc lv st M N P nx → mpA p l e R s m args below meth c D cA E j lim n0 Z pc lv st M N P nx := by
  intro pc lv st M N P nx h
  refine h _ ?_
  clear h pc lv st M N P nx
  intro pc lv st M N P nx ⟨i, len, hd, hlen, hsw, h⟩
  have hX : ∀ t lv st M N P nx, nrX j (mpA p l e R s m args below meth c D cA E j lim n0 Z) t lv st M N P nx → mpA p l e R s m args below meth c D cA E j lim n0 Z t lv st M N P nx :=
    fun t lv st M N P nx h H locs ls hR hS hl h0 hlim => h H locs ls hR hS (lh_nrm hl) h0 hlim
  cases i <;> first | exact False.elim h | skip
  case iconst => exact am_iconst hcx hX hd hlen h
  case bipush => exact am_bipush hcx hX hd hlen h
  case sipush => exact am_sipush hcx hX hd hlen h
  case lconst => exact am_lconst hcx hX hd hlen h
  case ldc2_w => exact am_ldc2_w hcx hX hd hlen h
  case ldc_w => exact am_ldc_w hcx hX hd hlen h
  case ldc => exact am_ldc hcx hX hd hlen h
  case iload => exact am_iload hcx hX hd hlen h
  case iload_n => exact am_iload_n hcx hX hd hlen h
  case lload => exact am_lload hcx hX hd hlen h
  case lload_n => exact am_lload_n hcx hX hd hlen h
  case aload => exact am_aload hcx hX hd hlen h
  case aload_n => exact am_aload_n hcx hX hd hlen h
  case istore => exact am_istore hcx hX hd hlen h
  case istore_n => exact am_istore_n hcx hX hd hlen h
  case lstore => exact am_lstore hcx hX hd hlen h
  case lstore_n => exact am_lstore_n hcx hX hd hlen h
  case astore => exact am_astore hcx hX hd hlen h
  case astore_n => exact am_astore_n hcx hX hd hlen h
  case iinc => exact am_iinc hcx hX hd hlen h
  case iadd => exact am_iadd hcx hX hd hlen h
  case isub => exact am_isub hcx hX hd hlen h
  case imul => exact am_imul hcx hX hd hlen h
  case iand => exact am_iand hcx hX hd hlen h
  case ior => exact am_ior hcx hX hd hlen h
  case ishl => exact am_ishl hcx hX hd hlen h
  case ishr => exact am_ishr hcx hX hd hlen h
  case iushr => exact am_iushr hcx hX hd hlen h
  case idiv => exact am_idiv hcx hX hd hlen h
  case irem => exact am_irem hcx hX hd hlen h
  case i2l => exact am_i2l hcx hX hd hlen h
  case l2i => exact am_l2i hcx hX hd hlen h
  case i2b => exact am_i2b hcx hX hd hlen h
  case ladd => exact am_ladd hcx hX hd hlen h
  case lsub => exact am_lsub hcx hX hd hlen h
  case land => exact am_land hcx hX hd hlen h
  case lor => exact am_lor hcx hX hd hlen h
  case lshl => exact am_lshl hcx hX hd hlen h
  case lshr => exact am_lshr hcx hX hd hlen h
  case lushr => exact am_lushr hcx hX hd hlen h
  case lcmp => exact am_lcmp hcx hX hd hlen h
  case dup => exact am_dup hcx hX hd hlen h
  case dup2 => exact am_dup2 hcx hX hd hlen h
  case pop => exact am_pop hcx hX hd hlen h
  case goto => exact am_goto hcx hX hd hlen h
  case ifCond => exact am_ifCond hcx hX hd hlen h
  case if_icmp => exact am_if_icmp hcx hX hd hlen h
  case getfield => exact am_getfield hcx hX hd hlen h
  case putfield => exact am_putfield hcx hX hd hlen h
  case baload => exact am_baload hcx hX hd hlen h
  case laload => exact am_laload hcx hX hd hlen h
  case iastore => exact am_iastore hcx hX hd hlen h
  case bastore => exact am_bastore hcx hX hd hlen h
  case lastore => exact am_lastore hcx hX hd hlen h
  case arraylength => exact am_arraylength hcx hX hd hlen h
  case newarray => exact am_newarray hcx hX hd hlen h
  case tableswitch => exact am_tableswitch hcx hX hd hsw h
  case lookupswitch => exact am_lookupswitch hcx hX hd hsw h
  case iaload => exact am_iaload hcx hX hG31 hd hlen h
  case new n =>
    have hlen2 : len = 3 := by simpa [okLen] using hlen
    subst hlen2
    exact am_new hcx hX hd hlen (fun hj hq => hth n pc lv st M N P nx hj hd hq) h
  case invokespecial => exact am_invokespecial hcx hC hX hd hlen h
  case invokevirtual => exact am_invokevirtual hcx hC hX hd hlen h
  case invokestatic => exact am_invokestatic hcx hC hX hd hlen (h216 _ hX _ _ _ _ _ _ _ _) h
  case ireturn =>
    intro H locs ls hR hS hl h0 hlim
    have hlen2 : len = 1 := by simpa [okLen] using hlen
    subst hlen2
    unfold stepI at h
    dsimp only at h
    split at h
    case h_2 => exact h.elim
    case h_1 x =>
    split at h
    case h_1 hr => exact hri _ _ _ _ _ _ _ _ _ h (Or.inl hr) hR hS h0 hlim hd
    case h_2 hr => exact hri _ _ _ _ _ _ _ _ _ h.2 (Or.inr ⟨hr, h.1⟩) hR hS h0 hlim hd
    case h_3 => exact h.elim
  case lreturn =>
    intro H locs ls hR hS hl h0 hlim
    have hlen2 : len = 1 := by simpa [okLen] using hlen
    subst hlen2
    unfold stepI at h
    dsimp only at h
    split at h
    case h_2 => exact h.elim
    case h_1 x =>
    split at h
    case h_1 hr => exact hrl _ _ _ _ _ _ _ _ _ h hr hR hS h0 hlim hd
    case h_2 => exact h.elim
  case return_ =>
    intro H locs ls hR hS hl h0 hlim
    have hlen2 : len = 1 := by simpa [okLen] using hlen
    subst hlen2
    unfold stepI at h
    dsimp only at h
    split at h
    case h_2 => exact h.elim
    case h_1 =>
    split at h
    case h_1 hr => exact hrv _ _ _ _ _ _ _ _ h hr hR hS h0 hlim hd
    case h_2 => exact h.elim
end BDY
theorem lg_sl_len : ∀ (vs : List Value), (lg_sl vs).length = catS vs
  | [] => rfl
  | v :: t => by
    have h := lg_sl_len t
    have e : lg_sl (v :: t) = (if v.category = 2 then [.val v, .second] else [.val v]) ++ lg_sl t := rfl
    rw [e, List.length_append, h]
    show _ = v.category + catS t
    rcases lv_cat v with hv | hv <;> simp [hv]
theorem catS_rv {E : aE} : ∀ (vs : List Value), catS (vs.map (rv E)) = catS vs
  | [] => rfl
  | v :: t => by simp only [List.map_cons, catS, rv_cat, catS_rv t]
theorem no216 {j : Nat} (h : (j < 216 ∧ j ≠ 96) ∨ (217 < j ∧ j < 221)) {n : Nat} (hc : callOf (mOwn j) n = some 216) : False := by
  have h8 : mOwn j ≠ 8 := by
    have : ∀ j, j < 221 → j ≠ 216 → j ≠ 217 → mOwn j ≠ 8 := by decide +kernel
    exact this j (by omega) (by omega) (by omega)
  have key : ∀ o, o < 13 → o ≠ 8 → ∀ e ∈ callsL.getD o [], e.2 ≠ 216 := by decide +kernel
  have hm := lkN_mem hc
  have hlt : mOwn j < 13 := by
    have : ∀ j, j < 221 → mOwn j < 13 := by decide +kernel
    exact this j (by omega)
  exact key _ hlt h8 _ hm rfl
set_option maxHeartbeats 4000000 in
/-- THE MEANING IS THE MACHINE'S, at every depth -/
theorem am_sound {l : Launch} {D : va_G} {cA : Nat → ClassId} {E : aE} {Ev : State → Heap → Prop} (hE1 : evOK (aA E.1) Ev) (hE2 : evHas D cA E Ev)
    (h14 : ∀ (d k : Nat) (M : aM) (N : aN) (P : aP) (nx : Nat) (Q : aQ), k < 8 → Q (some (.int (wordI k))) M N P nx → metA l D cA E Ev (d + 1) 14 [.retAddr (k + 1)] M N P nx (fun r M' N' P' nx' => nx' = nx + mC 14 ∧ Q r M' N' P' nx'))
    (h137 : ∀ (d k : Nat) (M : aM) (N : aN) (P : aP) (nx : Nat) (Q : aQ), k < 8 → Q (some (.long (wordL k))) M N P nx → metA l D cA E Ev (d + 1) 137 [.retAddr (k + 1)] M N P nx (fun r M' N' P' nx' => nx' = nx + mC 137 ∧ Q r M' N' P' nx')) :
    ∀ d, clA l D cA E Ev d (aSem d) := by
  intro d
  induction d with
  | zero => intro q as M N P nx Q _ h; exact h.elim
  | succ d ih =>
    intro q as M N P nx Q hq h
    have h' : semQ (aSem d) q as M N P nx Q := h
    clear h
    unfold semQ at h'
    cases e1 : q == 14 with
    | true =>
      have : q = 14 := by simpa using e1
      subst this
      have h2 : match (generalizing := false) as with
        | [.retAddr (k + 1)] => k < 8 ∧ Q (some (.int (wordI k))) M N P nx
        | _ => False := h'
      split at h2
      case h_2 => exact h2.elim
      case h_1 k => exact h14 d k M N P nx Q h2.1 h2.2
    | false =>
    rw [e1] at h'
    cases e2 : q == 137 with
    | true =>
      have : q = 137 := by simpa using e2
      subst this
      have h2 : match (generalizing := false) as with
        | [.retAddr (k + 1)] => k < 8 ∧ Q (some (.long (wordL k))) M N P nx
        | _ => False := h'
      split at h2
      case h_2 => exact h2.elim
      case h_1 k => exact h137 d k M N P nx Q h2.1 h2.2
    | false =>
    rw [e2] at h'
    cases e3 : q == 216 with
    | true =>
      have : q = 216 := by simpa using e3
      omega
    | false =>
    rw [e3] at h'
    have h2 : bif Nat.ble (catS as) (mMaxL q) then WP (aSem d) (0, fun _ => 0) q (nx + mC q) (fun r M' N' P' nx' => nx' = nx + mC q ∧ Q r M' N' P' nx') 0 (lv_args 0 as) [] M N P nx else False := h'
    cases e4 : Nat.ble (catS as) (mMaxL q) with
    | false => rw [e4] at h2; exact h2.elim
    | true =>
    rw [e4] at h2
    have hcat : catS as ≤ mMaxL q := by simpa using e4
    have hwp : WP (aSem d) (0, fun _ => 0) q (nx + mC q) (fun r M' N' P' nx' => nx' = nx + mC q ∧ Q r M' N' P' nx') 0 (lv_args 0 as) [] M N P nx := h2
    have hM := mw_all q (by omega)
    obtain ⟨hcode, hcls, hini, hnm, hpl, hdesc, hk0, hk1, hk2, -⟩ := hM
    refine Met.ofW (cc := mCode q) (maxL := mMaxL q) (ret := mRet q) (by rw [hcls]; exact hpl) rfl ?_
    intro p e s m args below meth c s₁ B hml hv
    obtain ⟨rfl, hrel, hsz, hbs, hev⟩ := hv
    have hts0 := atoms_spec (ws := wsA q) B.pre
    have hown : s.vm.findClass (mName q).cls = some m.cls := findClass_of_methodNamed B.named
    rw [hcls] at hown
    have hcx : cxA p (rmA (d + 1) q) s m (as.map (rv E)).toArray meth c D cA E Ev (0, fun _ => 0) q (nx + mC q) nx d :=
      ⟨B.exec, B.bytes, hml, hown, fun w hw => hts0 w (List.mem_cons_of_mem _ hw), fun hk => by rw [(name_of_methodNamed B.named B.method).1]; exact (hk2 hk).2, hev, hE1, hE2, hbs, Nat.le_refl _, Nat.le_refl _, by show _ ≤ mC q; omega, by show _ ≤ 1068 * mC q; omega, hsz, fun z => by omega⟩
    have hlocks := B.notSynchronized
    have hl := lv_entry (as.map (rv E)) (n := mMaxL q) (by rw [lg_sl_len, catS_rv]; exact hcat)
    rw [rv_args] at hl
    rw [lg_entry_eq]
    generalize (lg_sl (as.map (rv E)) ++ List.replicate (mMaxL q - (lg_sl (as.map (rv E))).length) Slot.unset).toArray = ls at hl ⊢
    have K := am_body (Z := MQ below (qcA D cA E (fun r M' N' P' nx' => nx' = nx + mC q ∧ Q r M' N' P' nx')) (as.map (rv E)).toArray s (mC q) (1068 * mC q) (aA E.1)) (e := e) (below := below) hcx (by decide) ih (fun X hX n pc lv st M N P nx hc => (no216 hq hc).elim) ?_ ?_ ?_ ?_ 0 _ _ _ _ _ _ hwp s.heap [] ls hrel va_S.rf hl (Nat.le_refl _) (Nat.le_add_right _ _)
    · rw [Nat.sub_self] at K
      exact K
    · intro x M1 N1 P1 nx1 pc H locs ls hQ hr hR hS h0 hlim hd
      obtain ⟨hn, hQ⟩ := hQ
      subst hn
      rw [Nat.add_sub_cancel_left]
      rcases hr with hr | ⟨hr, hz⟩
      · exact W.iret (v := x) B.exec B.bytes (by rw [B.returns]; exact hr) (fun t ht hW => ⟨⟨some (.int x), M1, N1, P1, _, rfl, ⟨rfl, hQ⟩, by rw [ht]; exact hR⟩, hS.F ht⟩) hS.2.2 hd
      · exact W.zret (v := x) B.exec B.bytes (by rw [B.returns]; exact hr) (nar_Z hz) (fun t ht hW => ⟨⟨some (.int x), M1, N1, P1, _, rfl, ⟨rfl, hQ⟩, by rw [ht]; exact hR⟩, hS.F ht⟩) hS.2.2 hd
    · intro x M1 N1 P1 nx1 pc H locs ls hQ hr hR hS h0 hlim hd
      obtain ⟨hn, hQ⟩ := hQ
      subst hn
      rw [Nat.add_sub_cancel_left]
      exact W.lret (v := x) B.exec B.bytes (by rw [B.returns]; exact hr) (fun t ht hW => ⟨⟨some (.long x), M1, N1, P1, _, rfl, ⟨rfl, hQ⟩, by rw [ht]; exact hR⟩, hS.F ht⟩) hS.2.2 hd
    · intro M1 N1 P1 nx1 pc H locs ls hQ hr hR hS h0 hlim hd
      obtain ⟨hn, hQ⟩ := hQ
      subst hn
      rw [Nat.add_sub_cancel_left]
      exact W.vret B.exec B.bytes (by rw [B.returns]; exact hr) (fun t ht hW => ⟨⟨none, M1, N1, P1, _, rfl, ⟨rfl, hQ⟩, by rw [ht]; exact hR⟩, hS.F ht⟩) hS.2.2 hd
    · intro n pc lv st M N P nx hj
      omega
end
