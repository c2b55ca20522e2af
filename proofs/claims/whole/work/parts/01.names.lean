-- ===== PART A: goes FIRST, ahead of the names: the tables' words, and 'selects' of the private methods out of them =====
/-- a private method of a class that the tables say can be made, by its rows of tables_1 -/
def lw_okq (q : MethodName × Nat) : Prop := (q.1.cls ≠ "java/lang/invoke/MethodHandle" ∧ q.1.cls ≠ "java/lang/invoke/VarHandle") ∧ Cond.instantiable q.1.cls q.2 ∈ tables_1 ∧ Cond.privateMethod q.1 ∈ tables_1 ∧ Cond.instanceMethod q.1 ∈ tables_1
theorem lw_p0 : lw_okq (⟨"MusicWalls$Reader", "skipBlanks", "()V"⟩, 7) := ⟨⟨by decide +kernel, by decide +kernel⟩, List.mem_of_getElem? (i := 27) (by decide +kernel), List.mem_of_getElem? (i := 314) (by decide +kernel), List.mem_of_getElem? (i := 315) (by decide +kernel)⟩
theorem lw_p1 : lw_okq (⟨"MusicWalls$Reader", "letter", "()I"⟩, 7) := ⟨⟨by decide +kernel, by decide +kernel⟩, List.mem_of_getElem? (i := 27) (by decide +kernel), List.mem_of_getElem? (i := 318) (by decide +kernel), List.mem_of_getElem? (i := 319) (by decide +kernel)⟩
theorem lw_p2 : lw_okq (⟨"MusicWalls$Reader", "readClause", "()V"⟩, 7) := ⟨⟨by decide +kernel, by decide +kernel⟩, List.mem_of_getElem? (i := 27) (by decide +kernel), List.mem_of_getElem? (i := 322) (by decide +kernel), List.mem_of_getElem? (i := 323) (by decide +kernel)⟩
theorem lw_p3 : lw_okq (⟨"MusicWalls$Reader", "fail", "(II)V"⟩, 7) := ⟨⟨by decide +kernel, by decide +kernel⟩, List.mem_of_getElem? (i := 27) (by decide +kernel), List.mem_of_getElem? (i := 326) (by decide +kernel), List.mem_of_getElem? (i := 327) (by decide +kernel)⟩
theorem lw_p4 : lw_okq (⟨"MusicWalls$Reader", "readDamp", "()V"⟩, 7) := ⟨⟨by decide +kernel, by decide +kernel⟩, List.mem_of_getElem? (i := 27) (by decide +kernel), List.mem_of_getElem? (i := 330) (by decide +kernel), List.mem_of_getElem? (i := 331) (by decide +kernel)⟩
theorem lw_p5 : lw_okq (⟨"MusicWalls$Reader", "readNumber", "(I)I"⟩, 7) := ⟨⟨by decide +kernel, by decide +kernel⟩, List.mem_of_getElem? (i := 27) (by decide +kernel), List.mem_of_getElem? (i := 334) (by decide +kernel), List.mem_of_getElem? (i := 335) (by decide +kernel)⟩
theorem lw_p6 : lw_okq (⟨"MusicWalls$Reader", "expect", "(I)V"⟩, 7) := ⟨⟨by decide +kernel, by decide +kernel⟩, List.mem_of_getElem? (i := 27) (by decide +kernel), List.mem_of_getElem? (i := 344) (by decide +kernel), List.mem_of_getElem? (i := 345) (by decide +kernel)⟩
theorem lw_p7 : lw_okq (⟨"MusicWalls$Reader", "readRoom", "()V"⟩, 7) := ⟨⟨by decide +kernel, by decide +kernel⟩, List.mem_of_getElem? (i := 27) (by decide +kernel), List.mem_of_getElem? (i := 348) (by decide +kernel), List.mem_of_getElem? (i := 349) (by decide +kernel)⟩
theorem lw_p8 : lw_okq (⟨"MusicWalls$Reader", "accept", "(I)Z"⟩, 7) := ⟨⟨by decide +kernel, by decide +kernel⟩, List.mem_of_getElem? (i := 27) (by decide +kernel), List.mem_of_getElem? (i := 357) (by decide +kernel), List.mem_of_getElem? (i := 358) (by decide +kernel)⟩
theorem lw_p9 : lw_okq (⟨"MusicWalls$Reader", "readUnder", "()V"⟩, 7) := ⟨⟨by decide +kernel, by decide +kernel⟩, List.mem_of_getElem? (i := 27) (by decide +kernel), List.mem_of_getElem? (i := 365) (by decide +kernel), List.mem_of_getElem? (i := 366) (by decide +kernel)⟩
theorem lw_p10 : lw_okq (⟨"MusicWalls$Reader", "readPerson", "()V"⟩, 7) := ⟨⟨by decide +kernel, by decide +kernel⟩, List.mem_of_getElem? (i := 27) (by decide +kernel), List.mem_of_getElem? (i := 387) (by decide +kernel), List.mem_of_getElem? (i := 388) (by decide +kernel)⟩
theorem lw_p11 : lw_okq (⟨"MusicWalls$Reader", "readWall", "()V"⟩, 7) := ⟨⟨by decide +kernel, by decide +kernel⟩, List.mem_of_getElem? (i := 27) (by decide +kernel), List.mem_of_getElem? (i := 395) (by decide +kernel), List.mem_of_getElem? (i := 396) (by decide +kernel)⟩
theorem lw_p12 : lw_okq (⟨"MusicWalls", "refusalOfHours", "(I)I"⟩, 9) := ⟨⟨by decide +kernel, by decide +kernel⟩, List.mem_of_getElem? (i := 19) (by decide +kernel), List.mem_of_getElem? (i := 612) (by decide +kernel), List.mem_of_getElem? (i := 613) (by decide +kernel)⟩
theorem lw_p13 : lw_okq (⟨"MusicWalls$Past", "kept", "(I)LMusicWalls$Life;"⟩, 3) := ⟨⟨by decide +kernel, by decide +kernel⟩, List.mem_of_getElem? (i := 161) (by decide +kernel), List.mem_of_getElem? (i := 622) (by decide +kernel), List.mem_of_getElem? (i := 623) (by decide +kernel)⟩
theorem lw_p14 : lw_okq (⟨"MusicWalls", "turnByHand", "(IIZ)I"⟩, 9) := ⟨⟨by decide +kernel, by decide +kernel⟩, List.mem_of_getElem? (i := 19) (by decide +kernel), List.mem_of_getElem? (i := 676) (by decide +kernel), List.mem_of_getElem? (i := 677) (by decide +kernel)⟩
theorem lw_p15 : lw_okq (⟨"MusicWalls", "deedByDraws", "()V"⟩, 9) := ⟨⟨by decide +kernel, by decide +kernel⟩, List.mem_of_getElem? (i := 19) (by decide +kernel), List.mem_of_getElem? (i := 703) (by decide +kernel), List.mem_of_getElem? (i := 704) (by decide +kernel)⟩
def lw_privs_1 : List (MethodName × Nat) := [(⟨"MusicWalls$Reader", "skipBlanks", "()V"⟩, 7), (⟨"MusicWalls$Reader", "letter", "()I"⟩, 7), (⟨"MusicWalls$Reader", "readClause", "()V"⟩, 7), (⟨"MusicWalls$Reader", "fail", "(II)V"⟩, 7), (⟨"MusicWalls$Reader", "readDamp", "()V"⟩, 7), (⟨"MusicWalls$Reader", "readNumber", "(I)I"⟩, 7), (⟨"MusicWalls$Reader", "expect", "(I)V"⟩, 7), (⟨"MusicWalls$Reader", "readRoom", "()V"⟩, 7), (⟨"MusicWalls$Reader", "accept", "(I)Z"⟩, 7), (⟨"MusicWalls$Reader", "readUnder", "()V"⟩, 7), (⟨"MusicWalls$Reader", "readPerson", "()V"⟩, 7), (⟨"MusicWalls$Reader", "readWall", "()V"⟩, 7), (⟨"MusicWalls", "refusalOfHours", "(I)I"⟩, 9), (⟨"MusicWalls$Past", "kept", "(I)LMusicWalls$Life;"⟩, 3), (⟨"MusicWalls", "turnByHand", "(IIZ)I"⟩, 9), (⟨"MusicWalls", "deedByDraws", "()V"⟩, 9)]
theorem lw_r1 : ∀ q ∈ lw_privs_1, lw_okq q := List.forall_mem_cons.mpr ⟨lw_p0, List.forall_mem_cons.mpr ⟨lw_p1, List.forall_mem_cons.mpr ⟨lw_p2, List.forall_mem_cons.mpr ⟨lw_p3, List.forall_mem_cons.mpr ⟨lw_p4, List.forall_mem_cons.mpr ⟨lw_p5, List.forall_mem_cons.mpr ⟨lw_p6, List.forall_mem_cons.mpr ⟨lw_p7, List.forall_mem_cons.mpr ⟨lw_p8, List.forall_mem_cons.mpr ⟨lw_p9, List.forall_mem_cons.mpr ⟨lw_p10, List.forall_mem_cons.mpr ⟨lw_p11, List.forall_mem_cons.mpr ⟨lw_p12, List.forall_mem_cons.mpr ⟨lw_p13, List.forall_mem_cons.mpr ⟨lw_p14, List.forall_mem_cons.mpr ⟨lw_p15, fun _ h => absurd h List.not_mem_nil⟩⟩⟩⟩⟩⟩⟩⟩⟩⟩⟩⟩⟩⟩⟩⟩
theorem lw_p16 : lw_okq (⟨"MusicWalls", "draw", "(I)I"⟩, 9) := ⟨⟨by decide +kernel, by decide +kernel⟩, List.mem_of_getElem? (i := 19) (by decide +kernel), List.mem_of_getElem? (i := 707) (by decide +kernel), List.mem_of_getElem? (i := 708) (by decide +kernel)⟩
theorem lw_p17 : lw_okq (⟨"MusicWalls", "meetingsTried", "(I)I"⟩, 9) := ⟨⟨by decide +kernel, by decide +kernel⟩, List.mem_of_getElem? (i := 19) (by decide +kernel), List.mem_of_getElem? (i := 728) (by decide +kernel), List.mem_of_getElem? (i := 729) (by decide +kernel)⟩
theorem lw_p18 : lw_okq (⟨"MusicWalls", "areTwoRooms", "(II)Z"⟩, 9) := ⟨⟨by decide +kernel, by decide +kernel⟩, List.mem_of_getElem? (i := 19) (by decide +kernel), List.mem_of_getElem? (i := 748) (by decide +kernel), List.mem_of_getElem? (i := 749) (by decide +kernel)⟩
theorem lw_p19 : lw_okq (⟨"MusicWalls$Order", "barsBehind", "(II)I"⟩, 3) := ⟨⟨by decide +kernel, by decide +kernel⟩, List.mem_of_getElem? (i := 235) (by decide +kernel), List.mem_of_getElem? (i := 799) (by decide +kernel), List.mem_of_getElem? (i := 800) (by decide +kernel)⟩
theorem lw_p20 : lw_okq (⟨"MusicWalls$Order", "firstBest", "(II)I"⟩, 3) := ⟨⟨by decide +kernel, by decide +kernel⟩, List.mem_of_getElem? (i := 235) (by decide +kernel), List.mem_of_getElem? (i := 803) (by decide +kernel), List.mem_of_getElem? (i := 804) (by decide +kernel)⟩
theorem lw_p21 : lw_okq (⟨"MusicWalls$Order", "barsWith", "(III)I"⟩, 3) := ⟨⟨by decide +kernel, by decide +kernel⟩, List.mem_of_getElem? (i := 235) (by decide +kernel), List.mem_of_getElem? (i := 808) (by decide +kernel), List.mem_of_getElem? (i := 809) (by decide +kernel)⟩
theorem lw_p22 : lw_okq (⟨"MusicWalls$Sight", "fits", "(LMusicWalls$Life;II)Z"⟩, 10) := ⟨⟨by decide +kernel, by decide +kernel⟩, List.mem_of_getElem? (i := 198) (by decide +kernel), List.mem_of_getElem? (i := 874) (by decide +kernel), List.mem_of_getElem? (i := 875) (by decide +kernel)⟩
theorem lw_p23 : lw_okq (⟨"MusicWalls$Sight", "greatestPart", "(LMusicWalls$Life;I)I"⟩, 10) := ⟨⟨by decide +kernel, by decide +kernel⟩, List.mem_of_getElem? (i := 198) (by decide +kernel), List.mem_of_getElem? (i := 900) (by decide +kernel), List.mem_of_getElem? (i := 901) (by decide +kernel)⟩
theorem lw_p24 : lw_okq (⟨"MusicWallsModel", "step", "()V"⟩, 27) := ⟨⟨by decide +kernel, by decide +kernel⟩, List.mem_of_getElem? (i := 961) (by decide +kernel), List.mem_of_getElem? (i := 1064) (by decide +kernel), List.mem_of_getElem? (i := 1065) (by decide +kernel)⟩
theorem lw_p25 : lw_okq (⟨"MusicWallsModel", "here", "()I"⟩, 27) := ⟨⟨by decide +kernel, by decide +kernel⟩, List.mem_of_getElem? (i := 961) (by decide +kernel), List.mem_of_getElem? (i := 1068) (by decide +kernel), List.mem_of_getElem? (i := 1069) (by decide +kernel)⟩
theorem lw_p26 : lw_okq (⟨"MusicWallsModel", "readsClause", "(Z)Z"⟩, 27) := ⟨⟨by decide +kernel, by decide +kernel⟩, List.mem_of_getElem? (i := 961) (by decide +kernel), List.mem_of_getElem? (i := 1074) (by decide +kernel), List.mem_of_getElem? (i := 1075) (by decide +kernel)⟩
theorem lw_p27 : lw_okq (⟨"MusicWallsModel", "number", "(III)Z"⟩, 27) := ⟨⟨by decide +kernel, by decide +kernel⟩, List.mem_of_getElem? (i := 961) (by decide +kernel), List.mem_of_getElem? (i := 1078) (by decide +kernel), List.mem_of_getElem? (i := 1079) (by decide +kernel)⟩
theorem lw_p28 : lw_okq (⟨"MusicWallsModel", "fails", "(I)Z"⟩, 27) := ⟨⟨by decide +kernel, by decide +kernel⟩, List.mem_of_getElem? (i := 961) (by decide +kernel), List.mem_of_getElem? (i := 1082) (by decide +kernel), List.mem_of_getElem? (i := 1083) (by decide +kernel)⟩
theorem lw_p29 : lw_okq (⟨"MusicWallsModel", "ends", "()Z"⟩, 27) := ⟨⟨by decide +kernel, by decide +kernel⟩, List.mem_of_getElem? (i := 961) (by decide +kernel), List.mem_of_getElem? (i := 1086) (by decide +kernel), List.mem_of_getElem? (i := 1087) (by decide +kernel)⟩
theorem lw_p30 : lw_okq (⟨"MusicWallsModel", "readsRoom", "()Z"⟩, 27) := ⟨⟨by decide +kernel, by decide +kernel⟩, List.mem_of_getElem? (i := 961) (by decide +kernel), List.mem_of_getElem? (i := 1090) (by decide +kernel), List.mem_of_getElem? (i := 1091) (by decide +kernel)⟩
theorem lw_p31 : lw_okq (⟨"MusicWallsModel", "row", "(III)Z"⟩, 27) := ⟨⟨by decide +kernel, by decide +kernel⟩, List.mem_of_getElem? (i := 961) (by decide +kernel), List.mem_of_getElem? (i := 1094) (by decide +kernel), List.mem_of_getElem? (i := 1095) (by decide +kernel)⟩
def lw_privs_2 : List (MethodName × Nat) := [(⟨"MusicWalls", "draw", "(I)I"⟩, 9), (⟨"MusicWalls", "meetingsTried", "(I)I"⟩, 9), (⟨"MusicWalls", "areTwoRooms", "(II)Z"⟩, 9), (⟨"MusicWalls$Order", "barsBehind", "(II)I"⟩, 3), (⟨"MusicWalls$Order", "firstBest", "(II)I"⟩, 3), (⟨"MusicWalls$Order", "barsWith", "(III)I"⟩, 3), (⟨"MusicWalls$Sight", "fits", "(LMusicWalls$Life;II)Z"⟩, 10), (⟨"MusicWalls$Sight", "greatestPart", "(LMusicWalls$Life;I)I"⟩, 10), (⟨"MusicWallsModel", "step", "()V"⟩, 27), (⟨"MusicWallsModel", "here", "()I"⟩, 27), (⟨"MusicWallsModel", "readsClause", "(Z)Z"⟩, 27), (⟨"MusicWallsModel", "number", "(III)Z"⟩, 27), (⟨"MusicWallsModel", "fails", "(I)Z"⟩, 27), (⟨"MusicWallsModel", "ends", "()Z"⟩, 27), (⟨"MusicWallsModel", "readsRoom", "()Z"⟩, 27), (⟨"MusicWallsModel", "row", "(III)Z"⟩, 27)]
theorem lw_r2 : ∀ q ∈ lw_privs_2, lw_okq q := List.forall_mem_cons.mpr ⟨lw_p16, List.forall_mem_cons.mpr ⟨lw_p17, List.forall_mem_cons.mpr ⟨lw_p18, List.forall_mem_cons.mpr ⟨lw_p19, List.forall_mem_cons.mpr ⟨lw_p20, List.forall_mem_cons.mpr ⟨lw_p21, List.forall_mem_cons.mpr ⟨lw_p22, List.forall_mem_cons.mpr ⟨lw_p23, List.forall_mem_cons.mpr ⟨lw_p24, List.forall_mem_cons.mpr ⟨lw_p25, List.forall_mem_cons.mpr ⟨lw_p26, List.forall_mem_cons.mpr ⟨lw_p27, List.forall_mem_cons.mpr ⟨lw_p28, List.forall_mem_cons.mpr ⟨lw_p29, List.forall_mem_cons.mpr ⟨lw_p30, List.forall_mem_cons.mpr ⟨lw_p31, fun _ h => absurd h List.not_mem_nil⟩⟩⟩⟩⟩⟩⟩⟩⟩⟩⟩⟩⟩⟩⟩⟩
theorem lw_p32 : lw_okq (⟨"MusicWallsModel", "readsUnder", "()Z"⟩, 27) := ⟨⟨by decide +kernel, by decide +kernel⟩, List.mem_of_getElem? (i := 961) (by decide +kernel), List.mem_of_getElem? (i := 1098) (by decide +kernel), List.mem_of_getElem? (i := 1099) (by decide +kernel)⟩
theorem lw_p33 : lw_okq (⟨"MusicWallsModel", "readsPerson", "()Z"⟩, 27) := ⟨⟨by decide +kernel, by decide +kernel⟩, List.mem_of_getElem? (i := 961) (by decide +kernel), List.mem_of_getElem? (i := 1102) (by decide +kernel), List.mem_of_getElem? (i := 1103) (by decide +kernel)⟩
theorem lw_p34 : lw_okq (⟨"MusicWallsModel", "readsWall", "()Z"⟩, 27) := ⟨⟨by decide +kernel, by decide +kernel⟩, List.mem_of_getElem? (i := 961) (by decide +kernel), List.mem_of_getElem? (i := 1106) (by decide +kernel), List.mem_of_getElem? (i := 1107) (by decide +kernel)⟩
theorem lw_p35 : lw_okq (⟨"MusicWallsModel", "begins", "()V"⟩, 27) := ⟨⟨by decide +kernel, by decide +kernel⟩, List.mem_of_getElem? (i := 961) (by decide +kernel), List.mem_of_getElem? (i := 1113) (by decide +kernel), List.mem_of_getElem? (i := 1114) (by decide +kernel)⟩
theorem lw_p36 : lw_okq (⟨"MusicWallsModel", "open", "()I"⟩, 27) := ⟨⟨by decide +kernel, by decide +kernel⟩, List.mem_of_getElem? (i := 961) (by decide +kernel), List.mem_of_getElem? (i := 1125) (by decide +kernel), List.mem_of_getElem? (i := 1126) (by decide +kernel)⟩
theorem lw_p37 : lw_okq (⟨"MusicWallsModel", "reads", "(II)I"⟩, 27) := ⟨⟨by decide +kernel, by decide +kernel⟩, List.mem_of_getElem? (i := 961) (by decide +kernel), List.mem_of_getElem? (i := 1129) (by decide +kernel), List.mem_of_getElem? (i := 1130) (by decide +kernel)⟩
theorem lw_p38 : lw_okq (⟨"MusicWallsModel", "readsOn", "([III)I"⟩, 27) := ⟨⟨by decide +kernel, by decide +kernel⟩, List.mem_of_getElem? (i := 961) (by decide +kernel), List.mem_of_getElem? (i := 1133) (by decide +kernel), List.mem_of_getElem? (i := 1134) (by decide +kernel)⟩
theorem lw_p39 : lw_okq (⟨"MusicWallsModel", "turned", "(IIZ)I"⟩, 27) := ⟨⟨by decide +kernel, by decide +kernel⟩, List.mem_of_getElem? (i := 961) (by decide +kernel), List.mem_of_getElem? (i := 1140) (by decide +kernel), List.mem_of_getElem? (i := 1141) (by decide +kernel)⟩
theorem lw_p40 : lw_okq (⟨"MusicWallsModel", "liftedInAll", "()I"⟩, 27) := ⟨⟨by decide +kernel, by decide +kernel⟩, List.mem_of_getElem? (i := 961) (by decide +kernel), List.mem_of_getElem? (i := 1144) (by decide +kernel), List.mem_of_getElem? (i := 1145) (by decide +kernel)⟩
theorem lw_p41 : lw_okq (⟨"MusicWallsModel", "mostRead", "()I"⟩, 27) := ⟨⟨by decide +kernel, by decide +kernel⟩, List.mem_of_getElem? (i := 961) (by decide +kernel), List.mem_of_getElem? (i := 1151) (by decide +kernel), List.mem_of_getElem? (i := 1152) (by decide +kernel)⟩
theorem lw_p42 : lw_okq (⟨"MusicWallsModel", "isRoom", "(I)Z"⟩, 27) := ⟨⟨by decide +kernel, by decide +kernel⟩, List.mem_of_getElem? (i := 961) (by decide +kernel), List.mem_of_getElem? (i := 1159) (by decide +kernel), List.mem_of_getElem? (i := 1160) (by decide +kernel)⟩
theorem lw_p43 : lw_okq (⟨"MusicWallsModel", "key", "(I)I"⟩, 27) := ⟨⟨by decide +kernel, by decide +kernel⟩, List.mem_of_getElem? (i := 961) (by decide +kernel), List.mem_of_getElem? (i := 1164) (by decide +kernel), List.mem_of_getElem? (i := 1165) (by decide +kernel)⟩
theorem lw_p44 : lw_okq (⟨"MusicWallsModel", "repeat", "(I)I"⟩, 27) := ⟨⟨by decide +kernel, by decide +kernel⟩, List.mem_of_getElem? (i := 961) (by decide +kernel), List.mem_of_getElem? (i := 1168) (by decide +kernel), List.mem_of_getElem? (i := 1169) (by decide +kernel)⟩
theorem lw_p45 : lw_okq (⟨"MusicWallsModel", "isBar", "(II)Z"⟩, 27) := ⟨⟨by decide +kernel, by decide +kernel⟩, List.mem_of_getElem? (i := 961) (by decide +kernel), List.mem_of_getElem? (i := 1176) (by decide +kernel), List.mem_of_getElem? (i := 1177) (by decide +kernel)⟩
theorem lw_p46 : lw_okq (⟨"MusicWallsModel", "isPerson", "(I)Z"⟩, 27) := ⟨⟨by decide +kernel, by decide +kernel⟩, List.mem_of_getElem? (i := 961) (by decide +kernel), List.mem_of_getElem? (i := 1185) (by decide +kernel), List.mem_of_getElem? (i := 1186) (by decide +kernel)⟩
theorem lw_p47 : lw_okq (⟨"MusicWallsModel", "refuses", "(I)I"⟩, 27) := ⟨⟨by decide +kernel, by decide +kernel⟩, List.mem_of_getElem? (i := 961) (by decide +kernel), List.mem_of_getElem? (i := 1202) (by decide +kernel), List.mem_of_getElem? (i := 1203) (by decide +kernel)⟩
def lw_privs_3 : List (MethodName × Nat) := [(⟨"MusicWallsModel", "readsUnder", "()Z"⟩, 27), (⟨"MusicWallsModel", "readsPerson", "()Z"⟩, 27), (⟨"MusicWallsModel", "readsWall", "()Z"⟩, 27), (⟨"MusicWallsModel", "begins", "()V"⟩, 27), (⟨"MusicWallsModel", "open", "()I"⟩, 27), (⟨"MusicWallsModel", "reads", "(II)I"⟩, 27), (⟨"MusicWallsModel", "readsOn", "([III)I"⟩, 27), (⟨"MusicWallsModel", "turned", "(IIZ)I"⟩, 27), (⟨"MusicWallsModel", "liftedInAll", "()I"⟩, 27), (⟨"MusicWallsModel", "mostRead", "()I"⟩, 27), (⟨"MusicWallsModel", "isRoom", "(I)Z"⟩, 27), (⟨"MusicWallsModel", "key", "(I)I"⟩, 27), (⟨"MusicWallsModel", "repeat", "(I)I"⟩, 27), (⟨"MusicWallsModel", "isBar", "(II)Z"⟩, 27), (⟨"MusicWallsModel", "isPerson", "(I)Z"⟩, 27), (⟨"MusicWallsModel", "refuses", "(I)I"⟩, 27)]
theorem lw_r3 : ∀ q ∈ lw_privs_3, lw_okq q := List.forall_mem_cons.mpr ⟨lw_p32, List.forall_mem_cons.mpr ⟨lw_p33, List.forall_mem_cons.mpr ⟨lw_p34, List.forall_mem_cons.mpr ⟨lw_p35, List.forall_mem_cons.mpr ⟨lw_p36, List.forall_mem_cons.mpr ⟨lw_p37, List.forall_mem_cons.mpr ⟨lw_p38, List.forall_mem_cons.mpr ⟨lw_p39, List.forall_mem_cons.mpr ⟨lw_p40, List.forall_mem_cons.mpr ⟨lw_p41, List.forall_mem_cons.mpr ⟨lw_p42, List.forall_mem_cons.mpr ⟨lw_p43, List.forall_mem_cons.mpr ⟨lw_p44, List.forall_mem_cons.mpr ⟨lw_p45, List.forall_mem_cons.mpr ⟨lw_p46, List.forall_mem_cons.mpr ⟨lw_p47, fun _ h => absurd h List.not_mem_nil⟩⟩⟩⟩⟩⟩⟩⟩⟩⟩⟩⟩⟩⟩⟩⟩
theorem lw_p48 : lw_okq (⟨"MusicWallsModel", "remember", "()V"⟩, 27) := ⟨⟨by decide +kernel, by decide +kernel⟩, List.mem_of_getElem? (i := 961) (by decide +kernel), List.mem_of_getElem? (i := 1209) (by decide +kernel), List.mem_of_getElem? (i := 1210) (by decide +kernel)⟩
theorem lw_p49 : lw_okq (⟨"MusicWallsModel", "hourGoes", "([II)I"⟩, 27) := ⟨⟨by decide +kernel, by decide +kernel⟩, List.mem_of_getElem? (i := 961) (by decide +kernel), List.mem_of_getElem? (i := 1213) (by decide +kernel), List.mem_of_getElem? (i := 1214) (by decide +kernel)⟩
theorem lw_p50 : lw_okq (⟨"MusicWallsModel", "walks", "([II)V"⟩, 27) := ⟨⟨by decide +kernel, by decide +kernel⟩, List.mem_of_getElem? (i := 961) (by decide +kernel), List.mem_of_getElem? (i := 1217) (by decide +kernel), List.mem_of_getElem? (i := 1218) (by decide +kernel)⟩
theorem lw_p51 : lw_okq (⟨"MusicWallsModel", "meetings", "([II)I"⟩, 27) := ⟨⟨by decide +kernel, by decide +kernel⟩, List.mem_of_getElem? (i := 961) (by decide +kernel), List.mem_of_getElem? (i := 1221) (by decide +kernel), List.mem_of_getElem? (i := 1222) (by decide +kernel)⟩
theorem lw_p52 : lw_okq (⟨"MusicWallsModel", "isAt", "([IIII)Z"⟩, 27) := ⟨⟨by decide +kernel, by decide +kernel⟩, List.mem_of_getElem? (i := 961) (by decide +kernel), List.mem_of_getElem? (i := 1225) (by decide +kernel), List.mem_of_getElem? (i := 1226) (by decide +kernel)⟩
theorem lw_p53 : lw_okq (⟨"MusicWallsModel", "draws", "()V"⟩, 27) := ⟨⟨by decide +kernel, by decide +kernel⟩, List.mem_of_getElem? (i := 961) (by decide +kernel), List.mem_of_getElem? (i := 1257) (by decide +kernel), List.mem_of_getElem? (i := 1258) (by decide +kernel)⟩
theorem lw_p54 : lw_okq (⟨"MusicWallsModel", "draw", "(I)I"⟩, 27) := ⟨⟨by decide +kernel, by decide +kernel⟩, List.mem_of_getElem? (i := 961) (by decide +kernel), List.mem_of_getElem? (i := 1261) (by decide +kernel), List.mem_of_getElem? (i := 1262) (by decide +kernel)⟩
theorem lw_p55 : lw_okq (⟨"MusicWallsModel", "layAside", "()V"⟩, 27) := ⟨⟨by decide +kernel, by decide +kernel⟩, List.mem_of_getElem? (i := 961) (by decide +kernel), List.mem_of_getElem? (i := 1278) (by decide +kernel), List.mem_of_getElem? (i := 1279) (by decide +kernel)⟩
theorem lw_p56 : lw_okq (⟨"MusicWallsModel", "areTwo", "(II)Z"⟩, 27) := ⟨⟨by decide +kernel, by decide +kernel⟩, List.mem_of_getElem? (i := 961) (by decide +kernel), List.mem_of_getElem? (i := 1294) (by decide +kernel), List.mem_of_getElem? (i := 1295) (by decide +kernel)⟩
theorem lw_p57 : lw_okq (⟨"MusicWallsModel", "inCanon", "(III)I"⟩, 27) := ⟨⟨by decide +kernel, by decide +kernel⟩, List.mem_of_getElem? (i := 961) (by decide +kernel), List.mem_of_getElem? (i := 1299) (by decide +kernel), List.mem_of_getElem? (i := 1300) (by decide +kernel)⟩
theorem lw_p58 : lw_okq (⟨"MusicWallsModel", "isIn", "(IIII)Z"⟩, 27) := ⟨⟨by decide +kernel, by decide +kernel⟩, List.mem_of_getElem? (i := 961) (by decide +kernel), List.mem_of_getElem? (i := 1303) (by decide +kernel), List.mem_of_getElem? (i := 1304) (by decide +kernel)⟩
theorem lw_p59 : lw_okq (⟨"MusicWallsModel", "joinOf", "(II)I"⟩, 27) := ⟨⟨by decide +kernel, by decide +kernel⟩, List.mem_of_getElem? (i := 961) (by decide +kernel), List.mem_of_getElem? (i := 1319) (by decide +kernel), List.mem_of_getElem? (i := 1320) (by decide +kernel)⟩
theorem lw_p60 : lw_okq (⟨"MusicWallsModel", "nextOrder", "(I)Z"⟩, 27) := ⟨⟨by decide +kernel, by decide +kernel⟩, List.mem_of_getElem? (i := 961) (by decide +kernel), List.mem_of_getElem? (i := 1328) (by decide +kernel), List.mem_of_getElem? (i := 1329) (by decide +kernel)⟩
theorem lw_p61 : lw_okq (⟨"MusicWallsModel", "apart", "(II)I"⟩, 27) := ⟨⟨by decide +kernel, by decide +kernel⟩, List.mem_of_getElem? (i := 961) (by decide +kernel), List.mem_of_getElem? (i := 1336) (by decide +kernel), List.mem_of_getElem? (i := 1337) (by decide +kernel)⟩
theorem lw_p62 : lw_okq (⟨"MusicWallsModel", "isSo", "(II)Z"⟩, 27) := ⟨⟨by decide +kernel, by decide +kernel⟩, List.mem_of_getElem? (i := 961) (by decide +kernel), List.mem_of_getElem? (i := 1363) (by decide +kernel), List.mem_of_getElem? (i := 1364) (by decide +kernel)⟩
theorem lw_p63 : lw_okq (⟨"MusicWallsModel", "greatestPart", "(I)I"⟩, 27) := ⟨⟨by decide +kernel, by decide +kernel⟩, List.mem_of_getElem? (i := 961) (by decide +kernel), List.mem_of_getElem? (i := 1372) (by decide +kernel), List.mem_of_getElem? (i := 1373) (by decide +kernel)⟩
def lw_privs_4 : List (MethodName × Nat) := [(⟨"MusicWallsModel", "remember", "()V"⟩, 27), (⟨"MusicWallsModel", "hourGoes", "([II)I"⟩, 27), (⟨"MusicWallsModel", "walks", "([II)V"⟩, 27), (⟨"MusicWallsModel", "meetings", "([II)I"⟩, 27), (⟨"MusicWallsModel", "isAt", "([IIII)Z"⟩, 27), (⟨"MusicWallsModel", "draws", "()V"⟩, 27), (⟨"MusicWallsModel", "draw", "(I)I"⟩, 27), (⟨"MusicWallsModel", "layAside", "()V"⟩, 27), (⟨"MusicWallsModel", "areTwo", "(II)Z"⟩, 27), (⟨"MusicWallsModel", "inCanon", "(III)I"⟩, 27), (⟨"MusicWallsModel", "isIn", "(IIII)Z"⟩, 27), (⟨"MusicWallsModel", "joinOf", "(II)I"⟩, 27), (⟨"MusicWallsModel", "nextOrder", "(I)Z"⟩, 27), (⟨"MusicWallsModel", "apart", "(II)I"⟩, 27), (⟨"MusicWallsModel", "isSo", "(II)Z"⟩, 27), (⟨"MusicWallsModel", "greatestPart", "(I)I"⟩, 27)]
theorem lw_r4 : ∀ q ∈ lw_privs_4, lw_okq q := List.forall_mem_cons.mpr ⟨lw_p48, List.forall_mem_cons.mpr ⟨lw_p49, List.forall_mem_cons.mpr ⟨lw_p50, List.forall_mem_cons.mpr ⟨lw_p51, List.forall_mem_cons.mpr ⟨lw_p52, List.forall_mem_cons.mpr ⟨lw_p53, List.forall_mem_cons.mpr ⟨lw_p54, List.forall_mem_cons.mpr ⟨lw_p55, List.forall_mem_cons.mpr ⟨lw_p56, List.forall_mem_cons.mpr ⟨lw_p57, List.forall_mem_cons.mpr ⟨lw_p58, List.forall_mem_cons.mpr ⟨lw_p59, List.forall_mem_cons.mpr ⟨lw_p60, List.forall_mem_cons.mpr ⟨lw_p61, List.forall_mem_cons.mpr ⟨lw_p62, List.forall_mem_cons.mpr ⟨lw_p63, fun _ h => absurd h List.not_mem_nil⟩⟩⟩⟩⟩⟩⟩⟩⟩⟩⟩⟩⟩⟩⟩⟩
def lw_privs : List (MethodName × Nat) := lw_privs_1 ++ (lw_privs_2 ++ (lw_privs_3 ++ (lw_privs_4)))
def lw_tbl : List Cond := k2_sels lw_privs ++ tables_1
theorem lw_privs_ok : ∀ q ∈ lw_privs, lw_okq q := by
  show ∀ q ∈ lw_privs_1 ++ (lw_privs_2 ++ (lw_privs_3 ++ (lw_privs_4))), lw_okq q
  exact List.forall_mem_append.mpr ⟨lw_r1, List.forall_mem_append.mpr ⟨lw_r2, List.forall_mem_append.mpr ⟨lw_r3, lw_r4⟩⟩⟩
def RX0 : String := "MusicWalls$Canons"
def TX0 : u_T := fun k => match k with
  | _ => ("", "", "", false)
def tyX0 : Nat → FieldType := fun k => match k with
  | _ => .int
abbrev wsX00 : List Cond := u_ws RX0 TX0 0
theorem nmX0 : ∀ a, a < 0 → ∀ b, b < 0 → a ≠ b → (TX0 a).2.1 ≠ (TX0 b).2.1 := by decide +kernel
theorem tyX0_ok : ∀ k, k < 0 → parseFieldDescriptor (TX0 k).2.2.1 = some (tyX0 k) := by decide +kernel
abbrev cX0_alike : ByteArray := prog_2_method_2_code
def yX0_alike : MethodName := ⟨RX0, "alike", "(LMusicWalls$Life;III)I"⟩
abbrev cX0_bestShift : ByteArray := prog_2_method_3_code
def yX0_bestShift : MethodName := ⟨RX0, "bestShift", "(LMusicWalls$Life;II)I"⟩
abbrev cX0_barsToTurn : ByteArray := prog_2_method_4_code
def yX0_barsToTurn : MethodName := ⟨RX0, "barsToTurn", "(LMusicWalls$Life;III)I"⟩
def RX1 : String := "MusicWalls$House"
def TX1 : u_T := fun k => match k with
  | 0 => ("MusicWalls$House", "told", "Z", false)
  | 1 => ("MusicWalls$House", "damp", "I", false)
  | 2 => ("MusicWalls$House", "rooms", "I", false)
  | 3 => ("MusicWalls$House", "persons", "I", false)
  | 4 => ("MusicWalls$House", "walls", "I", false)
  | 5 => ("MusicWalls$House", "underTold", "I", false)
  | 6 => ("MusicWalls$House", "bars", "[I", true)
  | 7 => ("MusicWalls$House", "paper", "[I", true)
  | 8 => ("MusicWalls$House", "under", "[I", true)
  | 9 => ("MusicWalls$House", "personParts", "[I", true)
  | _ => ("MusicWalls$House", "wallParts", "[I", true)
def tyX1 : Nat → FieldType := fun k => match k with
  | 0 => .boolean
  | 1 => .int
  | 2 => .int
  | 3 => .int
  | 4 => .int
  | 5 => .int
  | 6 => .array .int
  | 7 => .array .int
  | 8 => .array .int
  | 9 => .array .int
  | _ => .array .int
abbrev wsX10 : List Cond := u_ws RX1 TX1 11
theorem nmX1 : ∀ a, a < 11 → ∀ b, b < 11 → a ≠ b → (TX1 a).2.1 ≠ (TX1 b).2.1 := by decide +kernel
theorem tyX1_ok : ∀ k, k < 11 → parseFieldDescriptor (TX1 k).2.2.1 = some (tyX1 k) := by decide +kernel
abbrev cX1_init : ByteArray := prog_3_method_1_code
def yX1_init : MethodName := ⟨RX1, "<init>", "()V"⟩
abbrev cX1_clear : ByteArray := prog_3_method_2_code
def yX1_clear : MethodName := ⟨RX1, "clear", "()V"⟩
abbrev cX1_become : ByteArray := prog_3_method_3_code
def yX1_become : MethodName := ⟨RX1, "become", "(LMusicWalls$House;)V"⟩
abbrev cX1_hasRoom : ByteArray := prog_3_method_4_code
def yX1_hasRoom : MethodName := ⟨RX1, "hasRoom", "(I)Z"⟩
abbrev cX1_hasBar : ByteArray := prog_3_method_5_code
def yX1_hasBar : MethodName := ⟨RX1, "hasBar", "(II)Z"⟩
abbrev cX1_hasPerson : ByteArray := prog_3_method_6_code
def yX1_hasPerson : MethodName := ⟨RX1, "hasPerson", "(I)Z"⟩
abbrev cX1_hasWall : ByteArray := prog_3_method_7_code
def yX1_hasWall : MethodName := ⟨RX1, "hasWall", "(I)Z"⟩
abbrev cX1_hasUnder : ByteArray := prog_3_method_8_code
def yX1_hasUnder : MethodName := ⟨RX1, "hasUnder", "(I)Z"⟩
abbrev cX1_barsOf : ByteArray := prog_3_method_9_code
def yX1_barsOf : MethodName := ⟨RX1, "barsOf", "(I)I"⟩
abbrev cX1_paperOf : ByteArray := prog_3_method_10_code
def yX1_paperOf : MethodName := ⟨RX1, "paperOf", "(II)I"⟩
abbrev cX1_underOf : ByteArray := prog_3_method_11_code
def yX1_underOf : MethodName := ⟨RX1, "underOf", "(II)I"⟩
abbrev cX1_personPart : ByteArray := prog_3_method_12_code
def yX1_personPart : MethodName := ⟨RX1, "personPart", "(II)I"⟩
abbrev cX1_wallPart : ByteArray := prog_3_method_13_code
def yX1_wallPart : MethodName := ⟨RX1, "wallPart", "(II)I"⟩
abbrev cX1_putPaper : ByteArray := prog_3_method_14_code
def yX1_putPaper : MethodName := ⟨RX1, "putPaper", "(III)V"⟩
abbrev cX1_putUnder : ByteArray := prog_3_method_15_code
def yX1_putUnder : MethodName := ⟨RX1, "putUnder", "(III)V"⟩
abbrev cX1_putPerson : ByteArray := prog_3_method_16_code
def yX1_putPerson : MethodName := ⟨RX1, "putPerson", "(II)V"⟩
abbrev cX1_putWall : ByteArray := prog_3_method_17_code
def yX1_putWall : MethodName := ⟨RX1, "putWall", "(II)V"⟩
abbrev cX1_addRoom : ByteArray := prog_3_method_18_code
def yX1_addRoom : MethodName := ⟨RX1, "addRoom", "(I)V"⟩
def RX2 : String := "MusicWalls$Images"
def TX2 : u_T := fun k => match k with
  | 0 => ("MusicWalls$Images", "lives", "[LMusicWalls$Life;", true)
  | 1 => ("MusicWalls$Images", "chances", "[I", true)
  | _ => ("MusicWalls$Images", "kept", "I", false)
def tyX2 : Nat → FieldType := fun k => match k with
  | 0 => .array (.object "MusicWalls$Life")
  | 1 => .array .int
  | _ => .int
abbrev wsX20 : List Cond := u_ws RX2 TX2 3
theorem nmX2 : ∀ a, a < 3 → ∀ b, b < 3 → a ≠ b → (TX2 a).2.1 ≠ (TX2 b).2.1 := by decide +kernel
theorem tyX2_ok : ∀ k, k < 3 → parseFieldDescriptor (TX2 k).2.2.1 = some (tyX2 k) := by decide +kernel
abbrev cX2_init : ByteArray := prog_4_method_1_code
def yX2_init : MethodName := ⟨RX2, "<init>", "(LMusicWalls$House;)V"⟩
abbrev cX2_forget : ByteArray := prog_4_method_2_code
def yX2_forget : MethodName := ⟨RX2, "forget", "()V"⟩
abbrev cX2_has : ByteArray := prog_4_method_3_code
def yX2_has : MethodName := ⟨RX2, "has", "(I)Z"⟩
abbrev cX2_store : ByteArray := prog_4_method_4_code
def yX2_store : MethodName := ⟨RX2, "store", "(ILMusicWalls$Life;I)V"⟩
abbrev cX2_restore : ByteArray := prog_4_method_5_code
def yX2_restore : MethodName := ⟨RX2, "restore", "(ILMusicWalls$Life;)V"⟩
abbrev cX2_chanceOf : ByteArray := prog_4_method_6_code
def yX2_chanceOf : MethodName := ⟨RX2, "chanceOf", "(I)I"⟩
def RX3 : String := "MusicWalls$Life"
def TX3 : u_T := fun k => match k with
  | 0 => ("MusicWalls$Life", "house", "LMusicWalls$House;", true)
  | 1 => ("MusicWalls$Life", "hours", "I", false)
  | 2 => ("MusicWalls$Life", "met", "I", false)
  | 3 => ("MusicWalls$Life", "meetings", "I", false)
  | 4 => ("MusicWalls$Life", "lifted", "[I", true)
  | 5 => ("MusicWalls$Life", "roomsOf", "[I", true)
  | 6 => ("MusicWalls$Life", "placesOf", "[I", true)
  | 7 => ("MusicWalls$Life", "pacesOf", "[I", true)
  | _ => ("MusicWalls$Life", "log", "[I", true)
def tyX3 : Nat → FieldType := fun k => match k with
  | 0 => .object "MusicWalls$House"
  | 1 => .int
  | 2 => .int
  | 3 => .int
  | 4 => .array .int
  | 5 => .array .int
  | 6 => .array .int
  | 7 => .array .int
  | _ => .array .int
abbrev wsX30 : List Cond := u_ws RX3 TX3 9
theorem nmX3 : ∀ a, a < 9 → ∀ b, b < 9 → a ≠ b → (TX3 a).2.1 ≠ (TX3 b).2.1 := by decide +kernel
theorem tyX3_ok : ∀ k, k < 9 → parseFieldDescriptor (TX3 k).2.2.1 = some (tyX3 k) := by decide +kernel
abbrev cX3_init : ByteArray := prog_5_method_1_code
def yX3_init : MethodName := ⟨RX3, "<init>", "(LMusicWalls$House;)V"⟩
abbrev cX3_begin : ByteArray := prog_5_method_2_code
def yX3_begin : MethodName := ⟨RX3, "begin", "()V"⟩
abbrev cX3_become : ByteArray := prog_5_method_3_code
def yX3_become : MethodName := ⟨RX3, "become", "(LMusicWalls$Life;)V"⟩
abbrev cX3_liftedIn : ByteArray := prog_5_method_4_code
def yX3_liftedIn : MethodName := ⟨RX3, "liftedIn", "(I)I"⟩
abbrev cX3_liftedInAll : ByteArray := prog_5_method_5_code
def yX3_liftedInAll : MethodName := ⟨RX3, "liftedInAll", "()I"⟩
abbrev cX3_isLifted : ByteArray := prog_5_method_6_code
def yX3_isLifted : MethodName := ⟨RX3, "isLifted", "(II)Z"⟩
abbrev cX3_turn : ByteArray := prog_5_method_7_code
def yX3_turn : MethodName := ⟨RX3, "turn", "(II)V"⟩
abbrev cX3_reads : ByteArray := prog_5_method_8_code
def yX3_reads : MethodName := ⟨RX3, "reads", "(II)I"⟩
abbrev cX3_readsRound : ByteArray := prog_5_method_9_code
def yX3_readsRound : MethodName := ⟨RX3, "readsRound", "(II)I"⟩
abbrev cX3_roomOf : ByteArray := prog_5_method_10_code
def yX3_roomOf : MethodName := ⟨RX3, "roomOf", "(I)I"⟩
abbrev cX3_placeOf : ByteArray := prog_5_method_11_code
def yX3_placeOf : MethodName := ⟨RX3, "placeOf", "(I)I"⟩
abbrev cX3_paceOf : ByteArray := prog_5_method_12_code
def yX3_paceOf : MethodName := ⟨RX3, "paceOf", "(I)I"⟩
abbrev cX3_readBy : ByteArray := prog_5_method_13_code
def yX3_readBy : MethodName := ⟨RX3, "readBy", "(I)I"⟩
abbrev cX3_isAt : ByteArray := prog_5_method_14_code
def yX3_isAt : MethodName := ⟨RX3, "isAt", "(III)Z"⟩
abbrev cX3_setPlace : ByteArray := prog_5_method_15_code
def yX3_setPlace : MethodName := ⟨RX3, "setPlace", "(III)V"⟩
abbrev cX3_setPace : ByteArray := prog_5_method_16_code
def yX3_setPace : MethodName := ⟨RX3, "setPace", "(II)V"⟩
abbrev cX3_addMeeting : ByteArray := prog_5_method_17_code
def yX3_addMeeting : MethodName := ⟨RX3, "addMeeting", "(III)V"⟩
abbrev cX3_loggedNow : ByteArray := prog_5_method_18_code
def yX3_loggedNow : MethodName := ⟨RX3, "loggedNow", "()I"⟩
abbrev cX3_meeting : ByteArray := prog_5_method_19_code
def yX3_meeting : MethodName := ⟨RX3, "meeting", "(II)I"⟩
def RX4 : String := "MusicWalls$Order"
def TX4 : u_T := fun k => match k with
  | 0 => ("MusicWalls$Order", "added", "[I", true)
  | 1 => ("MusicWalls$Order", "fewest", "[I", true)
  | _ => ("MusicWalls$Order", "rooms", "I", false)
def tyX4 : Nat → FieldType := fun k => match k with
  | 0 => .array .int
  | 1 => .array .int
  | _ => .int
abbrev wsX40 : List Cond := u_ws RX4 TX4 3
theorem nmX4 : ∀ a, a < 3 → ∀ b, b < 3 → a ≠ b → (TX4 a).2.1 ≠ (TX4 b).2.1 := by decide +kernel
theorem tyX4_ok : ∀ k, k < 3 → parseFieldDescriptor (TX4 k).2.2.1 = some (tyX4 k) := by decide +kernel
abbrev cX4_init : ByteArray := prog_6_method_1_code
def yX4_init : MethodName := ⟨RX4, "<init>", "()V"⟩
abbrev cX4_reckon : ByteArray := prog_6_method_2_code
def yX4_reckon : MethodName := ⟨RX4, "reckon", "(LMusicWalls$Life;)V"⟩
abbrev cX4_fewestBars : ByteArray := prog_6_method_3_code
def yX4_fewestBars : MethodName := ⟨RX4, "fewestBars", "()I"⟩
abbrev cX4_leastNumber : ByteArray := prog_6_method_4_code
def yX4_leastNumber : MethodName := ⟨RX4, "leastNumber", "()I"⟩
abbrev cX4_barsBehind : ByteArray := prog_6_method_5_code
def yX4_barsBehind : MethodName := ⟨RX4, "barsBehind", "(II)I"⟩
abbrev cX4_firstBest : ByteArray := prog_6_method_6_code
def yX4_firstBest : MethodName := ⟨RX4, "firstBest", "(II)I"⟩
abbrev cX4_barsWith : ByteArray := prog_6_method_7_code
def yX4_barsWith : MethodName := ⟨RX4, "barsWith", "(III)I"⟩
def RX5 : String := "MusicWalls$Passing"
def TX5 : u_T := fun k => match k with
  | _ => ("", "", "", false)
def tyX5 : Nat → FieldType := fun k => match k with
  | _ => .int
abbrev wsX50 : List Cond := u_ws RX5 TX5 0
theorem nmX5 : ∀ a, a < 0 → ∀ b, b < 0 → a ≠ b → (TX5 a).2.1 ≠ (TX5 b).2.1 := by decide +kernel
theorem tyX5_ok : ∀ k, k < 0 → parseFieldDescriptor (TX5 k).2.2.1 = some (tyX5 k) := by decide +kernel
abbrev cX5_anHour : ByteArray := prog_7_method_2_code
def yX5_anHour : MethodName := ⟨RX5, "anHour", "(LMusicWalls$Life;)I"⟩
abbrev cX5_areAtOneWall : ByteArray := prog_7_method_3_code
def yX5_areAtOneWall : MethodName := ⟨RX5, "areAtOneWall", "(LMusicWalls$Life;II)Z"⟩
abbrev cX5_goOn : ByteArray := prog_7_method_4_code
def yX5_goOn : MethodName := ⟨RX5, "goOn", "(LMusicWalls$Life;I)V"⟩
abbrev cX5_meetThrough : ByteArray := prog_7_method_5_code
def yX5_meetThrough : MethodName := ⟨RX5, "meetThrough", "(LMusicWalls$Life;I)V"⟩
abbrev cX5_isAtA : ByteArray := prog_7_method_6_code
def yX5_isAtA : MethodName := ⟨RX5, "isAtA", "(LMusicWalls$Life;II)Z"⟩
abbrev cX5_isAtB : ByteArray := prog_7_method_7_code
def yX5_isAtB : MethodName := ⟨RX5, "isAtB", "(LMusicWalls$Life;II)Z"⟩
abbrev cX5_dampLifts : ByteArray := prog_7_method_8_code
def yX5_dampLifts : MethodName := ⟨RX5, "dampLifts", "(LMusicWalls$Life;I)V"⟩
def RX6 : String := "MusicWalls$Past"
def TX6 : u_T := fun k => match k with
  | 0 => ("MusicWalls$Past", "ahead", "[LMusicWalls$Life;", true)
  | 1 => ("MusicWalls$Past", "size", "I", false)
  | _ => ("MusicWalls$Past", "next", "I", false)
def tyX6 : Nat → FieldType := fun k => match k with
  | 0 => .array (.object "MusicWalls$Life")
  | 1 => .int
  | _ => .int
abbrev wsX60 : List Cond := u_ws RX6 TX6 3
theorem nmX6 : ∀ a, a < 3 → ∀ b, b < 3 → a ≠ b → (TX6 a).2.1 ≠ (TX6 b).2.1 := by decide +kernel
theorem tyX6_ok : ∀ k, k < 3 → parseFieldDescriptor (TX6 k).2.2.1 = some (tyX6 k) := by decide +kernel
abbrev cX6_init : ByteArray := prog_8_method_1_code
def yX6_init : MethodName := ⟨RX6, "<init>", "(LMusicWalls$House;)V"⟩
abbrev cX6_size : ByteArray := prog_8_method_2_code
def yX6_size : MethodName := ⟨RX6, "size", "()I"⟩
abbrev cX6_forget : ByteArray := prog_8_method_3_code
def yX6_forget : MethodName := ⟨RX6, "forget", "()V"⟩
abbrev cX6_add : ByteArray := prog_8_method_4_code
def yX6_add : MethodName := ⟨RX6, "add", "(LMusicWalls$Life;)V"⟩
abbrev cX6_takeBack : ByteArray := prog_8_method_5_code
def yX6_takeBack : MethodName := ⟨RX6, "takeBack", "(ILMusicWalls$Life;)V"⟩
abbrev cX6_kept : ByteArray := prog_8_method_6_code
def yX6_kept : MethodName := ⟨RX6, "kept", "(I)LMusicWalls$Life;"⟩
def RX7 : String := "MusicWalls$Reader"
def TX7 : u_T := fun k => match k with
  | 0 => ("MusicWalls$Reader", "draft", "LMusicWalls$House;", true)
  | 1 => ("MusicWalls$Reader", "text", "[I", true)
  | 2 => ("MusicWalls$Reader", "length", "I", false)
  | 3 => ("MusicWalls$Reader", "at", "I", false)
  | 4 => ("MusicWalls$Reader", "first", "I", false)
  | 5 => ("MusicWalls$Reader", "number", "I", false)
  | _ => ("MusicWalls$Reader", "place", "I", false)
def tyX7 : Nat → FieldType := fun k => match k with
  | 0 => .object "MusicWalls$House"
  | 1 => .array .int
  | 2 => .int
  | 3 => .int
  | 4 => .int
  | 5 => .int
  | _ => .int
abbrev wsX70 : List Cond := u_ws RX7 TX7 7
theorem nmX7 : ∀ a, a < 7 → ∀ b, b < 7 → a ≠ b → (TX7 a).2.1 ≠ (TX7 b).2.1 := by decide +kernel
theorem tyX7_ok : ∀ k, k < 7 → parseFieldDescriptor (TX7 k).2.2.1 = some (tyX7 k) := by decide +kernel
abbrev cX7_init : ByteArray := prog_9_method_1_code
def yX7_init : MethodName := ⟨RX7, "<init>", "()V"⟩
abbrev cX7_letters : ByteArray := prog_9_method_2_code
def yX7_letters : MethodName := ⟨RX7, "letters", "()I"⟩
abbrev cX7_place : ByteArray := prog_9_method_3_code
def yX7_place : MethodName := ⟨RX7, "place", "()I"⟩
abbrev cX7_draft : ByteArray := prog_9_method_4_code
def yX7_draft : MethodName := ⟨RX7, "draft", "()LMusicWalls$House;"⟩
abbrev cX7_add : ByteArray := prog_9_method_5_code
def yX7_add : MethodName := ⟨RX7, "add", "(I)Z"⟩
abbrev cX7_read : ByteArray := prog_9_method_6_code
def yX7_read : MethodName := ⟨RX7, "read", "()I"⟩
abbrev cX7_readClause : ByteArray := prog_9_method_7_code
def yX7_readClause : MethodName := ⟨RX7, "readClause", "()V"⟩
abbrev cX7_readDamp : ByteArray := prog_9_method_8_code
def yX7_readDamp : MethodName := ⟨RX7, "readDamp", "()V"⟩
abbrev cX7_readRoom : ByteArray := prog_9_method_9_code
def yX7_readRoom : MethodName := ⟨RX7, "readRoom", "()V"⟩
abbrev cX7_readUnder : ByteArray := prog_9_method_10_code
def yX7_readUnder : MethodName := ⟨RX7, "readUnder", "()V"⟩
abbrev cX7_readPerson : ByteArray := prog_9_method_11_code
def yX7_readPerson : MethodName := ⟨RX7, "readPerson", "()V"⟩
abbrev cX7_readWall : ByteArray := prog_9_method_12_code
def yX7_readWall : MethodName := ⟨RX7, "readWall", "()V"⟩
abbrev cX7_readNumber : ByteArray := prog_9_method_13_code
def yX7_readNumber : MethodName := ⟨RX7, "readNumber", "(I)I"⟩
abbrev cX7_expect : ByteArray := prog_9_method_14_code
def yX7_expect : MethodName := ⟨RX7, "expect", "(I)V"⟩
abbrev cX7_accept : ByteArray := prog_9_method_15_code
def yX7_accept : MethodName := ⟨RX7, "accept", "(I)Z"⟩
abbrev cX7_skipBlanks : ByteArray := prog_9_method_16_code
def yX7_skipBlanks : MethodName := ⟨RX7, "skipBlanks", "()V"⟩
abbrev cX7_letter : ByteArray := prog_9_method_17_code
def yX7_letter : MethodName := ⟨RX7, "letter", "()I"⟩
abbrev cX7_isFigure : ByteArray := prog_9_method_18_code
def yX7_isFigure : MethodName := ⟨RX7, "isFigure", "(I)Z"⟩
abbrev cX7_fail : ByteArray := prog_9_method_19_code
def yX7_fail : MethodName := ⟨RX7, "fail", "(II)V"⟩
def RX8 : String := "MusicWalls$Readings"
def TX8 : u_T := fun k => match k with
  | _ => ("", "", "", false)
def tyX8 : Nat → FieldType := fun k => match k with
  | _ => .int
abbrev wsX80 : List Cond := u_ws RX8 TX8 0
theorem nmX8 : ∀ a, a < 0 → ∀ b, b < 0 → a ≠ b → (TX8 a).2.1 ≠ (TX8 b).2.1 := by decide +kernel
theorem tyX8_ok : ∀ k, k < 0 → parseFieldDescriptor (TX8 k).2.2.1 = some (tyX8 k) := by decide +kernel
abbrev cX8_keyOf : ByteArray := prog_10_method_2_code
def yX8_keyOf : MethodName := ⟨RX8, "keyOf", "(LMusicWalls$Life;I)I"⟩
abbrev cX8_repeatOf : ByteArray := prog_10_method_3_code
def yX8_repeatOf : MethodName := ⟨RX8, "repeatOf", "(LMusicWalls$Life;I)I"⟩
abbrev cX8_repeatsBy : ByteArray := prog_10_method_4_code
def yX8_repeatsBy : MethodName := ⟨RX8, "repeatsBy", "(LMusicWalls$Life;II)Z"⟩
abbrev cX8_openRooms : ByteArray := prog_10_method_5_code
def yX8_openRooms : MethodName := ⟨RX8, "openRooms", "(LMusicWalls$Life;)I"⟩
abbrev cX8_mostRead : ByteArray := prog_10_method_6_code
def yX8_mostRead : MethodName := ⟨RX8, "mostRead", "(LMusicWalls$Life;)I"⟩
abbrev cX8_howManyRead : ByteArray := prog_10_method_7_code
def yX8_howManyRead : MethodName := ⟨RX8, "howManyRead", "(LMusicWalls$Life;I)I"⟩
abbrev cX8_firstThatReads : ByteArray := prog_10_method_8_code
def yX8_firstThatReads : MethodName := ⟨RX8, "firstThatReads", "(LMusicWalls$Life;II)I"⟩
abbrev cX8_sharedEnd : ByteArray := prog_10_method_9_code
def yX8_sharedEnd : MethodName := ⟨RX8, "sharedEnd", "(LMusicWalls$Life;II)I"⟩
abbrev cX8_endsAsBegins : ByteArray := prog_10_method_10_code
def yX8_endsAsBegins : MethodName := ⟨RX8, "endsAsBegins", "(LMusicWalls$Life;III)Z"⟩
abbrev cX8_nearestRoom : ByteArray := prog_10_method_11_code
def yX8_nearestRoom : MethodName := ⟨RX8, "nearestRoom", "(LMusicWalls$Life;I)I"⟩
abbrev cX8_between : ByteArray := prog_10_method_12_code
def yX8_between : MethodName := ⟨RX8, "between", "(II)I"⟩
abbrev cX8_stepsBetween : ByteArray := prog_10_method_13_code
def yX8_stepsBetween : MethodName := ⟨RX8, "stepsBetween", "(LMusicWalls$Life;II)I"⟩
abbrev cX8_oneStepOn : ByteArray := prog_10_method_14_code
def yX8_oneStepOn : MethodName := ⟨RX8, "oneStepOn", "(LMusicWalls$Life;I)I"⟩
def RX9 : String := "MusicWalls$Rows"
def TX9 : u_T := fun k => match k with
  | _ => ("", "", "", false)
def tyX9 : Nat → FieldType := fun k => match k with
  | _ => .int
abbrev wsX90 : List Cond := u_ws RX9 TX9 0
theorem nmX9 : ∀ a, a < 0 → ∀ b, b < 0 → a ≠ b → (TX9 a).2.1 ≠ (TX9 b).2.1 := by decide +kernel
theorem tyX9_ok : ∀ k, k < 0 → parseFieldDescriptor (TX9 k).2.2.1 = some (tyX9 k) := by decide +kernel
abbrev cX9_at : ByteArray := prog_11_method_2_code
def yX9_at : MethodName := ⟨RX9, "at", "([II)I"⟩
abbrev cX9_put : ByteArray := prog_11_method_3_code
def yX9_put : MethodName := ⟨RX9, "put", "([III)V"⟩
abbrev cX9_copy : ByteArray := prog_11_method_4_code
def yX9_copy : MethodName := ⟨RX9, "copy", "([I[I)V"⟩
abbrev cX9_leftOver : ByteArray := prog_11_method_5_code
def yX9_leftOver : MethodName := ⟨RX9, "leftOver", "(II)I"⟩
abbrev cX9_isIn : ByteArray := prog_11_method_6_code
def yX9_isIn : MethodName := ⟨RX9, "isIn", "(II)Z"⟩
def RX10 : String := "MusicWalls$Sight"
def TX10 : u_T := fun k => match k with
  | 0 => ("MusicWalls$Sight", "offs", "[I", true)
  | 1 => ("MusicWalls$Sight", "signs", "[I", true)
  | 2 => ("MusicWalls$Sight", "bookRooms", "[I", true)
  | 3 => ("MusicWalls$Sight", "bookBars", "[I", true)
  | 4 => ("MusicWalls$Sight", "bookSigns", "[I", true)
  | 5 => ("MusicWalls$Sight", "foundAt", "[I", true)
  | 6 => ("MusicWalls$Sight", "parts", "[I", true)
  | 7 => ("MusicWalls$Sight", "seen", "I", false)
  | 8 => ("MusicWalls$Sight", "entries", "I", false)
  | _ => ("MusicWalls$Sight", "found", "I", false)
def tyX10 : Nat → FieldType := fun k => match k with
  | 0 => .array .int
  | 1 => .array .int
  | 2 => .array .int
  | 3 => .array .int
  | 4 => .array .int
  | 5 => .array .int
  | 6 => .array .int
  | 7 => .int
  | 8 => .int
  | _ => .int
abbrev wsX100 : List Cond := u_ws RX10 TX10 10
theorem nmX10 : ∀ a, a < 10 → ∀ b, b < 10 → a ≠ b → (TX10 a).2.1 ≠ (TX10 b).2.1 := by decide +kernel
theorem tyX10_ok : ∀ k, k < 10 → parseFieldDescriptor (TX10 k).2.2.1 = some (tyX10 k) := by decide +kernel
abbrev cX10_init : ByteArray := prog_12_method_1_code
def yX10_init : MethodName := ⟨RX10, "<init>", "()V"⟩
abbrev cX10_seen : ByteArray := prog_12_method_2_code
def yX10_seen : MethodName := ⟨RX10, "seen", "()I"⟩
abbrev cX10_entries : ByteArray := prog_12_method_3_code
def yX10_entries : MethodName := ⟨RX10, "entries", "()I"⟩
abbrev cX10_forget : ByteArray := prog_12_method_4_code
def yX10_forget : MethodName := ⟨RX10, "forget", "()V"⟩
abbrev cX10_addSeen : ByteArray := prog_12_method_5_code
def yX10_addSeen : MethodName := ⟨RX10, "addSeen", "(II)Z"⟩
abbrev cX10_addEntry : ByteArray := prog_12_method_6_code
def yX10_addEntry : MethodName := ⟨RX10, "addEntry", "(III)Z"⟩
abbrev cX10_firstWrong : ByteArray := prog_12_method_7_code
def yX10_firstWrong : MethodName := ⟨RX10, "firstWrong", "(LMusicWalls$Life;)I"⟩
abbrev cX10_findPlaces : ByteArray := prog_12_method_8_code
def yX10_findPlaces : MethodName := ⟨RX10, "findPlaces", "(LMusicWalls$Life;)V"⟩
abbrev cX10_found : ByteArray := prog_12_method_9_code
def yX10_found : MethodName := ⟨RX10, "found", "()I"⟩
abbrev cX10_firstFound : ByteArray := prog_12_method_10_code
def yX10_firstFound : MethodName := ⟨RX10, "firstFound", "()I"⟩
abbrev cX10_roomsFound : ByteArray := prog_12_method_11_code
def yX10_roomsFound : MethodName := ⟨RX10, "roomsFound", "()I"⟩
abbrev cX10_bestLook : ByteArray := prog_12_method_12_code
def yX10_bestLook : MethodName := ⟨RX10, "bestLook", "(LMusicWalls$Life;)I"⟩
abbrev cX10_fits : ByteArray := prog_12_method_13_code
def yX10_fits : MethodName := ⟨RX10, "fits", "(LMusicWalls$Life;II)Z"⟩
abbrev cX10_greatestPart : ByteArray := prog_12_method_14_code
def yX10_greatestPart : MethodName := ⟨RX10, "greatestPart", "(LMusicWalls$Life;I)I"⟩
def RX11 : String := "MusicWalls"
def TX11 : u_T := fun k => match k with
  | 0 => ("MusicWalls", "reader", "LMusicWalls$Reader;", true)
  | 1 => ("MusicWalls", "house", "LMusicWalls$House;", true)
  | 2 => ("MusicWalls", "life", "LMusicWalls$Life;", true)
  | 3 => ("MusicWalls", "trial", "LMusicWalls$Life;", true)
  | 4 => ("MusicWalls", "past", "LMusicWalls$Past;", true)
  | 5 => ("MusicWalls", "images", "LMusicWalls$Images;", true)
  | 6 => ("MusicWalls", "sight", "LMusicWalls$Sight;", true)
  | 7 => ("MusicWalls", "order", "LMusicWalls$Order;", true)
  | _ => ("MusicWalls", "chance", "I", false)
def tyX11 : Nat → FieldType := fun k => match k with
  | 0 => .object "MusicWalls$Reader"
  | 1 => .object "MusicWalls$House"
  | 2 => .object "MusicWalls$Life"
  | 3 => .object "MusicWalls$Life"
  | 4 => .object "MusicWalls$Past"
  | 5 => .object "MusicWalls$Images"
  | 6 => .object "MusicWalls$Sight"
  | 7 => .object "MusicWalls$Order"
  | _ => .int
abbrev wsX110 : List Cond := u_ws RX11 TX11 9
theorem nmX11 : ∀ a, a < 9 → ∀ b, b < 9 → a ≠ b → (TX11 a).2.1 ≠ (TX11 b).2.1 := by decide +kernel
theorem tyX11_ok : ∀ k, k < 9 → parseFieldDescriptor (TX11 k).2.2.1 = some (tyX11 k) := by decide +kernel
abbrev cX11_init : ByteArray := prog_1_method_1_code
def yX11_init : MethodName := ⟨RX11, "<init>", "()V"⟩
abbrev cX11_feed : ByteArray := prog_1_method_2_code
def yX11_feed : MethodName := ⟨RX11, "feed", "(I)I"⟩
abbrev cX11_house : ByteArray := prog_1_method_3_code
def yX11_house : MethodName := ⟨RX11, "house", "()I"⟩
abbrev cX11_fault : ByteArray := prog_1_method_4_code
def yX11_fault : MethodName := ⟨RX11, "fault", "()I"⟩
abbrev cX11_told : ByteArray := prog_1_method_5_code
def yX11_told : MethodName := ⟨RX11, "told", "(I)I"⟩
abbrev cX11_room : ByteArray := prog_1_method_6_code
def yX11_room : MethodName := ⟨RX11, "room", "(II)I"⟩
abbrev cX11_bar : ByteArray := prog_1_method_7_code
def yX11_bar : MethodName := ⟨RX11, "bar", "(III)I"⟩
abbrev cX11_person : ByteArray := prog_1_method_8_code
def yX11_person : MethodName := ⟨RX11, "person", "(II)I"⟩
abbrev cX11_wall : ByteArray := prog_1_method_9_code
def yX11_wall : MethodName := ⟨RX11, "wall", "(II)I"⟩
abbrev cX11_logged : ByteArray := prog_1_method_10_code
def yX11_logged : MethodName := ⟨RX11, "logged", "(II)I"⟩
abbrev cX11_hour : ByteArray := prog_1_method_11_code
def yX11_hour : MethodName := ⟨RX11, "hour", "(I)I"⟩
abbrev cX11_lift : ByteArray := prog_1_method_12_code
def yX11_lift : MethodName := ⟨RX11, "lift", "(II)I"⟩
abbrev cX11_paste : ByteArray := prog_1_method_13_code
def yX11_paste : MethodName := ⟨RX11, "paste", "(II)I"⟩
abbrev cX11_moveTo : ByteArray := prog_1_method_14_code
def yX11_moveTo : MethodName := ⟨RX11, "moveTo", "(II)I"⟩
abbrev cX11_pace : ByteArray := prog_1_method_15_code
def yX11_pace : MethodName := ⟨RX11, "pace", "(II)I"⟩
abbrev cX11_drift : ByteArray := prog_1_method_16_code
def yX11_drift : MethodName := ⟨RX11, "drift", "(I)I"⟩
abbrev cX11_undo : ByteArray := prog_1_method_17_code
def yX11_undo : MethodName := ⟨RX11, "undo", "(I)I"⟩
abbrev cX11_where : ByteArray := prog_1_method_18_code
def yX11_where : MethodName := ⟨RX11, "where", "(II)I"⟩
abbrev cX11_meets : ByteArray := prog_1_method_19_code
def yX11_meets : MethodName := ⟨RX11, "meets", "(I)I"⟩
abbrev cX11_together : ByteArray := prog_1_method_20_code
def yX11_together : MethodName := ⟨RX11, "together", "(II)I"⟩
abbrev cX11_canon : ByteArray := prog_1_method_21_code
def yX11_canon : MethodName := ⟨RX11, "canon", "(III)I"⟩
abbrev cX11_bestCanon : ByteArray := prog_1_method_22_code
def yX11_bestCanon : MethodName := ⟨RX11, "bestCanon", "(III)I"⟩
abbrev cX11_match : ByteArray := prog_1_method_23_code
def yX11_match : MethodName := ⟨RX11, "match", "(IIII)I"⟩
abbrev cX11_join : ByteArray := prog_1_method_24_code
def yX11_join : MethodName := ⟨RX11, "join", "(II)I"⟩
abbrev cX11_shortest : ByteArray := prog_1_method_25_code
def yX11_shortest : MethodName := ⟨RX11, "shortest", "(I)I"⟩
abbrev cX11_nearest : ByteArray := prog_1_method_26_code
def yX11_nearest : MethodName := ⟨RX11, "nearest", "(I)I"⟩
abbrev cX11_modulation : ByteArray := prog_1_method_27_code
def yX11_modulation : MethodName := ⟨RX11, "modulation", "(II)I"⟩
abbrev cX11_sounds : ByteArray := prog_1_method_28_code
def yX11_sounds : MethodName := ⟨RX11, "sounds", "(I)I"⟩
abbrev cX11_dry : ByteArray := prog_1_method_29_code
def yX11_dry : MethodName := ⟨RX11, "dry", "(II)I"⟩
abbrev cX11_see : ByteArray := prog_1_method_30_code
def yX11_see : MethodName := ⟨RX11, "see", "(II)I"⟩
abbrev cX11_places : ByteArray := prog_1_method_31_code
def yX11_places : MethodName := ⟨RX11, "places", "(I)I"⟩
abbrev cX11_lookAt : ByteArray := prog_1_method_32_code
def yX11_lookAt : MethodName := ⟨RX11, "lookAt", "()I"⟩
abbrev cX11_write : ByteArray := prog_1_method_33_code
def yX11_write : MethodName := ⟨RX11, "write", "(III)I"⟩
abbrev cX11_judge : ByteArray := prog_1_method_34_code
def yX11_judge : MethodName := ⟨RX11, "judge", "()I"⟩
abbrev cX11_tear : ByteArray := prog_1_method_35_code
def yX11_tear : MethodName := ⟨RX11, "tear", "()I"⟩
abbrev cX11_seed : ByteArray := prog_1_method_36_code
def yX11_seed : MethodName := ⟨RX11, "seed", "(I)I"⟩
abbrev cX11_keep : ByteArray := prog_1_method_37_code
def yX11_keep : MethodName := ⟨RX11, "keep", "(I)I"⟩
abbrev cX11_goBack : ByteArray := prog_1_method_38_code
def yX11_goBack : MethodName := ⟨RX11, "goBack", "(I)I"⟩
abbrev cX11_beyond : ByteArray := prog_1_method_39_code
def yX11_beyond : MethodName := ⟨RX11, "beyond", "(II)Z"⟩
abbrev cX11_areTwoRooms : ByteArray := prog_1_method_40_code
def yX11_areTwoRooms : MethodName := ⟨RX11, "areTwoRooms", "(II)Z"⟩
abbrev cX11_refusalOfHours : ByteArray := prog_1_method_41_code
def yX11_refusalOfHours : MethodName := ⟨RX11, "refusalOfHours", "(I)I"⟩
abbrev cX11_turnByHand : ByteArray := prog_1_method_42_code
def yX11_turnByHand : MethodName := ⟨RX11, "turnByHand", "(IIZ)I"⟩
abbrev cX11_meetingsTried : ByteArray := prog_1_method_43_code
def yX11_meetingsTried : MethodName := ⟨RX11, "meetingsTried", "(I)I"⟩
abbrev cX11_draw : ByteArray := prog_1_method_44_code
def yX11_draw : MethodName := ⟨RX11, "draw", "(I)I"⟩
abbrev cX11_deedByDraws : ByteArray := prog_1_method_45_code
def yX11_deedByDraws : MethodName := ⟨RX11, "deedByDraws", "()V"⟩
def RX12 : String := "MusicWallsModel"
def TX12 : u_T := fun k => match k with
  | 0 => ("MusicWallsModel", "house", "[I", true)
  | 1 => ("MusicWallsModel", "read", "[I", true)
  | 2 => ("MusicWallsModel", "now", "[I", true)
  | 3 => ("MusicWallsModel", "aside", "[I", true)
  | 4 => ("MusicWallsModel", "past", "[I", true)
  | 5 => ("MusicWallsModel", "undos", "I", false)
  | 6 => ("MusicWallsModel", "images", "[I", true)
  | 7 => ("MusicWallsModel", "kept", "[Z", true)
  | 8 => ("MusicWallsModel", "seed", "J", false)
  | 9 => ("MusicWallsModel", "text", "[I", true)
  | 10 => ("MusicWallsModel", "size", "I", false)
  | 11 => ("MusicWallsModel", "fault", "I", false)
  | 12 => ("MusicWallsModel", "sights", "[I", true)
  | 13 => ("MusicWallsModel", "sightMany", "I", false)
  | 14 => ("MusicWallsModel", "book", "[I", true)
  | 15 => ("MusicWallsModel", "bookMany", "I", false)
  | 16 => ("MusicWallsModel", "at", "I", false)
  | 17 => ("MusicWallsModel", "begin", "I", false)
  | 18 => ("MusicWallsModel", "sign", "I", false)
  | 19 => ("MusicWallsModel", "figures", "I", false)
  | 20 => ("MusicWallsModel", "value", "I", false)
  | 21 => ("MusicWallsModel", "wrong", "I", false)
  | 22 => ("MusicWallsModel", "many", "I", false)
  | 23 => ("MusicWallsModel", "often", "[I", true)
  | 24 => ("MusicWallsModel", "pairMet", "Z", false)
  | 25 => ("MusicWallsModel", "order", "[I", true)
  | _ => ("MusicWallsModel", "joins", "[I", true)
def tyX12 : Nat → FieldType := fun k => match k with
  | 0 => .array .int
  | 1 => .array .int
  | 2 => .array .int
  | 3 => .array .int
  | 4 => .array .int
  | 5 => .int
  | 6 => .array .int
  | 7 => .array .boolean
  | 8 => .long
  | 9 => .array .int
  | 10 => .int
  | 11 => .int
  | 12 => .array .int
  | 13 => .int
  | 14 => .array .int
  | 15 => .int
  | 16 => .int
  | 17 => .int
  | 18 => .int
  | 19 => .int
  | 20 => .int
  | 21 => .int
  | 22 => .int
  | 23 => .array .int
  | 24 => .boolean
  | 25 => .array .int
  | _ => .array .int
abbrev wsX120 : List Cond := u_ws RX12 TX12 27
theorem nmX12 : ∀ a, a < 27 → ∀ b, b < 27 → a ≠ b → (TX12 a).2.1 ≠ (TX12 b).2.1 := by decide +kernel
theorem tyX12_ok : ∀ k, k < 27 → parseFieldDescriptor (TX12 k).2.2.1 = some (tyX12 k) := by decide +kernel
abbrev cX12_init : ByteArray := prog_14_method_1_code
def yX12_init : MethodName := ⟨RX12, "<init>", "()V"⟩
abbrev cX12_in : ByteArray := prog_14_method_3_code
def yX12_in : MethodName := ⟨RX12, "in", "(JJJ)Z"⟩
abbrev cX12_has : ByteArray := prog_14_method_4_code
def yX12_has : MethodName := ⟨RX12, "has", "(II)Z"⟩
abbrev cX12_bits : ByteArray := prog_14_method_5_code
def yX12_bits : MethodName := ⟨RX12, "bits", "(I)I"⟩
abbrev cX12_lesser : ByteArray := prog_14_method_6_code
def yX12_lesser : MethodName := ⟨RX12, "lesser", "(II)I"⟩
abbrev cX12_copies : ByteArray := prog_14_method_7_code
def yX12_copies : MethodName := ⟨RX12, "copies", "([II[III)V"⟩
abbrev cX12_begins : ByteArray := prog_14_method_8_code
def yX12_begins : MethodName := ⟨RX12, "begins", "()V"⟩
abbrev cX12_feed : ByteArray := prog_14_method_9_code
def yX12_feed : MethodName := ⟨RX12, "feed", "(I)I"⟩
abbrev cX12_here : ByteArray := prog_14_method_10_code
def yX12_here : MethodName := ⟨RX12, "here", "()I"⟩
abbrev cX12_step : ByteArray := prog_14_method_11_code
def yX12_step : MethodName := ⟨RX12, "step", "()V"⟩
abbrev cX12_fails : ByteArray := prog_14_method_12_code
def yX12_fails : MethodName := ⟨RX12, "fails", "(I)Z"⟩
abbrev cX12_number : ByteArray := prog_14_method_13_code
def yX12_number : MethodName := ⟨RX12, "number", "(III)Z"⟩
abbrev cX12_ends : ByteArray := prog_14_method_14_code
def yX12_ends : MethodName := ⟨RX12, "ends", "()Z"⟩
abbrev cX12_row : ByteArray := prog_14_method_15_code
def yX12_row : MethodName := ⟨RX12, "row", "(III)Z"⟩
abbrev cX12_readsRoom : ByteArray := prog_14_method_16_code
def yX12_readsRoom : MethodName := ⟨RX12, "readsRoom", "()Z"⟩
abbrev cX12_readsUnder : ByteArray := prog_14_method_17_code
def yX12_readsUnder : MethodName := ⟨RX12, "readsUnder", "()Z"⟩
abbrev cX12_readsPerson : ByteArray := prog_14_method_18_code
def yX12_readsPerson : MethodName := ⟨RX12, "readsPerson", "()Z"⟩
abbrev cX12_readsWall : ByteArray := prog_14_method_19_code
def yX12_readsWall : MethodName := ⟨RX12, "readsWall", "()Z"⟩
abbrev cX12_readsClause : ByteArray := prog_14_method_20_code
def yX12_readsClause : MethodName := ⟨RX12, "readsClause", "(Z)Z"⟩
abbrev cX12_house : ByteArray := prog_14_method_21_code
def yX12_house : MethodName := ⟨RX12, "house", "()I"⟩
abbrev cX12_fault : ByteArray := prog_14_method_22_code
def yX12_fault : MethodName := ⟨RX12, "fault", "()I"⟩
abbrev cX12_isRoom : ByteArray := prog_14_method_23_code
def yX12_isRoom : MethodName := ⟨RX12, "isRoom", "(I)Z"⟩
abbrev cX12_isBar : ByteArray := prog_14_method_24_code
def yX12_isBar : MethodName := ⟨RX12, "isBar", "(II)Z"⟩
abbrev cX12_isPerson : ByteArray := prog_14_method_25_code
def yX12_isPerson : MethodName := ⟨RX12, "isPerson", "(I)Z"⟩
abbrev cX12_areTwo : ByteArray := prog_14_method_26_code
def yX12_areTwo : MethodName := ⟨RX12, "areTwo", "(II)Z"⟩
abbrev cX12_turned : ByteArray := prog_14_method_27_code
def yX12_turned : MethodName := ⟨RX12, "turned", "(IIZ)I"⟩
abbrev cX12_readsOn : ByteArray := prog_14_method_28_code
def yX12_readsOn : MethodName := ⟨RX12, "readsOn", "([III)I"⟩
abbrev cX12_reads : ByteArray := prog_14_method_29_code
def yX12_reads : MethodName := ⟨RX12, "reads", "(II)I"⟩
abbrev cX12_open : ByteArray := prog_14_method_30_code
def yX12_open : MethodName := ⟨RX12, "open", "()I"⟩
abbrev cX12_liftedInAll : ByteArray := prog_14_method_31_code
def yX12_liftedInAll : MethodName := ⟨RX12, "liftedInAll", "()I"⟩
abbrev cX12_mostRead : ByteArray := prog_14_method_32_code
def yX12_mostRead : MethodName := ⟨RX12, "mostRead", "()I"⟩
abbrev cX12_key : ByteArray := prog_14_method_33_code
def yX12_key : MethodName := ⟨RX12, "key", "(I)I"⟩
abbrev cX12_repeat : ByteArray := prog_14_method_34_code
def yX12_repeat : MethodName := ⟨RX12, "repeat", "(I)I"⟩
abbrev cX12_told : ByteArray := prog_14_method_35_code
def yX12_told : MethodName := ⟨RX12, "told", "(I)I"⟩
abbrev cX12_room : ByteArray := prog_14_method_36_code
def yX12_room : MethodName := ⟨RX12, "room", "(II)I"⟩
abbrev cX12_bar : ByteArray := prog_14_method_37_code
def yX12_bar : MethodName := ⟨RX12, "bar", "(III)I"⟩
abbrev cX12_person : ByteArray := prog_14_method_38_code
def yX12_person : MethodName := ⟨RX12, "person", "(II)I"⟩
abbrev cX12_wall : ByteArray := prog_14_method_39_code
def yX12_wall : MethodName := ⟨RX12, "wall", "(II)I"⟩
abbrev cX12_logged : ByteArray := prog_14_method_40_code
def yX12_logged : MethodName := ⟨RX12, "logged", "(II)I"⟩
abbrev cX12_walks : ByteArray := prog_14_method_41_code
def yX12_walks : MethodName := ⟨RX12, "walks", "([II)V"⟩
abbrev cX12_logs : ByteArray := prog_14_method_42_code
def yX12_logs : MethodName := ⟨RX12, "logs", "([II)V"⟩
abbrev cX12_isAt : ByteArray := prog_14_method_43_code
def yX12_isAt : MethodName := ⟨RX12, "isAt", "([IIII)Z"⟩
abbrev cX12_meetings : ByteArray := prog_14_method_44_code
def yX12_meetings : MethodName := ⟨RX12, "meetings", "([II)I"⟩
abbrev cX12_hourGoes : ByteArray := prog_14_method_45_code
def yX12_hourGoes : MethodName := ⟨RX12, "hourGoes", "([II)I"⟩
abbrev cX12_remember : ByteArray := prog_14_method_46_code
def yX12_remember : MethodName := ⟨RX12, "remember", "()V"⟩
abbrev cX12_refuses : ByteArray := prog_14_method_47_code
def yX12_refuses : MethodName := ⟨RX12, "refuses", "(I)I"⟩
abbrev cX12_hour : ByteArray := prog_14_method_48_code
def yX12_hour : MethodName := ⟨RX12, "hour", "(I)I"⟩
abbrev cX12_lift : ByteArray := prog_14_method_49_code
def yX12_lift : MethodName := ⟨RX12, "lift", "(II)I"⟩
abbrev cX12_paste : ByteArray := prog_14_method_50_code
def yX12_paste : MethodName := ⟨RX12, "paste", "(II)I"⟩
abbrev cX12_moveTo : ByteArray := prog_14_method_51_code
def yX12_moveTo : MethodName := ⟨RX12, "moveTo", "(II)I"⟩
abbrev cX12_pace : ByteArray := prog_14_method_52_code
def yX12_pace : MethodName := ⟨RX12, "pace", "(II)I"⟩
abbrev cX12_draw : ByteArray := prog_14_method_53_code
def yX12_draw : MethodName := ⟨RX12, "draw", "(I)I"⟩
abbrev cX12_draws : ByteArray := prog_14_method_54_code
def yX12_draws : MethodName := ⟨RX12, "draws", "()V"⟩
abbrev cX12_drift : ByteArray := prog_14_method_55_code
def yX12_drift : MethodName := ⟨RX12, "drift", "(I)I"⟩
abbrev cX12_undo : ByteArray := prog_14_method_56_code
def yX12_undo : MethodName := ⟨RX12, "undo", "(I)I"⟩
abbrev cX12_layAside : ByteArray := prog_14_method_57_code
def yX12_layAside : MethodName := ⟨RX12, "layAside", "()V"⟩
abbrev cX12_where : ByteArray := prog_14_method_58_code
def yX12_where : MethodName := ⟨RX12, "where", "(II)I"⟩
abbrev cX12_meets : ByteArray := prog_14_method_59_code
def yX12_meets : MethodName := ⟨RX12, "meets", "(I)I"⟩
abbrev cX12_together : ByteArray := prog_14_method_60_code
def yX12_together : MethodName := ⟨RX12, "together", "(II)I"⟩
abbrev cX12_isIn : ByteArray := prog_14_method_61_code
def yX12_isIn : MethodName := ⟨RX12, "isIn", "(IIII)Z"⟩
abbrev cX12_inCanon : ByteArray := prog_14_method_62_code
def yX12_inCanon : MethodName := ⟨RX12, "inCanon", "(III)I"⟩
abbrev cX12_canon : ByteArray := prog_14_method_63_code
def yX12_canon : MethodName := ⟨RX12, "canon", "(III)I"⟩
abbrev cX12_bestCanon : ByteArray := prog_14_method_64_code
def yX12_bestCanon : MethodName := ⟨RX12, "bestCanon", "(III)I"⟩
abbrev cX12_match : ByteArray := prog_14_method_65_code
def yX12_match : MethodName := ⟨RX12, "match", "(IIII)I"⟩
abbrev cX12_joinOf : ByteArray := prog_14_method_66_code
def yX12_joinOf : MethodName := ⟨RX12, "joinOf", "(II)I"⟩
abbrev cX12_join : ByteArray := prog_14_method_67_code
def yX12_join : MethodName := ⟨RX12, "join", "(II)I"⟩
abbrev cX12_nextOrder : ByteArray := prog_14_method_68_code
def yX12_nextOrder : MethodName := ⟨RX12, "nextOrder", "(I)Z"⟩
abbrev cX12_shortest : ByteArray := prog_14_method_69_code
def yX12_shortest : MethodName := ⟨RX12, "shortest", "(I)I"⟩
abbrev cX12_apart : ByteArray := prog_14_method_70_code
def yX12_apart : MethodName := ⟨RX12, "apart", "(II)I"⟩
abbrev cX12_nearest : ByteArray := prog_14_method_71_code
def yX12_nearest : MethodName := ⟨RX12, "nearest", "(I)I"⟩
abbrev cX12_modulation : ByteArray := prog_14_method_72_code
def yX12_modulation : MethodName := ⟨RX12, "modulation", "(II)I"⟩
abbrev cX12_sounds : ByteArray := prog_14_method_73_code
def yX12_sounds : MethodName := ⟨RX12, "sounds", "(I)I"⟩
abbrev cX12_dry : ByteArray := prog_14_method_74_code
def yX12_dry : MethodName := ⟨RX12, "dry", "(II)I"⟩
abbrev cX12_see : ByteArray := prog_14_method_75_code
def yX12_see : MethodName := ⟨RX12, "see", "(II)I"⟩
abbrev cX12_isSo : ByteArray := prog_14_method_76_code
def yX12_isSo : MethodName := ⟨RX12, "isSo", "(II)Z"⟩
abbrev cX12_places : ByteArray := prog_14_method_77_code
def yX12_places : MethodName := ⟨RX12, "places", "(I)I"⟩
abbrev cX12_greatestPart : ByteArray := prog_14_method_78_code
def yX12_greatestPart : MethodName := ⟨RX12, "greatestPart", "(I)I"⟩
abbrev cX12_lookAt : ByteArray := prog_14_method_79_code
def yX12_lookAt : MethodName := ⟨RX12, "lookAt", "()I"⟩
abbrev cX12_write : ByteArray := prog_14_method_80_code
def yX12_write : MethodName := ⟨RX12, "write", "(III)I"⟩
abbrev cX12_judge : ByteArray := prog_14_method_81_code
def yX12_judge : MethodName := ⟨RX12, "judge", "()I"⟩
abbrev cX12_tear : ByteArray := prog_14_method_82_code
def yX12_tear : MethodName := ⟨RX12, "tear", "()I"⟩
abbrev cX12_seed : ByteArray := prog_14_method_83_code
def yX12_seed : MethodName := ⟨RX12, "seed", "(I)I"⟩
abbrev cX12_keep : ByteArray := prog_14_method_84_code
def yX12_keep : MethodName := ⟨RX12, "keep", "(I)I"⟩
abbrev cX12_goBack : ByteArray := prog_14_method_85_code
def yX12_goBack : MethodName := ⟨RX12, "goBack", "(I)I"⟩
def RJ6 : String := "java/lang/Integer"
def TJ6 : u_T := fun k => match k with
  | _ => ("", "", "", false)
def tyJ6 : Nat → FieldType := fun k => match k with
  | _ => .int
abbrev wsJ60 : List Cond := u_ws RJ6 TJ6 0
theorem nmJ6 : ∀ a, a < 0 → ∀ b, b < 0 → a ≠ b → (TJ6 a).2.1 ≠ (TJ6 b).2.1 := by decide +kernel
theorem tyJ6_ok : ∀ k, k < 0 → parseFieldDescriptor (TJ6 k).2.2.1 = some (tyJ6 k) := by decide +kernel
abbrev cJ6_bitCount_0f7a4 : ByteArray := prog_15_method_49_code
def yJ6_bitCount_0f7a4 : MethodName := ⟨RJ6, "bitCount", "(I)I"⟩
def RJ9 : String := "java/lang/Math"
def TJ9 : u_T := fun k => match k with
  | _ => ("", "", "", false)
def tyJ9 : Nat → FieldType := fun k => match k with
  | _ => .int
abbrev wsJ90 : List Cond := u_ws RJ9 TJ9 0
theorem nmJ9 : ∀ a, a < 0 → ∀ b, b < 0 → a ≠ b → (TJ9 a).2.1 ≠ (TJ9 b).2.1 := by decide +kernel
theorem tyJ9_ok : ∀ k, k < 0 → parseFieldDescriptor (TJ9 k).2.2.1 = some (tyJ9 k) := by decide +kernel
abbrev cJ9_abs_0f7a4 : ByteArray := prog_16_method_59_code
def yJ9_abs_0f7a4 : MethodName := ⟨RJ9, "abs", "(I)I"⟩
abbrev cJ9_max_7cf53 : ByteArray := prog_16_method_65_code
def yJ9_max_7cf53 : MethodName := ⟨RJ9, "max", "(II)I"⟩
abbrev cJ9_min_7cf53 : ByteArray := prog_16_method_69_code
def yJ9_min_7cf53 : MethodName := ⟨RJ9, "min", "(II)I"⟩
def RJ10 : String := "java/lang/System"
def TJ10 : u_T := fun k => match k with
  | _ => ("", "", "", false)
def tyJ10 : Nat → FieldType := fun k => match k with
  | _ => .int
abbrev wsJ100 : List Cond := u_ws RJ10 TJ10 0
theorem nmJ10 : ∀ a, a < 0 → ∀ b, b < 0 → a ≠ b → (TJ10 a).2.1 ≠ (TJ10 b).2.1 := by decide +kernel
theorem tyJ10_ok : ∀ k, k < 0 → parseFieldDescriptor (TJ10 k).2.2.1 = some (tyJ10 k) := by decide +kernel
def RJ7 : String := "java/util/Arrays"
def TJ7 : u_T := fun k => match k with
  | _ => ("", "", "", false)
def tyJ7 : Nat → FieldType := fun k => match k with
  | _ => .int
abbrev wsJ70 : List Cond := u_ws RJ7 TJ7 0
theorem nmJ7 : ∀ a, a < 0 → ∀ b, b < 0 → a ≠ b → (TJ7 a).2.1 ≠ (TJ7 b).2.1 := by decide +kernel
theorem tyJ7_ok : ∀ k, k < 0 → parseFieldDescriptor (TJ7 k).2.2.1 = some (tyJ7 k) := by decide +kernel
abbrev cJ7_fill_53178 : ByteArray := prog_18_method_103_code
def yJ7_fill_53178 : MethodName := ⟨RJ7, "fill", "([II)V"⟩
def RL : String := "MusicWallsLaw"
abbrev cL_law : ByteArray := code
def yL_law : MethodName := ⟨RL, "law", "([I)Z"⟩
abbrev vwCl : List vw_C := [(RX1, TX1, 11), (RX2, TX2, 3), (RX3, TX3, 9), (RX4, TX4, 3), (RX6, TX6, 3), (RX7, TX7, 7), (RX10, TX10, 10), (RX11, TX11, 9), (RX12, TX12, 27)]
