section
-- ===== PART A: goes FIRST, ahead of the names: the tables' words, and 'selects' of the private methods out of them =====
/-- a private method of a class that the tables say can be made, by its rows of tables_1 -/
def lw_okq (q : MethodName × Nat) : Prop := (q.1.cls ≠ "java/lang/invoke/MethodHandle" ∧ q.1.cls ≠ "java/lang/invoke/VarHandle") ∧ Cond.instantiable q.1.cls q.2 ∈ tables_1 ∧ Cond.privateMethod q.1 ∈ tables_1 ∧ Cond.instanceMethod q.1 ∈ tables_1
theorem lw_p0 : lw_okq (⟨"MusicWalls$Reader", "skipBlanks", "()V"⟩, 7) := ⟨⟨by decide +kernel, by decide +kernel⟩, List.mem_of_getElem? (i := 27) (by decide +kernel), List.mem_of_getElem? (i := 314) (by decide +kernel), List.mem_of_getElem? (i := 315) (by decide +kernel)⟩
theorem lw_p1 : lw_okq (⟨"MusicWalls$Reader", "letter", "()I"⟩, 7) := ⟨⟨by decide +kernel, by decide +kernel⟩, List.mem_of_getElem? (i := 27) (by decide +kernel), List.mem_of_getElem? (i := 318) (by decide +kernel), List.mem_of_getElem? (i := 319) (by decide +kernel)⟩
theorem lw_p2 : lw_okq (⟨"MusicWalls$Reader", "readClause", "()V"⟩, 7) := ⟨⟨by decide +kernel, by decide +kernel⟩, List.mem_of_getElem? (i := 27) (by decide +kernel), List.mem_of_getElem? (i := 322) (by decide +kernel), List.mem_of_getElem? (i := 323) (by decide +kernel)⟩
theorem lw_p3 : lw_okq (⟨"MusicWalls$Reader", "fail", "(II)V"⟩, 7) := ⟨⟨by decide +kernel, by decide +kernel⟩, List.mem_of_getElem? (i := 27) (by decide +kernel), List.mem_of_getElem? (i := 326) (by decide +kernel), List.mem_of_getElem? (i := 327) (by decide +kernel)⟩
theorem lw_p4 : lw_okq (⟨"MusicWalls$Reader", "readDamp", "()V"⟩, 7) := ⟨⟨by decide +kernel, by decide +kernel⟩, List.mem_of_getElem? (i := 27) (by decide +kernel), List.mem_of_getElem? (i := 330) (by decide +kernel), List.mem_of_getElem? (i := 331) (by decide +kernel)⟩
theorem lw_p5 : lw_okq (⟨"MusicWalls$Reader", "readNumber", "(I)I"⟩, 7) := ⟨⟨by decide +kernel, by decide +kernel⟩, List.mem_of_getElem? (i := 27) (by decide +kernel), List.mem_of_getElem? (i := 334) (by decide +kernel), List.mem_of_getElem? (i := 335) (by decide +kernel)⟩
theorem lw_p6 : lw_okq (⟨"MusicWalls$Reader", "expect", "(I)V"⟩, 7) := ⟨⟨by decide +kernel, by decide +kernel⟩, List.mem_of_getElem? (i := 27) (by decide +kernel), List.mem_of_getElem? (i := 344) (by decide +kernel), List.mem_of_getElem? (i := 345) (by decide +kernel)⟩
theorem lw_p7 : lw_okq (⟨"MusicWalls$Reader", "readRoom", "()V"⟩, 7) := ⟨⟨by decide +kernel, by decide +kernel⟩, List.mem_of_getElem? (i := 27) (by decide +kernel), List.mem_of_getElem? (i := 348) (by decide +kernel), List.mem_of_getElem? (i := 349) (by decide +kernel)⟩
theorem lw_p8 : lw_okq (⟨"MusicWalls$Reader", "accept", "(I)Z"⟩, 7) := ⟨⟨by decide +kernel, by decide +kernel⟩, List.mem_of_getElem? (i := 27) (by decide +kernel), List.mem_of_getElem? (i := 357) (by decide +kernel), List.mem_of_getElem? (i := 358) (by decide +kernel)⟩
theorem lw_p9 : lw_okq (⟨"MusicWalls$Reader", "readUnder", "()V"⟩, 7) := ⟨⟨by decide +kernel, by decide +kernel⟩, List.mem_of_getElem? (i := 27) (by decide +kernel), List.mem_of_getElem? (i := 365) (by decide +kernel), List.mem_of_getElem? (i := 366) (by decide +kernel)⟩
theorem lw_p10 : lw_okq (⟨"MusicWalls$Reader", "readPerson", "()V"⟩, 7) := ⟨⟨by decide +kernel, by decide +kernel⟩, List.mem_of_getElem? (i := 27) (by decide +kernel), List.mem_of_getElem? (i := 387) (by decide +kernel), List.mem_of_getElem? (i := 388) (by decide +kernel)⟩
theorem lw_p11 : lw_okq (⟨"MusicWalls$Reader", "readWall", "()V"⟩, 7) := ⟨⟨by decide +kernel, by decide +kernel⟩, List.mem_of_getElem? (i := 27) (by decide +kernel), List.mem_of_getElem? (i := 395) (by decide +kernel), List.mem_of_getElem? (i := 396) (by decide +kernel)⟩
theorem lw_p12 : lw_okq (⟨"MusicWalls", "refusalOfHours", "(I)I"⟩, 9) := ⟨⟨by decide +kernel, by decide +kernel⟩, List.mem_of_getElem? (i := 19) (by decide +kernel), List.mem_of_getElem? (i := 612) (by decide +kernel), List.mem_of_getElem? (i := 613) (by decide +kernel)⟩
theorem lw_p13 : lw_okq (⟨"MusicWalls$Past", "kept", "(I)LMusicWalls$Life;"⟩, 3) := ⟨⟨by decide +kernel, by decide +kernel⟩, List.mem_of_getElem? (i := 161) (by decide +kernel), List.mem_of_getElem? (i := 622) (by decide +kernel), List.mem_of_getElem? (i := 623) (by decide +kernel)⟩
theorem lw_p14 : lw_okq (⟨"MusicWalls", "turnByHand", "(IIZ)I"⟩, 9) := ⟨⟨by decide +kernel, by decide +kernel⟩, List.mem_of_getElem? (i := 19) (by decide +kernel), List.mem_of_getElem? (i := 676) (by decide +kernel), List.mem_of_getElem? (i := 677) (by decide +kernel)⟩
theorem lw_p15 : lw_okq (⟨"MusicWalls", "deedByDraws", "()V"⟩, 9) := ⟨⟨by decide +kernel, by decide +kernel⟩, List.mem_of_getElem? (i := 19) (by decide +kernel), List.mem_of_getElem? (i := 703) (by decide +kernel), List.mem_of_getElem? (i := 704) (by decide +kernel)⟩
def lw_privs_1 : List (MethodName × Nat) := [(⟨"MusicWalls$Reader", "skipBlanks", "()V"⟩, 7), (⟨"MusicWalls$Reader", "letter", "()I"⟩, 7), (⟨"MusicWalls$Reader", "readClause", "()V"⟩, 7), (⟨"MusicWalls$Reader", "fail", "(II)V"⟩, 7), (⟨"MusicWalls$Reader", "readDamp", "()V"⟩, 7), (⟨"MusicWalls$Reader", "readNumber", "(I)I"⟩, 7), (⟨"MusicWalls$Reader", "expect", "(I)V"⟩, 7), (⟨"MusicWalls$Reader", "readRoom", "()V"⟩, 7), (⟨"MusicWalls$Reader", "accept", "(I)Z"⟩, 7), (⟨"MusicWalls$Reader", "readUnder", "()V"⟩, 7), (⟨"MusicWalls$Reader", "readPerson", "()V"⟩, 7), (⟨"MusicWalls$Reader", "readWall", "()V"⟩, 7), (⟨"MusicWalls", "refusalOfHours", "(I)I"⟩, 9), (⟨"MusicWalls$Past", "kept", "(I)LMusicWalls$Life;"⟩, 3), (⟨"MusicWalls", "turnByHand", "(IIZ)I"⟩, 9), (⟨"MusicWalls", "deedByDraws", "()V"⟩, 9)]
theorem lw_r1 : ∀ q ∈ lw_privs_1, lw_okq q := List.forall_mem_cons.mpr ⟨lw_p0, List.forall_mem_cons.mpr ⟨lw_p1, List.forall_mem_cons.mpr ⟨lw_p2, List.forall_mem_cons.mpr ⟨lw_p3, List.forall_mem_cons.mpr ⟨lw_p4, List.forall_mem_cons.mpr ⟨lw_p5, List.forall_mem_cons.mpr ⟨lw_p6, List.forall_mem_cons.mpr ⟨lw_p7, List.forall_mem_cons.mpr ⟨lw_p8, List.forall_mem_cons.mpr ⟨lw_p9, List.forall_mem_cons.mpr ⟨lw_p10, List.forall_mem_cons.mpr ⟨lw_p11, List.forall_mem_cons.mpr ⟨lw_p12, List.forall_mem_cons.mpr ⟨lw_p13, List.forall_mem_cons.mpr ⟨lw_p14, List.forall_mem_cons.mpr ⟨lw_p15, fun _ h => absurd h List.not_mem_nil⟩⟩⟩⟩⟩⟩⟩⟩⟩⟩⟩⟩⟩⟩⟩⟩
theorem lw_p16 : lw_okq (⟨"MusicWalls", "draw", "(I)I"⟩, 9) := ⟨⟨by decide +kernel, by decide +kernel⟩, List.mem_of_getElem? (i := 19) (by decide +kernel), List.mem_of_getElem? (i := 707) (by decide +kernel), List.mem_of_getElem? (i := 708) (by decide +kernel)⟩
theorem lw_p17 : lw_okq (⟨"MusicWalls", "meetingsTried", "(I)I"⟩, 9) := ⟨⟨by decide +kernel, by decide +kernel⟩, List.mem_of_getElem? (i := 19) (by decide +kernel), List.mem_of_getElem? (i := 728) (by decide +kernel), List.mem_of_getElem? (i := 729) (by decide +kernel)⟩
theorem lw_p18 : lw_okq (⟨"MusicWalls", "areTwoRooms", "(II)Z"⟩, 9) := ⟨⟨by decide +kernel, by decide +kernel⟩, List.mem_of_getElem? (i := 19) (by decide +kernel), List.mem_of_getElem? (i := 748) (by decide +kernel), List.mem_of_getElem? (i := 749) (by decide +kernel)⟩
theorem lw_p19 : lw_okq (⟨"MusicWalls$Order", "barsBehind", "(II)I"⟩, 3) := ⟨⟨by decide +kernel, by decide +kernel⟩, List.mem_of_getElem? (i := 235) (by decide +kernel), List.mem_of_getElem? (i := 799) (by decide +kernel), List.mem_of_getElem? (i := 800) (by decide +kernel)⟩
theorem lw_p20 : lw_okq (⟨"MusicWalls$Order", "firstBest", "(II)I"⟩, 3) := ⟨⟨by decide +kernel, by decide +kernel⟩, List.mem_of_getElem? (i := 235) (by decide +kernel), List.mem_of_getElem? (i := 803) (by decide +kernel), List.mem_of_getElem? (i := 804) (by decide +kernel)⟩
theorem lw_p21 : lw_okq (⟨"MusicWalls$Order", "barsWith", "(III)I"⟩, 3) := ⟨⟨by decide +kernel, by decide +kernel⟩, List.mem_of_getElem? (i := 235) (by decide +kernel), List.mem_of_getElem? (i := 808) (by decide +kernel), List.mem_of_getElem? (i := 809) (by decide +kernel)⟩
theorem lw_p22 : lw_okq (⟨"MusicWalls$Sight", "fits", "(LMusicWalls$Life;II)Z"⟩, 10) := ⟨⟨by decide +kernel, by decide +kernel⟩, List.mem_of_getElem? (i := 198) (by decide +kernel), List.mem_of_getElem? (i := 874) (by decide +kernel), List.mem_of_getElem? (i := 875) (by decide +kernel)⟩
theorem lw_p23 : lw_okq (⟨"MusicWalls$Sight", "greatestPart", "(LMusicWalls$Life;I)I"⟩, 10) := ⟨⟨by decide +kernel, by decide +kernel⟩, List.mem_of_getElem? (i := 198) (by decide +kernel), List.mem_of_getElem? (i := 900) (by decide +kernel), List.mem_of_getElem? (i := 901) (by decide +kernel)⟩
theorem lw_p24 : lw_okq (⟨"MusicWallsModel", "step", "()V"⟩, 27) := ⟨⟨by decide +kernel, by decide +kernel⟩, List.mem_of_getElem? (i := 961) (by decide +kernel), List.mem_of_getElem? (i := 1064) (by decide +kernel), List.mem_of_getElem? (i := 1065) (by decide +kernel)⟩
theorem lw_p25 : lw_okq (⟨"MusicWallsModel", "here", "()I"⟩, 27) := ⟨⟨by decide +kernel, by decide +kernel⟩, List.mem_of_getElem? (i := 961) (by decide +kernel), List.mem_of_getElem? (i := 1068) (by decide +kernel), List.mem_of_getElem? (i := 1069) (by decide +kernel)⟩
theorem lw_p26 : lw_okq (⟨"MusicWallsModel", "readsClause", "(Z)Z"⟩, 27) := ⟨⟨by decide +kernel, by decide +kernel⟩, List.mem_of_getElem? (i := 961) (by decide +kernel), List.mem_of_getElem? (i := 1074) (by decide +kernel), List.mem_of_getElem? (i := 1075) (by decide +kernel)⟩
theorem lw_p27 : lw_okq (⟨"MusicWallsModel", "number", "(III)Z"⟩, 27) := ⟨⟨by decide +kernel, by decide +kernel⟩, List.mem_of_getElem? (i := 961) (by decide +kernel), List.mem_of_getElem? (i := 1078) (by decide +kernel), List.mem_of_getElem? (i := 1079) (by decide +kernel)⟩
theorem lw_p28 : lw_okq (⟨"MusicWallsModel", "fails", "(I)Z"⟩, 27) := ⟨⟨by decide +kernel, by decide +kernel⟩, List.mem_of_getElem? (i := 961) (by decide +kernel), List.mem_of_getElem? (i := 1082) (by decide +kernel), List.mem_of_getElem? (i := 1083) (by decide +kernel)⟩
theorem lw_p29 : lw_okq (⟨"MusicWallsModel", "ends", "()Z"⟩, 27) := ⟨⟨by decide +kernel, by decide +kernel⟩, List.mem_of_getElem? (i := 961) (by decide +kernel), List.mem_of_getElem? (i := 1086) (by decide +kernel), List.mem_of_getElem? (i := 1087) (by decide +kernel)⟩
theorem lw_p30 : lw_okq (⟨"MusicWallsModel", "readsRoom", "()Z"⟩, 27) := ⟨⟨by decide +kernel, by decide +kernel⟩, List.mem_of_getElem? (i := 961) (by decide +kernel), List.mem_of_getElem? (i := 1090) (by decide +kernel), List.mem_of_getElem? (i := 1091) (by decide +kernel)⟩
theorem lw_p31 : lw_okq (⟨"MusicWallsModel", "row", "(III)Z"⟩, 27) := ⟨⟨by decide +kernel, by decide +kernel⟩, List.mem_of_getElem? (i := 961) (by decide +kernel), List.mem_of_getElem? (i := 1094) (by decide +kernel), List.mem_of_getElem? (i := 1095) (by decide +kernel)⟩
def lw_privs_2 : List (MethodName × Nat) := [(⟨"MusicWalls", "draw", "(I)I"⟩, 9), (⟨"MusicWalls", "meetingsTried", "(I)I"⟩, 9), (⟨"MusicWalls", "areTwoRooms", "(II)Z"⟩, 9), (⟨"MusicWalls$Order", "barsBehind", "(II)I"⟩, 3), (⟨"MusicWalls$Order", "firstBest", "(II)I"⟩, 3), (⟨"MusicWalls$Order", "barsWith", "(III)I"⟩, 3), (⟨"MusicWalls$Sight", "fits", "(LMusicWalls$Life;II)Z"⟩, 10), (⟨"MusicWalls$Sight", "greatestPart", "(LMusicWalls$Life;I)I"⟩, 10), (⟨"MusicWallsModel", "step", "()V"⟩, 27), (⟨"MusicWallsModel", "here", "()I"⟩, 27), (⟨"MusicWallsModel", "readsClause", "(Z)Z"⟩, 27), (⟨"MusicWallsModel", "number", "(III)Z"⟩, 27), (⟨"MusicWallsModel", "fails", "(I)Z"⟩, 27), (⟨"MusicWallsModel", "ends", "()Z"⟩, 27), (⟨"MusicWallsModel", "readsRoom", "()Z"⟩, 27), (⟨"MusicWallsModel", "row", "(III)Z"⟩, 27)]
theorem lw_r2 : ∀ q ∈ lw_privs_2, lw_okq q := List.forall_mem_cons.mpr ⟨lw_p16, List.forall_mem_cons.mpr ⟨lw_p17, List.forall_mem_cons.mpr ⟨lw_p18, List.forall_mem_cons.mpr ⟨lw_p19, List.forall_mem_cons.mpr ⟨lw_p20, List.forall_mem_cons.mpr ⟨lw_p21, List.forall_mem_cons.mpr ⟨lw_p22, List.forall_mem_cons.mpr ⟨lw_p23, List.forall_mem_cons.mpr ⟨lw_p24, List.forall_mem_cons.mpr ⟨lw_p25, List.forall_mem_cons.mpr ⟨lw_p26, List.forall_mem_cons.mpr ⟨lw_p27, List.forall_mem_cons.mpr ⟨lw_p28, List.forall_mem_cons.mpr ⟨lw_p29, List.forall_mem_cons.mpr ⟨lw_p30, List.forall_mem_cons.mpr ⟨lw_p31, fun _ h => absurd h List.not_mem_nil⟩⟩⟩⟩⟩⟩⟩⟩⟩⟩⟩⟩⟩⟩⟩⟩
theorem lw_p32 : lw_okq (⟨"MusicWallsModel", "readsUnder", "()Z"⟩, 27) := ⟨⟨by decide +kernel, by decide +kernel⟩, List.mem_of_getElem? (i := 961) (by decide +kernel), List.mem_of_getElem? (i := 1098) (by decide +kernel), List.mem_of_getElem? (i := 1099) (by decide +kernel)⟩
theorem lw_p33 : lw_okq (⟨"MusicWallsModel", "readsPerson", "()Z"⟩, 27) := ⟨⟨by decide +kernel, by decide +kernel⟩, List.mem_of_getElem? (i := 961) (by decide +kernel), List.mem_of_getElem? (i := 1102) (by decide +kernel), List.mem_of_getElem? (i := 1103) (by decide +kernel)⟩
theorem lw_p34 : lw_okq (⟨"MusicWallsModel", "readsWall", "()Z"⟩, 27) := ⟨⟨by decide +kernel, by decide +kernel⟩, List.mem_of_getElem? (i := 961) (by decide +kernel), List.mem_of_getElem? (i := 1106) (by decide +kernel), List.mem_of_getElem? (i := 1107) (by decide +kernel)⟩
theorem lw_p35 : lw_okq (⟨"MusicWallsModel", "begins", "()V"⟩, 27) := ⟨⟨by decide +kernel, by decide +kernel⟩, List.mem_of_getElem? (i := 961) (by decide +kernel), List.mem_of_getElem? (i := 1113) (by decide +kernel), List.mem_of_getElem? (i := 1114) (by decide +kernel)⟩
theorem lw_p36 : lw_okq (⟨"MusicWallsModel", "open", "()I"⟩, 27) := ⟨⟨by decide +kernel, by decide +kernel⟩, List.mem_of_getElem? (i := 961) (by decide +kernel), List.mem_of_getElem? (i := 1125) (by decide +kernel), List.mem_of_getElem? (i := 1126) (by decide +kernel)⟩
theorem lw_p37 : lw_okq (⟨"MusicWallsModel", "reads", "(II)I"⟩, 27) := ⟨⟨by decide +kernel, by decide +kernel⟩, List.mem_of_getElem? (i := 961) (by decide +kernel), List.mem_of_getElem? (i := 1129) (by decide +kernel), List.mem_of_getElem? (i := 1130) (by decide +kernel)⟩
theorem lw_p38 : lw_okq (⟨"MusicWallsModel", "readsOn", "([III)I"⟩, 27) := ⟨⟨by decide +kernel, by decide +kernel⟩, List.mem_of_getElem? (i := 961) (by decide +kernel), List.mem_of_getElem? (i := 1133) (by decide +kernel), List.mem_of_getElem? (i := 1134) (by decide +kernel)⟩
theorem lw_p39 : lw_okq (⟨"MusicWallsModel", "turned", "(IIZ)I"⟩, 27) := ⟨⟨by decide +kernel, by decide +kernel⟩, List.mem_of_getElem? (i := 961) (by decide +kernel), List.mem_of_getElem? (i := 1140) (by decide +kernel), List.mem_of_getElem? (i := 1141) (by decide +kernel)⟩
theorem lw_p40 : lw_okq (⟨"MusicWallsModel", "liftedInAll", "()I"⟩, 27) := ⟨⟨by decide +kernel, by decide +kernel⟩, List.mem_of_getElem? (i := 961) (by decide +kernel), List.mem_of_getElem? (i := 1144) (by decide +kernel), List.mem_of_getElem? (i := 1145) (by decide +kernel)⟩
theorem lw_p41 : lw_okq (⟨"MusicWallsModel", "mostRead", "()I"⟩, 27) := ⟨⟨by decide +kernel, by decide +kernel⟩, List.mem_of_getElem? (i := 961) (by decide +kernel), List.mem_of_getElem? (i := 1151) (by decide +kernel), List.mem_of_getElem? (i := 1152) (by decide +kernel)⟩
theorem lw_p42 : lw_okq (⟨"MusicWallsModel", "isRoom", "(I)Z"⟩, 27) := ⟨⟨by decide +kernel, by decide +kernel⟩, List.mem_of_getElem? (i := 961) (by decide +kernel), List.mem_of_getElem? (i := 1159) (by decide +kernel), List.mem_of_getElem? (i := 1160) (by decide +kernel)⟩
theorem lw_p43 : lw_okq (⟨"MusicWallsModel", "key", "(I)I"⟩, 27) := ⟨⟨by decide +kernel, by decide +kernel⟩, List.mem_of_getElem? (i := 961) (by decide +kernel), List.mem_of_getElem? (i := 1164) (by decide +kernel), List.mem_of_getElem? (i := 1165) (by decide +kernel)⟩
theorem lw_p44 : lw_okq (⟨"MusicWallsModel", "repeat", "(I)I"⟩, 27) := ⟨⟨by decide +kernel, by decide +kernel⟩, List.mem_of_getElem? (i := 961) (by decide +kernel), List.mem_of_getElem? (i := 1168) (by decide +kernel), List.mem_of_getElem? (i := 1169) (by decide +kernel)⟩
theorem lw_p45 : lw_okq (⟨"MusicWallsModel", "isBar", "(II)Z"⟩, 27) := ⟨⟨by decide +kernel, by decide +kernel⟩, List.mem_of_getElem? (i := 961) (by decide +kernel), List.mem_of_getElem? (i := 1176) (by decide +kernel), List.mem_of_getElem? (i := 1177) (by decide +kernel)⟩
theorem lw_p46 : lw_okq (⟨"MusicWallsModel", "isPerson", "(I)Z"⟩, 27) := ⟨⟨by decide +kernel, by decide +kernel⟩, List.mem_of_getElem? (i := 961) (by decide +kernel), List.mem_of_getElem? (i := 1185) (by decide +kernel), List.mem_of_getElem? (i := 1186) (by decide +kernel)⟩
theorem lw_p47 : lw_okq (⟨"MusicWallsModel", "refuses", "(I)I"⟩, 27) := ⟨⟨by decide +kernel, by decide +kernel⟩, List.mem_of_getElem? (i := 961) (by decide +kernel), List.mem_of_getElem? (i := 1202) (by decide +kernel), List.mem_of_getElem? (i := 1203) (by decide +kernel)⟩
def lw_privs_3 : List (MethodName × Nat) := [(⟨"MusicWallsModel", "readsUnder", "()Z"⟩, 27), (⟨"MusicWallsModel", "readsPerson", "()Z"⟩, 27), (⟨"MusicWallsModel", "readsWall", "()Z"⟩, 27), (⟨"MusicWallsModel", "begins", "()V"⟩, 27), (⟨"MusicWallsModel", "open", "()I"⟩, 27), (⟨"MusicWallsModel", "reads", "(II)I"⟩, 27), (⟨"MusicWallsModel", "readsOn", "([III)I"⟩, 27), (⟨"MusicWallsModel", "turned", "(IIZ)I"⟩, 27), (⟨"MusicWallsModel", "liftedInAll", "()I"⟩, 27), (⟨"MusicWallsModel", "mostRead", "()I"⟩, 27), (⟨"MusicWallsModel", "isRoom", "(I)Z"⟩, 27), (⟨"MusicWallsModel", "key", "(I)I"⟩, 27), (⟨"MusicWallsModel", "repeat", "(I)I"⟩, 27), (⟨"MusicWallsModel", "isBar", "(II)Z"⟩, 27), (⟨"MusicWallsModel", "isPerson", "(I)Z"⟩, 27), (⟨"MusicWallsModel", "refuses", "(I)I"⟩, 27)]
theorem lw_r3 : ∀ q ∈ lw_privs_3, lw_okq q := List.forall_mem_cons.mpr ⟨lw_p32, List.forall_mem_cons.mpr ⟨lw_p33, List.forall_mem_cons.mpr ⟨lw_p34, List.forall_mem_cons.mpr ⟨lw_p35, List.forall_mem_cons.mpr ⟨lw_p36, List.forall_mem_cons.mpr ⟨lw_p37, List.forall_mem_cons.mpr ⟨lw_p38, List.forall_mem_cons.mpr ⟨lw_p39, List.forall_mem_cons.mpr ⟨lw_p40, List.forall_mem_cons.mpr ⟨lw_p41, List.forall_mem_cons.mpr ⟨lw_p42, List.forall_mem_cons.mpr ⟨lw_p43, List.forall_mem_cons.mpr ⟨lw_p44, List.forall_mem_cons.mpr ⟨lw_p45, List.forall_mem_cons.mpr ⟨lw_p46, List.forall_mem_cons.mpr ⟨lw_p47, fun _ h => absurd h List.not_mem_nil⟩⟩⟩⟩⟩⟩⟩⟩⟩⟩⟩⟩⟩⟩⟩⟩
theorem lw_p48 : lw_okq (⟨"MusicWallsModel", "remember", "()V"⟩, 27) := ⟨⟨by decide +kernel, by decide +kernel⟩, List.mem_of_getElem? (i := 961) (by decide +kernel), List.mem_of_getElem? (i := 1209) (by decide +kernel), List.mem_of_getElem? (i := 1210) (by decide +kernel)⟩
theorem lw_p49 : lw_okq (⟨"MusicWallsModel", "hourGoes", "([II)I"⟩, 27) := ⟨⟨by decide +kernel, by decide +kernel⟩, List.mem_of_getElem? (i := 961) (by decide +kernel), List.mem_of_getElem? (i := 1213) (by decide +kernel), List.mem_of_getElem? (i := 1214) (by decide +kernel)⟩
theorem lw_p50 : lw_okq (⟨"MusicWallsModel", "walks", "([II)V"⟩, 27) := ⟨⟨by decide +kernel, by decide +kernel⟩, List.mem_of_getElem? (i := 961) (by decide +kernel), List.mem_of_getElem? (i := 1217) (by decide +kernel), List.mem_of_getElem? (i := 1218) (by decide +kernel)⟩
theorem lw_p51 : lw_okq (⟨"MusicWallsModel", "meetings", "([II)I"⟩, 27) := ⟨⟨by decide +kernel, by decide +kernel⟩, List.mem_of_getElem? (i := 961) (by decide +kernel), List.mem_of_getElem? (i := 1221) (by decide +kernel), List.mem_of_getElem? (i := 1222) (by decide +kernel)⟩
theorem lw_p52 : lw_okq (⟨"MusicWallsModel", "isAt", "([IIII)Z"⟩, 27) := ⟨⟨by decide +kernel, by decide +kernel⟩, List.mem_of_getElem? (i := 961) (by decide +kernel), List.mem_of_getElem? (i := 1225) (by decide +kernel), List.mem_of_getElem? (i := 1226) (by decide +kernel)⟩
theorem lw_p53 : lw_okq (⟨"MusicWallsModel", "draws", "()V"⟩, 27) := ⟨⟨by decide +kernel, by decide +kernel⟩, List.mem_of_getElem? (i := 961) (by decide +kernel), List.mem_of_getElem? (i := 1257) (by decide +kernel), List.mem_of_getElem? (i := 1258) (by decide +kernel)⟩
theorem lw_p54 : lw_okq (⟨"MusicWallsModel", "draw", "(I)I"⟩, 27) := ⟨⟨by decide +kernel, by decide +kernel⟩, List.mem_of_getElem? (i := 961) (by decide +kernel), List.mem_of_getElem? (i := 1261) (by decide +kernel), List.mem_of_getElem? (i := 1262) (by decide +kernel)⟩
theorem lw_p55 : lw_okq (⟨"MusicWallsModel", "layAside", "()V"⟩, 27) := ⟨⟨by decide +kernel, by decide +kernel⟩, List.mem_of_getElem? (i := 961) (by decide +kernel), List.mem_of_getElem? (i := 1278) (by decide +kernel), List.mem_of_getElem? (i := 1279) (by decide +kernel)⟩
theorem lw_p56 : lw_okq (⟨"MusicWallsModel", "areTwo", "(II)Z"⟩, 27) := ⟨⟨by decide +kernel, by decide +kernel⟩, List.mem_of_getElem? (i := 961) (by decide +kernel), List.mem_of_getElem? (i := 1294) (by decide +kernel), List.mem_of_getElem? (i := 1295) (by decide +kernel)⟩
theorem lw_p57 : lw_okq (⟨"MusicWallsModel", "inCanon", "(III)I"⟩, 27) := ⟨⟨by decide +kernel, by decide +kernel⟩, List.mem_of_getElem? (i := 961) (by decide +kernel), List.mem_of_getElem? (i := 1299) (by decide +kernel), List.mem_of_getElem? (i := 1300) (by decide +kernel)⟩
theorem lw_p58 : lw_okq (⟨"MusicWallsModel", "isIn", "(IIII)Z"⟩, 27) := ⟨⟨by decide +kernel, by decide +kernel⟩, List.mem_of_getElem? (i := 961) (by decide +kernel), List.mem_of_getElem? (i := 1303) (by decide +kernel), List.mem_of_getElem? (i := 1304) (by decide +kernel)⟩
theorem lw_p59 : lw_okq (⟨"MusicWallsModel", "joinOf", "(II)I"⟩, 27) := ⟨⟨by decide +kernel, by decide +kernel⟩, List.mem_of_getElem? (i := 961) (by decide +kernel), List.mem_of_getElem? (i := 1319) (by decide +kernel), List.mem_of_getElem? (i := 1320) (by decide +kernel)⟩
theorem lw_p60 : lw_okq (⟨"MusicWallsModel", "nextOrder", "(I)Z"⟩, 27) := ⟨⟨by decide +kernel, by decide +kernel⟩, List.mem_of_getElem? (i := 961) (by decide +kernel), List.mem_of_getElem? (i := 1328) (by decide +kernel), List.mem_of_getElem? (i := 1329) (by decide +kernel)⟩
theorem lw_p61 : lw_okq (⟨"MusicWallsModel", "apart", "(II)I"⟩, 27) := ⟨⟨by decide +kernel, by decide +kernel⟩, List.mem_of_getElem? (i := 961) (by decide +kernel), List.mem_of_getElem? (i := 1336) (by decide +kernel), List.mem_of_getElem? (i := 1337) (by decide +kernel)⟩
theorem lw_p62 : lw_okq (⟨"MusicWallsModel", "isSo", "(II)Z"⟩, 27) := ⟨⟨by decide +kernel, by decide +kernel⟩, List.mem_of_getElem? (i := 961) (by decide +kernel), List.mem_of_getElem? (i := 1363) (by decide +kernel), List.mem_of_getElem? (i := 1364) (by decide +kernel)⟩
theorem lw_p63 : lw_okq (⟨"MusicWallsModel", "greatestPart", "(I)I"⟩, 27) := ⟨⟨by decide +kernel, by decide +kernel⟩, List.mem_of_getElem? (i := 961) (by decide +kernel), List.mem_of_getElem? (i := 1372) (by decide +kernel), List.mem_of_getElem? (i := 1373) (by decide +kernel)⟩
def lw_privs_4 : List (MethodName × Nat) := [(⟨"MusicWallsModel", "remember", "()V"⟩, 27), (⟨"MusicWallsModel", "hourGoes", "([II)I"⟩, 27), (⟨"MusicWallsModel", "walks", "([II)V"⟩, 27), (⟨"MusicWallsModel", "meetings", "([II)I"⟩, 27), (⟨"MusicWallsModel", "isAt", "([IIII)Z"⟩, 27), (⟨"MusicWallsModel", "draws", "()V"⟩, 27), (⟨"MusicWallsModel", "draw", "(I)I"⟩, 27), (⟨"MusicWallsModel", "layAside", "()V"⟩, 27), (⟨"MusicWallsModel", "areTwo", "(II)Z"⟩, 27), (⟨"MusicWallsModel", "inCanon", "(III)I"⟩, 27), (⟨"MusicWallsModel", "isIn", "(IIII)Z"⟩, 27), (⟨"MusicWallsModel", "joinOf", "(II)I"⟩, 27), (⟨"MusicWallsModel", "nextOrder", "(I)Z"⟩, 27), (⟨"MusicWallsModel", "apart", "(II)I"⟩, 27), (⟨"MusicWallsModel", "isSo", "(II)Z"⟩, 27), (⟨"MusicWallsModel", "greatestPart", "(I)I"⟩, 27)]
theorem lw_r4 : ∀ q ∈ lw_privs_4, lw_okq q := List.forall_mem_cons.mpr ⟨lw_p48, List.forall_mem_cons.mpr ⟨lw_p49, List.forall_mem_cons.mpr ⟨lw_p50, List.forall_mem_cons.mpr ⟨lw_p51, List.forall_mem_cons.mpr ⟨lw_p52, List.forall_mem_cons.mpr ⟨lw_p53, List.forall_mem_cons.mpr ⟨lw_p54, List.forall_mem_cons.mpr ⟨lw_p55, List.forall_mem_cons.mpr ⟨lw_p56, List.forall_mem_cons.mpr ⟨lw_p57, List.forall_mem_cons.mpr ⟨lw_p58, List.forall_mem_cons.mpr ⟨lw_p59, List.forall_mem_cons.mpr ⟨lw_p60, List.forall_mem_cons.mpr ⟨lw_p61, List.forall_mem_cons.mpr ⟨lw_p62, List.forall_mem_cons.mpr ⟨lw_p63, fun _ h => absurd h List.not_mem_nil⟩⟩⟩⟩⟩⟩⟩⟩⟩⟩⟩⟩⟩⟩⟩⟩
def lw_privs : List (MethodName × Nat) := lw_privs_1 ++ (lw_privs_2 ++ (lw_privs_3 ++ (lw_privs_4)))
def lw_tbl : List Cond := k2_sels lw_privs ++ tables_1
theorem lw_privs_ok : ∀ q ∈ lw_privs, lw_okq q := by
  show ∀ q ∈ lw_privs_1 ++ (lw_privs_2 ++ (lw_privs_3 ++ (lw_privs_4))), lw_okq q
  exact List.forall_mem_append.mpr ⟨lw_r1, List.forall_mem_append.mpr ⟨lw_r2, List.forall_mem_append.mpr ⟨lw_r3, lw_r4⟩⟩⟩
def RX0 : String := "MusicWalls$Canons"
def TX0 : u_T := fun k => match k with
  | _ => ("", "", "", false)
def tyX0 : Nat → FieldType := fun k => match k with
  | _ => .int
abbrev wsX00 : List Cond := u_ws RX0 TX0 0
theorem nmX0 : ∀ a, a < 0 → ∀ b, b < 0 → a ≠ b → (TX0 a).2.1 ≠ (TX0 b).2.1 := by decide +kernel
theorem tyX0_ok : ∀ k, k < 0 → parseFieldDescriptor (TX0 k).2.2.1 = some (tyX0 k) := by decide +kernel
abbrev cX0_alike : ByteArray := prog_2_method_2_code
def yX0_alike : MethodName := ⟨RX0, "alike", "(LMusicWalls$Life;III)I"⟩
abbrev cX0_bestShift : ByteArray := prog_2_method_3_code
def yX0_bestShift : MethodName := ⟨RX0, "bestShift", "(LMusicWalls$Life;II)I"⟩
abbrev cX0_barsToTurn : ByteArray := prog_2_method_4_code
def yX0_barsToTurn : MethodName := ⟨RX0, "barsToTurn", "(LMusicWalls$Life;III)I"⟩
def RX1 : String := "MusicWalls$House"
def TX1 : u_T := fun k => match k with
  | 0 => ("MusicWalls$House", "told", "Z", false)
  | 1 => ("MusicWalls$House", "damp", "I", false)
  | 2 => ("MusicWalls$House", "rooms", "I", false)
  | 3 => ("MusicWalls$House", "persons", "I", false)
  | 4 => ("MusicWalls$House", "walls", "I", false)
  | 5 => ("MusicWalls$House", "underTold", "I", false)
  | 6 => ("MusicWalls$House", "bars", "[I", true)
  | 7 => ("MusicWalls$House", "paper", "[I", true)
  | 8 => ("MusicWalls$House", "under", "[I", true)
  | 9 => ("MusicWalls$House", "personParts", "[I", true)
  | _ => ("MusicWalls$House", "wallParts", "[I", true)
def tyX1 : Nat → FieldType := fun k => match k with
  | 0 => .boolean
  | 1 => .int
  | 2 => .int
  | 3 => .int
  | 4 => .int
  | 5 => .int
  | 6 => .array .int
  | 7 => .array .int
  | 8 => .array .int
  | 9 => .array .int
  | _ => .array .int
abbrev wsX10 : List Cond := u_ws RX1 TX1 11
theorem nmX1 : ∀ a, a < 11 → ∀ b, b < 11 → a ≠ b → (TX1 a).2.1 ≠ (TX1 b).2.1 := by decide +kernel
theorem tyX1_ok : ∀ k, k < 11 → parseFieldDescriptor (TX1 k).2.2.1 = some (tyX1 k) := by decide +kernel
abbrev cX1_init : ByteArray := prog_3_method_1_code
def yX1_init : MethodName := ⟨RX1, "<init>", "()V"⟩
abbrev cX1_clear : ByteArray := prog_3_method_2_code
def yX1_clear : MethodName := ⟨RX1, "clear", "()V"⟩
abbrev cX1_become : ByteArray := prog_3_method_3_code
def yX1_become : MethodName := ⟨RX1, "become", "(LMusicWalls$House;)V"⟩
abbrev cX1_hasRoom : ByteArray := prog_3_method_4_code
def yX1_hasRoom : MethodName := ⟨RX1, "hasRoom", "(I)Z"⟩
abbrev cX1_hasBar : ByteArray := prog_3_method_5_code
def yX1_hasBar : MethodName := ⟨RX1, "hasBar", "(II)Z"⟩
abbrev cX1_hasPerson : ByteArray := prog_3_method_6_code
def yX1_hasPerson : MethodName := ⟨RX1, "hasPerson", "(I)Z"⟩
abbrev cX1_hasWall : ByteArray := prog_3_method_7_code
def yX1_hasWall : MethodName := ⟨RX1, "hasWall", "(I)Z"⟩
abbrev cX1_hasUnder : ByteArray := prog_3_method_8_code
def yX1_hasUnder : MethodName := ⟨RX1, "hasUnder", "(I)Z"⟩
abbrev cX1_barsOf : ByteArray := prog_3_method_9_code
def yX1_barsOf : MethodName := ⟨RX1, "barsOf", "(I)I"⟩
abbrev cX1_paperOf : ByteArray := prog_3_method_10_code
def yX1_paperOf : MethodName := ⟨RX1, "paperOf", "(II)I"⟩
abbrev cX1_underOf : ByteArray := prog_3_method_11_code
def yX1_underOf : MethodName := ⟨RX1, "underOf", "(II)I"⟩
abbrev cX1_personPart : ByteArray := prog_3_method_12_code
def yX1_personPart : MethodName := ⟨RX1, "personPart", "(II)I"⟩
abbrev cX1_wallPart : ByteArray := prog_3_method_13_code
def yX1_wallPart : MethodName := ⟨RX1, "wallPart", "(II)I"⟩
abbrev cX1_putPaper : ByteArray := prog_3_method_14_code
def yX1_putPaper : MethodName := ⟨RX1, "putPaper", "(III)V"⟩
abbrev cX1_putUnder : ByteArray := prog_3_method_15_code
def yX1_putUnder : MethodName := ⟨RX1, "putUnder", "(III)V"⟩
abbrev cX1_putPerson : ByteArray := prog_3_method_16_code
def yX1_putPerson : MethodName := ⟨RX1, "putPerson", "(II)V"⟩
abbrev cX1_putWall : ByteArray := prog_3_method_17_code
def yX1_putWall : MethodName := ⟨RX1, "putWall", "(II)V"⟩
abbrev cX1_addRoom : ByteArray := prog_3_method_18_code
def yX1_addRoom : MethodName := ⟨RX1, "addRoom", "(I)V"⟩
def RX2 : String := "MusicWalls$Images"
def TX2 : u_T := fun k => match k with
  | 0 => ("MusicWalls$Images", "lives", "[LMusicWalls$Life;", true)
  | 1 => ("MusicWalls$Images", "chances", "[I", true)
  | _ => ("MusicWalls$Images", "kept", "I", false)
def tyX2 : Nat → FieldType := fun k => match k with
  | 0 => .array (.object "MusicWalls$Life")
  | 1 => .array .int
  | _ => .int
abbrev wsX20 : List Cond := u_ws RX2 TX2 3
theorem nmX2 : ∀ a, a < 3 → ∀ b, b < 3 → a ≠ b → (TX2 a).2.1 ≠ (TX2 b).2.1 := by decide +kernel
theorem tyX2_ok : ∀ k, k < 3 → parseFieldDescriptor (TX2 k).2.2.1 = some (tyX2 k) := by decide +kernel
abbrev cX2_init : ByteArray := prog_4_method_1_code
def yX2_init : MethodName := ⟨RX2, "<init>", "(LMusicWalls$House;)V"⟩
abbrev cX2_forget : ByteArray := prog_4_method_2_code
def yX2_forget : MethodName := ⟨RX2, "forget", "()V"⟩
abbrev cX2_has : ByteArray := prog_4_method_3_code
def yX2_has : MethodName := ⟨RX2, "has", "(I)Z"⟩
abbrev cX2_store : ByteArray := prog_4_method_4_code
def yX2_store : MethodName := ⟨RX2, "store", "(ILMusicWalls$Life;I)V"⟩
abbrev cX2_restore : ByteArray := prog_4_method_5_code
def yX2_restore : MethodName := ⟨RX2, "restore", "(ILMusicWalls$Life;)V"⟩
abbrev cX2_chanceOf : ByteArray := prog_4_method_6_code
def yX2_chanceOf : MethodName := ⟨RX2, "chanceOf", "(I)I"⟩
def RX3 : String := "MusicWalls$Life"
def TX3 : u_T := fun k => match k with
  | 0 => ("MusicWalls$Life", "house", "LMusicWalls$House;", true)
  | 1 => ("MusicWalls$Life", "hours", "I", false)
  | 2 => ("MusicWalls$Life", "met", "I", false)
  | 3 => ("MusicWalls$Life", "meetings", "I", false)
  | 4 => ("MusicWalls$Life", "lifted", "[I", true)
  | 5 => ("MusicWalls$Life", "roomsOf", "[I", true)
  | 6 => ("MusicWalls$Life", "placesOf", "[I", true)
  | 7 => ("MusicWalls$Life", "pacesOf", "[I", true)
  | _ => ("MusicWalls$Life", "log", "[I", true)
def tyX3 : Nat → FieldType := fun k => match k with
  | 0 => .object "MusicWalls$House"
  | 1 => .int
  | 2 => .int
  | 3 => .int
  | 4 => .array .int
  | 5 => .array .int
  | 6 => .array .int
  | 7 => .array .int
  | _ => .array .int
abbrev wsX30 : List Cond := u_ws RX3 TX3 9
theorem nmX3 : ∀ a, a < 9 → ∀ b, b < 9 → a ≠ b → (TX3 a).2.1 ≠ (TX3 b).2.1 := by decide +kernel
theorem tyX3_ok : ∀ k, k < 9 → parseFieldDescriptor (TX3 k).2.2.1 = some (tyX3 k) := by decide +kernel
abbrev cX3_init : ByteArray := prog_5_method_1_code
def yX3_init : MethodName := ⟨RX3, "<init>", "(LMusicWalls$House;)V"⟩
abbrev cX3_begin : ByteArray := prog_5_method_2_code
def yX3_begin : MethodName := ⟨RX3, "begin", "()V"⟩
abbrev cX3_become : ByteArray := prog_5_method_3_code
def yX3_become : MethodName := ⟨RX3, "become", "(LMusicWalls$Life;)V"⟩
abbrev cX3_liftedIn : ByteArray := prog_5_method_4_code
def yX3_liftedIn : MethodName := ⟨RX3, "liftedIn", "(I)I"⟩
abbrev cX3_liftedInAll : ByteArray := prog_5_method_5_code
def yX3_liftedInAll : MethodName := ⟨RX3, "liftedInAll", "()I"⟩
abbrev cX3_isLifted : ByteArray := prog_5_method_6_code
def yX3_isLifted : MethodName := ⟨RX3, "isLifted", "(II)Z"⟩
abbrev cX3_turn : ByteArray := prog_5_method_7_code
def yX3_turn : MethodName := ⟨RX3, "turn", "(II)V"⟩
abbrev cX3_reads : ByteArray := prog_5_method_8_code
def yX3_reads : MethodName := ⟨RX3, "reads", "(II)I"⟩
abbrev cX3_readsRound : ByteArray := prog_5_method_9_code
def yX3_readsRound : MethodName := ⟨RX3, "readsRound", "(II)I"⟩
abbrev cX3_roomOf : ByteArray := prog_5_method_10_code
def yX3_roomOf : MethodName := ⟨RX3, "roomOf", "(I)I"⟩
abbrev cX3_placeOf : ByteArray := prog_5_method_11_code
def yX3_placeOf : MethodName := ⟨RX3, "placeOf", "(I)I"⟩
abbrev cX3_paceOf : ByteArray := prog_5_method_12_code
def yX3_paceOf : MethodName := ⟨RX3, "paceOf", "(I)I"⟩
abbrev cX3_readBy : ByteArray := prog_5_method_13_code
def yX3_readBy : MethodName := ⟨RX3, "readBy", "(I)I"⟩
abbrev cX3_isAt : ByteArray := prog_5_method_14_code
def yX3_isAt : MethodName := ⟨RX3, "isAt", "(III)Z"⟩
abbrev cX3_setPlace : ByteArray := prog_5_method_15_code
def yX3_setPlace : MethodName := ⟨RX3, "setPlace", "(III)V"⟩
abbrev cX3_setPace : ByteArray := prog_5_method_16_code
def yX3_setPace : MethodName := ⟨RX3, "setPace", "(II)V"⟩
abbrev cX3_addMeeting : ByteArray := prog_5_method_17_code
def yX3_addMeeting : MethodName := ⟨RX3, "addMeeting", "(III)V"⟩
abbrev cX3_loggedNow : ByteArray := prog_5_method_18_code
def yX3_loggedNow : MethodName := ⟨RX3, "loggedNow", "()I"⟩
abbrev cX3_meeting : ByteArray := prog_5_method_19_code
def yX3_meeting : MethodName := ⟨RX3, "meeting", "(II)I"⟩
def RX4 : String := "MusicWalls$Order"
def TX4 : u_T := fun k => match k with
  | 0 => ("MusicWalls$Order", "added", "[I", true)
  | 1 => ("MusicWalls$Order", "fewest", "[I", true)
  | _ => ("MusicWalls$Order", "rooms", "I", false)
def tyX4 : Nat → FieldType := fun k => match k with
  | 0 => .array .int
  | 1 => .array .int
  | _ => .int
abbrev wsX40 : List Cond := u_ws RX4 TX4 3
theorem nmX4 : ∀ a, a < 3 → ∀ b, b < 3 → a ≠ b → (TX4 a).2.1 ≠ (TX4 b).2.1 := by decide +kernel
theorem tyX4_ok : ∀ k, k < 3 → parseFieldDescriptor (TX4 k).2.2.1 = some (tyX4 k) := by decide +kernel
abbrev cX4_init : ByteArray := prog_6_method_1_code
def yX4_init : MethodName := ⟨RX4, "<init>", "()V"⟩
abbrev cX4_reckon : ByteArray := prog_6_method_2_code
def yX4_reckon : MethodName := ⟨RX4, "reckon", "(LMusicWalls$Life;)V"⟩
abbrev cX4_fewestBars : ByteArray := prog_6_method_3_code
def yX4_fewestBars : MethodName := ⟨RX4, "fewestBars", "()I"⟩
abbrev cX4_leastNumber : ByteArray := prog_6_method_4_code
def yX4_leastNumber : MethodName := ⟨RX4, "leastNumber", "()I"⟩
abbrev cX4_barsBehind : ByteArray := prog_6_method_5_code
def yX4_barsBehind : MethodName := ⟨RX4, "barsBehind", "(II)I"⟩
abbrev cX4_firstBest : ByteArray := prog_6_method_6_code
def yX4_firstBest : MethodName := ⟨RX4, "firstBest", "(II)I"⟩
abbrev cX4_barsWith : ByteArray := prog_6_method_7_code
def yX4_barsWith : MethodName := ⟨RX4, "barsWith", "(III)I"⟩
def RX5 : String := "MusicWalls$Passing"
def TX5 : u_T := fun k => match k with
  | _ => ("", "", "", false)
def tyX5 : Nat → FieldType := fun k => match k with
  | _ => .int
abbrev wsX50 : List Cond := u_ws RX5 TX5 0
theorem nmX5 : ∀ a, a < 0 → ∀ b, b < 0 → a ≠ b → (TX5 a).2.1 ≠ (TX5 b).2.1 := by decide +kernel
theorem tyX5_ok : ∀ k, k < 0 → parseFieldDescriptor (TX5 k).2.2.1 = some (tyX5 k) := by decide +kernel
abbrev cX5_anHour : ByteArray := prog_7_method_2_code
def yX5_anHour : MethodName := ⟨RX5, "anHour", "(LMusicWalls$Life;)I"⟩
abbrev cX5_areAtOneWall : ByteArray := prog_7_method_3_code
def yX5_areAtOneWall : MethodName := ⟨RX5, "areAtOneWall", "(LMusicWalls$Life;II)Z"⟩
abbrev cX5_goOn : ByteArray := prog_7_method_4_code
def yX5_goOn : MethodName := ⟨RX5, "goOn", "(LMusicWalls$Life;I)V"⟩
abbrev cX5_meetThrough : ByteArray := prog_7_method_5_code
def yX5_meetThrough : MethodName := ⟨RX5, "meetThrough", "(LMusicWalls$Life;I)V"⟩
abbrev cX5_isAtA : ByteArray := prog_7_method_6_code
def yX5_isAtA : MethodName := ⟨RX5, "isAtA", "(LMusicWalls$Life;II)Z"⟩
abbrev cX5_isAtB : ByteArray := prog_7_method_7_code
def yX5_isAtB : MethodName := ⟨RX5, "isAtB", "(LMusicWalls$Life;II)Z"⟩
abbrev cX5_dampLifts : ByteArray := prog_7_method_8_code
def yX5_dampLifts : MethodName := ⟨RX5, "dampLifts", "(LMusicWalls$Life;I)V"⟩
def RX6 : String := "MusicWalls$Past"
def TX6 : u_T := fun k => match k with
  | 0 => ("MusicWalls$Past", "ahead", "[LMusicWalls$Life;", true)
  | 1 => ("MusicWalls$Past", "size", "I", false)
  | _ => ("MusicWalls$Past", "next", "I", false)
def tyX6 : Nat → FieldType := fun k => match k with
  | 0 => .array (.object "MusicWalls$Life")
  | 1 => .int
  | _ => .int
abbrev wsX60 : List Cond := u_ws RX6 TX6 3
theorem nmX6 : ∀ a, a < 3 → ∀ b, b < 3 → a ≠ b → (TX6 a).2.1 ≠ (TX6 b).2.1 := by decide +kernel
theorem tyX6_ok : ∀ k, k < 3 → parseFieldDescriptor (TX6 k).2.2.1 = some (tyX6 k) := by decide +kernel
abbrev cX6_init : ByteArray := prog_8_method_1_code
def yX6_init : MethodName := ⟨RX6, "<init>", "(LMusicWalls$House;)V"⟩
abbrev cX6_size : ByteArray := prog_8_method_2_code
def yX6_size : MethodName := ⟨RX6, "size", "()I"⟩
abbrev cX6_forget : ByteArray := prog_8_method_3_code
def yX6_forget : MethodName := ⟨RX6, "forget", "()V"⟩
abbrev cX6_add : ByteArray := prog_8_method_4_code
def yX6_add : MethodName := ⟨RX6, "add", "(LMusicWalls$Life;)V"⟩
abbrev cX6_takeBack : ByteArray := prog_8_method_5_code
def yX6_takeBack : MethodName := ⟨RX6, "takeBack", "(ILMusicWalls$Life;)V"⟩
abbrev cX6_kept : ByteArray := prog_8_method_6_code
def yX6_kept : MethodName := ⟨RX6, "kept", "(I)LMusicWalls$Life;"⟩
def RX7 : String := "MusicWalls$Reader"
def TX7 : u_T := fun k => match k with
  | 0 => ("MusicWalls$Reader", "draft", "LMusicWalls$House;", true)
  | 1 => ("MusicWalls$Reader", "text", "[I", true)
  | 2 => ("MusicWalls$Reader", "length", "I", false)
  | 3 => ("MusicWalls$Reader", "at", "I", false)
  | 4 => ("MusicWalls$Reader", "first", "I", false)
  | 5 => ("MusicWalls$Reader", "number", "I", false)
  | _ => ("MusicWalls$Reader", "place", "I", false)
def tyX7 : Nat → FieldType := fun k => match k with
  | 0 => .object "MusicWalls$House"
  | 1 => .array .int
  | 2 => .int
  | 3 => .int
  | 4 => .int
  | 5 => .int
  | _ => .int
abbrev wsX70 : List Cond := u_ws RX7 TX7 7
theorem nmX7 : ∀ a, a < 7 → ∀ b, b < 7 → a ≠ b → (TX7 a).2.1 ≠ (TX7 b).2.1 := by decide +kernel
theorem tyX7_ok : ∀ k, k < 7 → parseFieldDescriptor (TX7 k).2.2.1 = some (tyX7 k) := by decide +kernel
abbrev cX7_init : ByteArray := prog_9_method_1_code
def yX7_init : MethodName := ⟨RX7, "<init>", "()V"⟩
abbrev cX7_letters : ByteArray := prog_9_method_2_code
def yX7_letters : MethodName := ⟨RX7, "letters", "()I"⟩
abbrev cX7_place : ByteArray := prog_9_method_3_code
def yX7_place : MethodName := ⟨RX7, "place", "()I"⟩
abbrev cX7_draft : ByteArray := prog_9_method_4_code
def yX7_draft : MethodName := ⟨RX7, "draft", "()LMusicWalls$House;"⟩
abbrev cX7_add : ByteArray := prog_9_method_5_code
def yX7_add : MethodName := ⟨RX7, "add", "(I)Z"⟩
abbrev cX7_read : ByteArray := prog_9_method_6_code
def yX7_read : MethodName := ⟨RX7, "read", "()I"⟩
abbrev cX7_readClause : ByteArray := prog_9_method_7_code
def yX7_readClause : MethodName := ⟨RX7, "readClause", "()V"⟩
abbrev cX7_readDamp : ByteArray := prog_9_method_8_code
def yX7_readDamp : MethodName := ⟨RX7, "readDamp", "()V"⟩
abbrev cX7_readRoom : ByteArray := prog_9_method_9_code
def yX7_readRoom : MethodName := ⟨RX7, "readRoom", "()V"⟩
abbrev cX7_readUnder : ByteArray := prog_9_method_10_code
def yX7_readUnder : MethodName := ⟨RX7, "readUnder", "()V"⟩
abbrev cX7_readPerson : ByteArray := prog_9_method_11_code
def yX7_readPerson : MethodName := ⟨RX7, "readPerson", "()V"⟩
abbrev cX7_readWall : ByteArray := prog_9_method_12_code
def yX7_readWall : MethodName := ⟨RX7, "readWall", "()V"⟩
abbrev cX7_readNumber : ByteArray := prog_9_method_13_code
def yX7_readNumber : MethodName := ⟨RX7, "readNumber", "(I)I"⟩
abbrev cX7_expect : ByteArray := prog_9_method_14_code
def yX7_expect : MethodName := ⟨RX7, "expect", "(I)V"⟩
abbrev cX7_accept : ByteArray := prog_9_method_15_code
def yX7_accept : MethodName := ⟨RX7, "accept", "(I)Z"⟩
abbrev cX7_skipBlanks : ByteArray := prog_9_method_16_code
def yX7_skipBlanks : MethodName := ⟨RX7, "skipBlanks", "()V"⟩
abbrev cX7_letter : ByteArray := prog_9_method_17_code
def yX7_letter : MethodName := ⟨RX7, "letter", "()I"⟩
abbrev cX7_isFigure : ByteArray := prog_9_method_18_code
def yX7_isFigure : MethodName := ⟨RX7, "isFigure", "(I)Z"⟩
abbrev cX7_fail : ByteArray := prog_9_method_19_code
def yX7_fail : MethodName := ⟨RX7, "fail", "(II)V"⟩
def RX8 : String := "MusicWalls$Readings"
def TX8 : u_T := fun k => match k with
  | _ => ("", "", "", false)
def tyX8 : Nat → FieldType := fun k => match k with
  | _ => .int
abbrev wsX80 : List Cond := u_ws RX8 TX8 0
theorem nmX8 : ∀ a, a < 0 → ∀ b, b < 0 → a ≠ b → (TX8 a).2.1 ≠ (TX8 b).2.1 := by decide +kernel
theorem tyX8_ok : ∀ k, k < 0 → parseFieldDescriptor (TX8 k).2.2.1 = some (tyX8 k) := by decide +kernel
abbrev cX8_keyOf : ByteArray := prog_10_method_2_code
def yX8_keyOf : MethodName := ⟨RX8, "keyOf", "(LMusicWalls$Life;I)I"⟩
abbrev cX8_repeatOf : ByteArray := prog_10_method_3_code
def yX8_repeatOf : MethodName := ⟨RX8, "repeatOf", "(LMusicWalls$Life;I)I"⟩
abbrev cX8_repeatsBy : ByteArray := prog_10_method_4_code
def yX8_repeatsBy : MethodName := ⟨RX8, "repeatsBy", "(LMusicWalls$Life;II)Z"⟩
abbrev cX8_openRooms : ByteArray := prog_10_method_5_code
def yX8_openRooms : MethodName := ⟨RX8, "openRooms", "(LMusicWalls$Life;)I"⟩
abbrev cX8_mostRead : ByteArray := prog_10_method_6_code
def yX8_mostRead : MethodName := ⟨RX8, "mostRead", "(LMusicWalls$Life;)I"⟩
abbrev cX8_howManyRead : ByteArray := prog_10_method_7_code
def yX8_howManyRead : MethodName := ⟨RX8, "howManyRead", "(LMusicWalls$Life;I)I"⟩
abbrev cX8_firstThatReads : ByteArray := prog_10_method_8_code
def yX8_firstThatReads : MethodName := ⟨RX8, "firstThatReads", "(LMusicWalls$Life;II)I"⟩
abbrev cX8_sharedEnd : ByteArray := prog_10_method_9_code
def yX8_sharedEnd : MethodName := ⟨RX8, "sharedEnd", "(LMusicWalls$Life;II)I"⟩
abbrev cX8_endsAsBegins : ByteArray := prog_10_method_10_code
def yX8_endsAsBegins : MethodName := ⟨RX8, "endsAsBegins", "(LMusicWalls$Life;III)Z"⟩
abbrev cX8_nearestRoom : ByteArray := prog_10_method_11_code
def yX8_nearestRoom : MethodName := ⟨RX8, "nearestRoom", "(LMusicWalls$Life;I)I"⟩
abbrev cX8_between : ByteArray := prog_10_method_12_code
def yX8_between : MethodName := ⟨RX8, "between", "(II)I"⟩
abbrev cX8_stepsBetween : ByteArray := prog_10_method_13_code
def yX8_stepsBetween : MethodName := ⟨RX8, "stepsBetween", "(LMusicWalls$Life;II)I"⟩
abbrev cX8_oneStepOn : ByteArray := prog_10_method_14_code
def yX8_oneStepOn : MethodName := ⟨RX8, "oneStepOn", "(LMusicWalls$Life;I)I"⟩
def RX9 : String := "MusicWalls$Rows"
def TX9 : u_T := fun k => match k with
  | _ => ("", "", "", false)
def tyX9 : Nat → FieldType := fun k => match k with
  | _ => .int
abbrev wsX90 : List Cond := u_ws RX9 TX9 0
theorem nmX9 : ∀ a, a < 0 → ∀ b, b < 0 → a ≠ b → (TX9 a).2.1 ≠ (TX9 b).2.1 := by decide +kernel
theorem tyX9_ok : ∀ k, k < 0 → parseFieldDescriptor (TX9 k).2.2.1 = some (tyX9 k) := by decide +kernel
abbrev cX9_at : ByteArray := prog_11_method_2_code
def yX9_at : MethodName := ⟨RX9, "at", "([II)I"⟩
abbrev cX9_put : ByteArray := prog_11_method_3_code
def yX9_put : MethodName := ⟨RX9, "put", "([III)V"⟩
abbrev cX9_copy : ByteArray := prog_11_method_4_code
def yX9_copy : MethodName := ⟨RX9, "copy", "([I[I)V"⟩
abbrev cX9_leftOver : ByteArray := prog_11_method_5_code
def yX9_leftOver : MethodName := ⟨RX9, "leftOver", "(II)I"⟩
abbrev cX9_isIn : ByteArray := prog_11_method_6_code
def yX9_isIn : MethodName := ⟨RX9, "isIn", "(II)Z"⟩
def RX10 : String := "MusicWalls$Sight"
def TX10 : u_T := fun k => match k with
  | 0 => ("MusicWalls$Sight", "offs", "[I", true)
  | 1 => ("MusicWalls$Sight", "signs", "[I", true)
  | 2 => ("MusicWalls$Sight", "bookRooms", "[I", true)
  | 3 => ("MusicWalls$Sight", "bookBars", "[I", true)
  | 4 => ("MusicWalls$Sight", "bookSigns", "[I", true)
  | 5 => ("MusicWalls$Sight", "foundAt", "[I", true)
  | 6 => ("MusicWalls$Sight", "parts", "[I", true)
  | 7 => ("MusicWalls$Sight", "seen", "I", false)
  | 8 => ("MusicWalls$Sight", "entries", "I", false)
  | _ => ("MusicWalls$Sight", "found", "I", false)
def tyX10 : Nat → FieldType := fun k => match k with
  | 0 => .array .int
  | 1 => .array .int
  | 2 => .array .int
  | 3 => .array .int
  | 4 => .array .int
  | 5 => .array .int
  | 6 => .array .int
  | 7 => .int
  | 8 => .int
  | _ => .int
abbrev wsX100 : List Cond := u_ws RX10 TX10 10
theorem nmX10 : ∀ a, a < 10 → ∀ b, b < 10 → a ≠ b → (TX10 a).2.1 ≠ (TX10 b).2.1 := by decide +kernel
theorem tyX10_ok : ∀ k, k < 10 → parseFieldDescriptor (TX10 k).2.2.1 = some (tyX10 k) := by decide +kernel
abbrev cX10_init : ByteArray := prog_12_method_1_code
def yX10_init : MethodName := ⟨RX10, "<init>", "()V"⟩
abbrev cX10_seen : ByteArray := prog_12_method_2_code
def yX10_seen : MethodName := ⟨RX10, "seen", "()I"⟩
abbrev cX10_entries : ByteArray := prog_12_method_3_code
def yX10_entries : MethodName := ⟨RX10, "entries", "()I"⟩
abbrev cX10_forget : ByteArray := prog_12_method_4_code
def yX10_forget : MethodName := ⟨RX10, "forget", "()V"⟩
abbrev cX10_addSeen : ByteArray := prog_12_method_5_code
def yX10_addSeen : MethodName := ⟨RX10, "addSeen", "(II)Z"⟩
abbrev cX10_addEntry : ByteArray := prog_12_method_6_code
def yX10_addEntry : MethodName := ⟨RX10, "addEntry", "(III)Z"⟩
abbrev cX10_firstWrong : ByteArray := prog_12_method_7_code
def yX10_firstWrong : MethodName := ⟨RX10, "firstWrong", "(LMusicWalls$Life;)I"⟩
abbrev cX10_findPlaces : ByteArray := prog_12_method_8_code
def yX10_findPlaces : MethodName := ⟨RX10, "findPlaces", "(LMusicWalls$Life;)V"⟩
abbrev cX10_found : ByteArray := prog_12_method_9_code
def yX10_found : MethodName := ⟨RX10, "found", "()I"⟩
abbrev cX10_firstFound : ByteArray := prog_12_method_10_code
def yX10_firstFound : MethodName := ⟨RX10, "firstFound", "()I"⟩
abbrev cX10_roomsFound : ByteArray := prog_12_method_11_code
def yX10_roomsFound : MethodName := ⟨RX10, "roomsFound", "()I"⟩
abbrev cX10_bestLook : ByteArray := prog_12_method_12_code
def yX10_bestLook : MethodName := ⟨RX10, "bestLook", "(LMusicWalls$Life;)I"⟩
abbrev cX10_fits : ByteArray := prog_12_method_13_code
def yX10_fits : MethodName := ⟨RX10, "fits", "(LMusicWalls$Life;II)Z"⟩
abbrev cX10_greatestPart : ByteArray := prog_12_method_14_code
def yX10_greatestPart : MethodName := ⟨RX10, "greatestPart", "(LMusicWalls$Life;I)I"⟩
def RX11 : String := "MusicWalls"
def TX11 : u_T := fun k => match k with
  | 0 => ("MusicWalls", "reader", "LMusicWalls$Reader;", true)
  | 1 => ("MusicWalls", "house", "LMusicWalls$House;", true)
  | 2 => ("MusicWalls", "life", "LMusicWalls$Life;", true)
  | 3 => ("MusicWalls", "trial", "LMusicWalls$Life;", true)
  | 4 => ("MusicWalls", "past", "LMusicWalls$Past;", true)
  | 5 => ("MusicWalls", "images", "LMusicWalls$Images;", true)
  | 6 => ("MusicWalls", "sight", "LMusicWalls$Sight;", true)
  | 7 => ("MusicWalls", "order", "LMusicWalls$Order;", true)
  | _ => ("MusicWalls", "chance", "I", false)
def tyX11 : Nat → FieldType := fun k => match k with
  | 0 => .object "MusicWalls$Reader"
  | 1 => .object "MusicWalls$House"
  | 2 => .object "MusicWalls$Life"
  | 3 => .object "MusicWalls$Life"
  | 4 => .object "MusicWalls$Past"
  | 5 => .object "MusicWalls$Images"
  | 6 => .object "MusicWalls$Sight"
  | 7 => .object "MusicWalls$Order"
  | _ => .int
abbrev wsX110 : List Cond := u_ws RX11 TX11 9
theorem nmX11 : ∀ a, a < 9 → ∀ b, b < 9 → a ≠ b → (TX11 a).2.1 ≠ (TX11 b).2.1 := by decide +kernel
theorem tyX11_ok : ∀ k, k < 9 → parseFieldDescriptor (TX11 k).2.2.1 = some (tyX11 k) := by decide +kernel
abbrev cX11_init : ByteArray := prog_1_method_1_code
def yX11_init : MethodName := ⟨RX11, "<init>", "()V"⟩
abbrev cX11_feed : ByteArray := prog_1_method_2_code
def yX11_feed : MethodName := ⟨RX11, "feed", "(I)I"⟩
abbrev cX11_house : ByteArray := prog_1_method_3_code
def yX11_house : MethodName := ⟨RX11, "house", "()I"⟩
abbrev cX11_fault : ByteArray := prog_1_method_4_code
def yX11_fault : MethodName := ⟨RX11, "fault", "()I"⟩
abbrev cX11_told : ByteArray := prog_1_method_5_code
def yX11_told : MethodName := ⟨RX11, "told", "(I)I"⟩
abbrev cX11_room : ByteArray := prog_1_method_6_code
def yX11_room : MethodName := ⟨RX11, "room", "(II)I"⟩
abbrev cX11_bar : ByteArray := prog_1_method_7_code
def yX11_bar : MethodName := ⟨RX11, "bar", "(III)I"⟩
abbrev cX11_person : ByteArray := prog_1_method_8_code
def yX11_person : MethodName := ⟨RX11, "person", "(II)I"⟩
abbrev cX11_wall : ByteArray := prog_1_method_9_code
def yX11_wall : MethodName := ⟨RX11, "wall", "(II)I"⟩
abbrev cX11_logged : ByteArray := prog_1_method_10_code
def yX11_logged : MethodName := ⟨RX11, "logged", "(II)I"⟩
abbrev cX11_hour : ByteArray := prog_1_method_11_code
def yX11_hour : MethodName := ⟨RX11, "hour", "(I)I"⟩
abbrev cX11_lift : ByteArray := prog_1_method_12_code
def yX11_lift : MethodName := ⟨RX11, "lift", "(II)I"⟩
abbrev cX11_paste : ByteArray := prog_1_method_13_code
def yX11_paste : MethodName := ⟨RX11, "paste", "(II)I"⟩
abbrev cX11_moveTo : ByteArray := prog_1_method_14_code
def yX11_moveTo : MethodName := ⟨RX11, "moveTo", "(II)I"⟩
abbrev cX11_pace : ByteArray := prog_1_method_15_code
def yX11_pace : MethodName := ⟨RX11, "pace", "(II)I"⟩
abbrev cX11_drift : ByteArray := prog_1_method_16_code
def yX11_drift : MethodName := ⟨RX11, "drift", "(I)I"⟩
abbrev cX11_undo : ByteArray := prog_1_method_17_code
def yX11_undo : MethodName := ⟨RX11, "undo", "(I)I"⟩
abbrev cX11_where : ByteArray := prog_1_method_18_code
def yX11_where : MethodName := ⟨RX11, "where", "(II)I"⟩
abbrev cX11_meets : ByteArray := prog_1_method_19_code
def yX11_meets : MethodName := ⟨RX11, "meets", "(I)I"⟩
abbrev cX11_together : ByteArray := prog_1_method_20_code
def yX11_together : MethodName := ⟨RX11, "together", "(II)I"⟩
abbrev cX11_canon : ByteArray := prog_1_method_21_code
def yX11_canon : MethodName := ⟨RX11, "canon", "(III)I"⟩
abbrev cX11_bestCanon : ByteArray := prog_1_method_22_code
def yX11_bestCanon : MethodName := ⟨RX11, "bestCanon", "(III)I"⟩
abbrev cX11_match : ByteArray := prog_1_method_23_code
def yX11_match : MethodName := ⟨RX11, "match", "(IIII)I"⟩
abbrev cX11_join : ByteArray := prog_1_method_24_code
def yX11_join : MethodName := ⟨RX11, "join", "(II)I"⟩
abbrev cX11_shortest : ByteArray := prog_1_method_25_code
def yX11_shortest : MethodName := ⟨RX11, "shortest", "(I)I"⟩
abbrev cX11_nearest : ByteArray := prog_1_method_26_code
def yX11_nearest : MethodName := ⟨RX11, "nearest", "(I)I"⟩
abbrev cX11_modulation : ByteArray := prog_1_method_27_code
def yX11_modulation : MethodName := ⟨RX11, "modulation", "(II)I"⟩
abbrev cX11_sounds : ByteArray := prog_1_method_28_code
def yX11_sounds : MethodName := ⟨RX11, "sounds", "(I)I"⟩
abbrev cX11_dry : ByteArray := prog_1_method_29_code
def yX11_dry : MethodName := ⟨RX11, "dry", "(II)I"⟩
abbrev cX11_see : ByteArray := prog_1_method_30_code
def yX11_see : MethodName := ⟨RX11, "see", "(II)I"⟩
abbrev cX11_places : ByteArray := prog_1_method_31_code
def yX11_places : MethodName := ⟨RX11, "places", "(I)I"⟩
abbrev cX11_lookAt : ByteArray := prog_1_method_32_code
def yX11_lookAt : MethodName := ⟨RX11, "lookAt", "()I"⟩
abbrev cX11_write : ByteArray := prog_1_method_33_code
def yX11_write : MethodName := ⟨RX11, "write", "(III)I"⟩
abbrev cX11_judge : ByteArray := prog_1_method_34_code
def yX11_judge : MethodName := ⟨RX11, "judge", "()I"⟩
abbrev cX11_tear : ByteArray := prog_1_method_35_code
def yX11_tear : MethodName := ⟨RX11, "tear", "()I"⟩
abbrev cX11_seed : ByteArray := prog_1_method_36_code
def yX11_seed : MethodName := ⟨RX11, "seed", "(I)I"⟩
abbrev cX11_keep : ByteArray := prog_1_method_37_code
def yX11_keep : MethodName := ⟨RX11, "keep", "(I)I"⟩
abbrev cX11_goBack : ByteArray := prog_1_method_38_code
def yX11_goBack : MethodName := ⟨RX11, "goBack", "(I)I"⟩
abbrev cX11_beyond : ByteArray := prog_1_method_39_code
def yX11_beyond : MethodName := ⟨RX11, "beyond", "(II)Z"⟩
abbrev cX11_areTwoRooms : ByteArray := prog_1_method_40_code
def yX11_areTwoRooms : MethodName := ⟨RX11, "areTwoRooms", "(II)Z"⟩
abbrev cX11_refusalOfHours : ByteArray := prog_1_method_41_code
def yX11_refusalOfHours : MethodName := ⟨RX11, "refusalOfHours", "(I)I"⟩
abbrev cX11_turnByHand : ByteArray := prog_1_method_42_code
def yX11_turnByHand : MethodName := ⟨RX11, "turnByHand", "(IIZ)I"⟩
abbrev cX11_meetingsTried : ByteArray := prog_1_method_43_code
def yX11_meetingsTried : MethodName := ⟨RX11, "meetingsTried", "(I)I"⟩
abbrev cX11_draw : ByteArray := prog_1_method_44_code
def yX11_draw : MethodName := ⟨RX11, "draw", "(I)I"⟩
abbrev cX11_deedByDraws : ByteArray := prog_1_method_45_code
def yX11_deedByDraws : MethodName := ⟨RX11, "deedByDraws", "()V"⟩
def RX12 : String := "MusicWallsModel"
def TX12 : u_T := fun k => match k with
  | 0 => ("MusicWallsModel", "house", "[I", true)
  | 1 => ("MusicWallsModel", "read", "[I", true)
  | 2 => ("MusicWallsModel", "now", "[I", true)
  | 3 => ("MusicWallsModel", "aside", "[I", true)
  | 4 => ("MusicWallsModel", "past", "[I", true)
  | 5 => ("MusicWallsModel", "undos", "I", false)
  | 6 => ("MusicWallsModel", "images", "[I", true)
  | 7 => ("MusicWallsModel", "kept", "[Z", true)
  | 8 => ("MusicWallsModel", "seed", "J", false)
  | 9 => ("MusicWallsModel", "text", "[I", true)
  | 10 => ("MusicWallsModel", "size", "I", false)
  | 11 => ("MusicWallsModel", "fault", "I", false)
  | 12 => ("MusicWallsModel", "sights", "[I", true)
  | 13 => ("MusicWallsModel", "sightMany", "I", false)
  | 14 => ("MusicWallsModel", "book", "[I", true)
  | 15 => ("MusicWallsModel", "bookMany", "I", false)
  | 16 => ("MusicWallsModel", "at", "I", false)
  | 17 => ("MusicWallsModel", "begin", "I", false)
  | 18 => ("MusicWallsModel", "sign", "I", false)
  | 19 => ("MusicWallsModel", "figures", "I", false)
  | 20 => ("MusicWallsModel", "value", "I", false)
  | 21 => ("MusicWallsModel", "wrong", "I", false)
  | 22 => ("MusicWallsModel", "many", "I", false)
  | 23 => ("MusicWallsModel", "often", "[I", true)
  | 24 => ("MusicWallsModel", "pairMet", "Z", false)
  | 25 => ("MusicWallsModel", "order", "[I", true)
  | _ => ("MusicWallsModel", "joins", "[I", true)
def tyX12 : Nat → FieldType := fun k => match k with
  | 0 => .array .int
  | 1 => .array .int
  | 2 => .array .int
  | 3 => .array .int
  | 4 => .array .int
  | 5 => .int
  | 6 => .array .int
  | 7 => .array .boolean
  | 8 => .long
  | 9 => .array .int
  | 10 => .int
  | 11 => .int
  | 12 => .array .int
  | 13 => .int
  | 14 => .array .int
  | 15 => .int
  | 16 => .int
  | 17 => .int
  | 18 => .int
  | 19 => .int
  | 20 => .int
  | 21 => .int
  | 22 => .int
  | 23 => .array .int
  | 24 => .boolean
  | 25 => .array .int
  | _ => .array .int
abbrev wsX120 : List Cond := u_ws RX12 TX12 27
theorem nmX12 : ∀ a, a < 27 → ∀ b, b < 27 → a ≠ b → (TX12 a).2.1 ≠ (TX12 b).2.1 := by decide +kernel
theorem tyX12_ok : ∀ k, k < 27 → parseFieldDescriptor (TX12 k).2.2.1 = some (tyX12 k) := by decide +kernel
abbrev cX12_init : ByteArray := prog_14_method_1_code
def yX12_init : MethodName := ⟨RX12, "<init>", "()V"⟩
abbrev cX12_in : ByteArray := prog_14_method_3_code
def yX12_in : MethodName := ⟨RX12, "in", "(JJJ)Z"⟩
abbrev cX12_has : ByteArray := prog_14_method_4_code
def yX12_has : MethodName := ⟨RX12, "has", "(II)Z"⟩
abbrev cX12_bits : ByteArray := prog_14_method_5_code
def yX12_bits : MethodName := ⟨RX12, "bits", "(I)I"⟩
abbrev cX12_lesser : ByteArray := prog_14_method_6_code
def yX12_lesser : MethodName := ⟨RX12, "lesser", "(II)I"⟩
abbrev cX12_copies : ByteArray := prog_14_method_7_code
def yX12_copies : MethodName := ⟨RX12, "copies", "([II[III)V"⟩
abbrev cX12_begins : ByteArray := prog_14_method_8_code
def yX12_begins : MethodName := ⟨RX12, "begins", "()V"⟩
abbrev cX12_feed : ByteArray := prog_14_method_9_code
def yX12_feed : MethodName := ⟨RX12, "feed", "(I)I"⟩
abbrev cX12_here : ByteArray := prog_14_method_10_code
def yX12_here : MethodName := ⟨RX12, "here", "()I"⟩
abbrev cX12_step : ByteArray := prog_14_method_11_code
def yX12_step : MethodName := ⟨RX12, "step", "()V"⟩
abbrev cX12_fails : ByteArray := prog_14_method_12_code
def yX12_fails : MethodName := ⟨RX12, "fails", "(I)Z"⟩
abbrev cX12_number : ByteArray := prog_14_method_13_code
def yX12_number : MethodName := ⟨RX12, "number", "(III)Z"⟩
abbrev cX12_ends : ByteArray := prog_14_method_14_code
def yX12_ends : MethodName := ⟨RX12, "ends", "()Z"⟩
abbrev cX12_row : ByteArray := prog_14_method_15_code
def yX12_row : MethodName := ⟨RX12, "row", "(III)Z"⟩
abbrev cX12_readsRoom : ByteArray := prog_14_method_16_code
def yX12_readsRoom : MethodName := ⟨RX12, "readsRoom", "()Z"⟩
abbrev cX12_readsUnder : ByteArray := prog_14_method_17_code
def yX12_readsUnder : MethodName := ⟨RX12, "readsUnder", "()Z"⟩
abbrev cX12_readsPerson : ByteArray := prog_14_method_18_code
def yX12_readsPerson : MethodName := ⟨RX12, "readsPerson", "()Z"⟩
abbrev cX12_readsWall : ByteArray := prog_14_method_19_code
def yX12_readsWall : MethodName := ⟨RX12, "readsWall", "()Z"⟩
abbrev cX12_readsClause : ByteArray := prog_14_method_20_code
def yX12_readsClause : MethodName := ⟨RX12, "readsClause", "(Z)Z"⟩
abbrev cX12_house : ByteArray := prog_14_method_21_code
def yX12_house : MethodName := ⟨RX12, "house", "()I"⟩
abbrev cX12_fault : ByteArray := prog_14_method_22_code
def yX12_fault : MethodName := ⟨RX12, "fault", "()I"⟩
abbrev cX12_isRoom : ByteArray := prog_14_method_23_code
def yX12_isRoom : MethodName := ⟨RX12, "isRoom", "(I)Z"⟩
abbrev cX12_isBar : ByteArray := prog_14_method_24_code
def yX12_isBar : MethodName := ⟨RX12, "isBar", "(II)Z"⟩
abbrev cX12_isPerson : ByteArray := prog_14_method_25_code
def yX12_isPerson : MethodName := ⟨RX12, "isPerson", "(I)Z"⟩
abbrev cX12_areTwo : ByteArray := prog_14_method_26_code
def yX12_areTwo : MethodName := ⟨RX12, "areTwo", "(II)Z"⟩
abbrev cX12_turned : ByteArray := prog_14_method_27_code
def yX12_turned : MethodName := ⟨RX12, "turned", "(IIZ)I"⟩
abbrev cX12_readsOn : ByteArray := prog_14_method_28_code
def yX12_readsOn : MethodName := ⟨RX12, "readsOn", "([III)I"⟩
abbrev cX12_reads : ByteArray := prog_14_method_29_code
def yX12_reads : MethodName := ⟨RX12, "reads", "(II)I"⟩
abbrev cX12_open : ByteArray := prog_14_method_30_code
def yX12_open : MethodName := ⟨RX12, "open", "()I"⟩
abbrev cX12_liftedInAll : ByteArray := prog_14_method_31_code
def yX12_liftedInAll : MethodName := ⟨RX12, "liftedInAll", "()I"⟩
abbrev cX12_mostRead : ByteArray := prog_14_method_32_code
def yX12_mostRead : MethodName := ⟨RX12, "mostRead", "()I"⟩
abbrev cX12_key : ByteArray := prog_14_method_33_code
def yX12_key : MethodName := ⟨RX12, "key", "(I)I"⟩
abbrev cX12_repeat : ByteArray := prog_14_method_34_code
def yX12_repeat : MethodName := ⟨RX12, "repeat", "(I)I"⟩
abbrev cX12_told : ByteArray := prog_14_method_35_code
def yX12_told : MethodName := ⟨RX12, "told", "(I)I"⟩
abbrev cX12_room : ByteArray := prog_14_method_36_code
def yX12_room : MethodName := ⟨RX12, "room", "(II)I"⟩
abbrev cX12_bar : ByteArray := prog_14_method_37_code
def yX12_bar : MethodName := ⟨RX12, "bar", "(III)I"⟩
abbrev cX12_person : ByteArray := prog_14_method_38_code
def yX12_person : MethodName := ⟨RX12, "person", "(II)I"⟩
abbrev cX12_wall : ByteArray := prog_14_method_39_code
def yX12_wall : MethodName := ⟨RX12, "wall", "(II)I"⟩
abbrev cX12_logged : ByteArray := prog_14_method_40_code
def yX12_logged : MethodName := ⟨RX12, "logged", "(II)I"⟩
abbrev cX12_walks : ByteArray := prog_14_method_41_code
def yX12_walks : MethodName := ⟨RX12, "walks", "([II)V"⟩
abbrev cX12_logs : ByteArray := prog_14_method_42_code
def yX12_logs : MethodName := ⟨RX12, "logs", "([II)V"⟩
abbrev cX12_isAt : ByteArray := prog_14_method_43_code
def yX12_isAt : MethodName := ⟨RX12, "isAt", "([IIII)Z"⟩
abbrev cX12_meetings : ByteArray := prog_14_method_44_code
def yX12_meetings : MethodName := ⟨RX12, "meetings", "([II)I"⟩
abbrev cX12_hourGoes : ByteArray := prog_14_method_45_code
def yX12_hourGoes : MethodName := ⟨RX12, "hourGoes", "([II)I"⟩
abbrev cX12_remember : ByteArray := prog_14_method_46_code
def yX12_remember : MethodName := ⟨RX12, "remember", "()V"⟩
abbrev cX12_refuses : ByteArray := prog_14_method_47_code
def yX12_refuses : MethodName := ⟨RX12, "refuses", "(I)I"⟩
abbrev cX12_hour : ByteArray := prog_14_method_48_code
def yX12_hour : MethodName := ⟨RX12, "hour", "(I)I"⟩
abbrev cX12_lift : ByteArray := prog_14_method_49_code
def yX12_lift : MethodName := ⟨RX12, "lift", "(II)I"⟩
abbrev cX12_paste : ByteArray := prog_14_method_50_code
def yX12_paste : MethodName := ⟨RX12, "paste", "(II)I"⟩
abbrev cX12_moveTo : ByteArray := prog_14_method_51_code
def yX12_moveTo : MethodName := ⟨RX12, "moveTo", "(II)I"⟩
abbrev cX12_pace : ByteArray := prog_14_method_52_code
def yX12_pace : MethodName := ⟨RX12, "pace", "(II)I"⟩
abbrev cX12_draw : ByteArray := prog_14_method_53_code
def yX12_draw : MethodName := ⟨RX12, "draw", "(I)I"⟩
abbrev cX12_draws : ByteArray := prog_14_method_54_code
def yX12_draws : MethodName := ⟨RX12, "draws", "()V"⟩
abbrev cX12_drift : ByteArray := prog_14_method_55_code
def yX12_drift : MethodName := ⟨RX12, "drift", "(I)I"⟩
abbrev cX12_undo : ByteArray := prog_14_method_56_code
def yX12_undo : MethodName := ⟨RX12, "undo", "(I)I"⟩
abbrev cX12_layAside : ByteArray := prog_14_method_57_code
def yX12_layAside : MethodName := ⟨RX12, "layAside", "()V"⟩
abbrev cX12_where : ByteArray := prog_14_method_58_code
def yX12_where : MethodName := ⟨RX12, "where", "(II)I"⟩
abbrev cX12_meets : ByteArray := prog_14_method_59_code
def yX12_meets : MethodName := ⟨RX12, "meets", "(I)I"⟩
abbrev cX12_together : ByteArray := prog_14_method_60_code
def yX12_together : MethodName := ⟨RX12, "together", "(II)I"⟩
abbrev cX12_isIn : ByteArray := prog_14_method_61_code
def yX12_isIn : MethodName := ⟨RX12, "isIn", "(IIII)Z"⟩
abbrev cX12_inCanon : ByteArray := prog_14_method_62_code
def yX12_inCanon : MethodName := ⟨RX12, "inCanon", "(III)I"⟩
abbrev cX12_canon : ByteArray := prog_14_method_63_code
def yX12_canon : MethodName := ⟨RX12, "canon", "(III)I"⟩
abbrev cX12_bestCanon : ByteArray := prog_14_method_64_code
def yX12_bestCanon : MethodName := ⟨RX12, "bestCanon", "(III)I"⟩
abbrev cX12_match : ByteArray := prog_14_method_65_code
def yX12_match : MethodName := ⟨RX12, "match", "(IIII)I"⟩
abbrev cX12_joinOf : ByteArray := prog_14_method_66_code
def yX12_joinOf : MethodName := ⟨RX12, "joinOf", "(II)I"⟩
abbrev cX12_join : ByteArray := prog_14_method_67_code
def yX12_join : MethodName := ⟨RX12, "join", "(II)I"⟩
abbrev cX12_nextOrder : ByteArray := prog_14_method_68_code
def yX12_nextOrder : MethodName := ⟨RX12, "nextOrder", "(I)Z"⟩
abbrev cX12_shortest : ByteArray := prog_14_method_69_code
def yX12_shortest : MethodName := ⟨RX12, "shortest", "(I)I"⟩
abbrev cX12_apart : ByteArray := prog_14_method_70_code
def yX12_apart : MethodName := ⟨RX12, "apart", "(II)I"⟩
abbrev cX12_nearest : ByteArray := prog_14_method_71_code
def yX12_nearest : MethodName := ⟨RX12, "nearest", "(I)I"⟩
abbrev cX12_modulation : ByteArray := prog_14_method_72_code
def yX12_modulation : MethodName := ⟨RX12, "modulation", "(II)I"⟩
abbrev cX12_sounds : ByteArray := prog_14_method_73_code
def yX12_sounds : MethodName := ⟨RX12, "sounds", "(I)I"⟩
abbrev cX12_dry : ByteArray := prog_14_method_74_code
def yX12_dry : MethodName := ⟨RX12, "dry", "(II)I"⟩
abbrev cX12_see : ByteArray := prog_14_method_75_code
def yX12_see : MethodName := ⟨RX12, "see", "(II)I"⟩
abbrev cX12_isSo : ByteArray := prog_14_method_76_code
def yX12_isSo : MethodName := ⟨RX12, "isSo", "(II)Z"⟩
abbrev cX12_places : ByteArray := prog_14_method_77_code
def yX12_places : MethodName := ⟨RX12, "places", "(I)I"⟩
abbrev cX12_greatestPart : ByteArray := prog_14_method_78_code
def yX12_greatestPart : MethodName := ⟨RX12, "greatestPart", "(I)I"⟩
abbrev cX12_lookAt : ByteArray := prog_14_method_79_code
def yX12_lookAt : MethodName := ⟨RX12, "lookAt", "()I"⟩
abbrev cX12_write : ByteArray := prog_14_method_80_code
def yX12_write : MethodName := ⟨RX12, "write", "(III)I"⟩
abbrev cX12_judge : ByteArray := prog_14_method_81_code
def yX12_judge : MethodName := ⟨RX12, "judge", "()I"⟩
abbrev cX12_tear : ByteArray := prog_14_method_82_code
def yX12_tear : MethodName := ⟨RX12, "tear", "()I"⟩
abbrev cX12_seed : ByteArray := prog_14_method_83_code
def yX12_seed : MethodName := ⟨RX12, "seed", "(I)I"⟩
abbrev cX12_keep : ByteArray := prog_14_method_84_code
def yX12_keep : MethodName := ⟨RX12, "keep", "(I)I"⟩
abbrev cX12_goBack : ByteArray := prog_14_method_85_code
def yX12_goBack : MethodName := ⟨RX12, "goBack", "(I)I"⟩
def RJ6 : String := "java/lang/Integer"
def TJ6 : u_T := fun k => match k with
  | _ => ("", "", "", false)
def tyJ6 : Nat → FieldType := fun k => match k with
  | _ => .int
abbrev wsJ60 : List Cond := u_ws RJ6 TJ6 0
theorem nmJ6 : ∀ a, a < 0 → ∀ b, b < 0 → a ≠ b → (TJ6 a).2.1 ≠ (TJ6 b).2.1 := by decide +kernel
theorem tyJ6_ok : ∀ k, k < 0 → parseFieldDescriptor (TJ6 k).2.2.1 = some (tyJ6 k) := by decide +kernel
abbrev cJ6_bitCount_0f7a4 : ByteArray := prog_15_method_49_code
def yJ6_bitCount_0f7a4 : MethodName := ⟨RJ6, "bitCount", "(I)I"⟩
def RJ9 : String := "java/lang/Math"
def TJ9 : u_T := fun k => match k with
  | _ => ("", "", "", false)
def tyJ9 : Nat → FieldType := fun k => match k with
  | _ => .int
abbrev wsJ90 : List Cond := u_ws RJ9 TJ9 0
theorem nmJ9 : ∀ a, a < 0 → ∀ b, b < 0 → a ≠ b → (TJ9 a).2.1 ≠ (TJ9 b).2.1 := by decide +kernel
theorem tyJ9_ok : ∀ k, k < 0 → parseFieldDescriptor (TJ9 k).2.2.1 = some (tyJ9 k) := by decide +kernel
abbrev cJ9_abs_0f7a4 : ByteArray := prog_16_method_59_code
def yJ9_abs_0f7a4 : MethodName := ⟨RJ9, "abs", "(I)I"⟩
abbrev cJ9_max_7cf53 : ByteArray := prog_16_method_65_code
def yJ9_max_7cf53 : MethodName := ⟨RJ9, "max", "(II)I"⟩
abbrev cJ9_min_7cf53 : ByteArray := prog_16_method_69_code
def yJ9_min_7cf53 : MethodName := ⟨RJ9, "min", "(II)I"⟩
def RJ10 : String := "java/lang/System"
def TJ10 : u_T := fun k => match k with
  | _ => ("", "", "", false)
def tyJ10 : Nat → FieldType := fun k => match k with
  | _ => .int
abbrev wsJ100 : List Cond := u_ws RJ10 TJ10 0
theorem nmJ10 : ∀ a, a < 0 → ∀ b, b < 0 → a ≠ b → (TJ10 a).2.1 ≠ (TJ10 b).2.1 := by decide +kernel
theorem tyJ10_ok : ∀ k, k < 0 → parseFieldDescriptor (TJ10 k).2.2.1 = some (tyJ10 k) := by decide +kernel
def RJ7 : String := "java/util/Arrays"
def TJ7 : u_T := fun k => match k with
  | _ => ("", "", "", false)
def tyJ7 : Nat → FieldType := fun k => match k with
  | _ => .int
abbrev wsJ70 : List Cond := u_ws RJ7 TJ7 0
theorem nmJ7 : ∀ a, a < 0 → ∀ b, b < 0 → a ≠ b → (TJ7 a).2.1 ≠ (TJ7 b).2.1 := by decide +kernel
theorem tyJ7_ok : ∀ k, k < 0 → parseFieldDescriptor (TJ7 k).2.2.1 = some (tyJ7 k) := by decide +kernel
abbrev cJ7_fill_53178 : ByteArray := prog_18_method_103_code
def yJ7_fill_53178 : MethodName := ⟨RJ7, "fill", "([II)V"⟩
def RL : String := "MusicWallsLaw"
abbrev cL_law : ByteArray := code
def yL_law : MethodName := ⟨RL, "law", "([I)Z"⟩
abbrev vwCl : List vw_C := [(RX1, TX1, 11), (RX2, TX2, 3), (RX3, TX3, 9), (RX4, TX4, 3), (RX6, TX6, 3), (RX7, TX7, 7), (RX10, TX10, 10), (RX11, TX11, 9), (RX12, TX12, 27)]
end
section
/-! THE ABSTRACT MACHINE: bytecode over mathematical integers and a memory of numbered objects. A value: a whole number (int), a long, a reference (kind, number). -/
abbrev zV : Type := Int ⊕ (Int ⊕ (Nat × Nat))
abbrev zI (a : Int) : zV := .inl a
abbrev zL (a : Int) : zV := .inr (.inl a)
abbrev zR (t i : Nat) : zV := .inr (.inr (t, i))
/-- memory: kind, number, slot -/
abbrev zM : Type := Nat → Nat → Nat → Int
def zset (μ : zM) (t i k : Nat) (v : Int) : zM := fun t' i' k' => if t' = t ∧ i' = i ∧ k' = k then v else μ t' i' k'
def zcpy (μ : zM) (t i sp u j dp n : Nat) : zM := fun t' i' k' => if t' = u ∧ i' = j ∧ dp ≤ k' ∧ k' < dp + n then μ t i (sp + (k' - dp)) else μ t' i' k'
def w32 (x : Int) : Int := (x + 2147483648) % 4294967296 - 2147483648
def w64 (x : Int) : Int := (x + 9223372036854775808) % 18446744073709551616 - 9223372036854775808
/-- pc, length, what it is, two numbers, a constant -/
abbrev zE : Type := Nat × Nat × Instr × Nat × Nat × Int
def znth {α : Type} : List (Option α) → Nat → Option α
  | [], _ => none
  | a :: _, 0 => a
  | _ :: l, n + 1 => znth l n
def zput {α : Type} : List α → Nat → α → List α
  | [], _, _ => []
  | _ :: l, 0, v => v :: l
  | a :: l, n + 1, v => a :: zput l n v
/-- what stands ahead of a place that is written: a long is gone -/
def zkl : List (Option zV) → Nat → List (Option zV)
  | [], _ => []
  | a :: l, 0 => a :: l
  | a :: l, 1 => (match a with
    | some (.inr (.inl _)) => none
    | x => x) :: l
  | a :: l, n + 2 => a :: zkl l (n + 1)
/-- what need not be known any more is forgotten -/
def zmask : List Bool → List (Option zV) → List (Option zV)
  | true :: b, a :: l => a :: zmask b l
  | false :: b, _ :: l => none :: zmask b l
  | [], l => l
  | _, [] => []
def zand (a b : Int) : Int := (Int32.ofInt a &&& Int32.ofInt b).toInt
def zor (a b : Int) : Int := (Int32.ofInt a ||| Int32.ofInt b).toInt
def zxor (a b : Int) : Int := (Int32.ofInt a ^^^ Int32.ofInt b).toInt
def zshl (a b : Int) : Int := (Int32.ofInt a <<< (Int32.ofInt b &&& 31)).toInt
def zshr (a b : Int) : Int := (Int32.ofInt a >>> (Int32.ofInt b &&& 31)).toInt
def zushr (a b : Int) : Int := ((Int32.ofInt a).toUInt32 >>> ((Int32.ofInt b).toUInt32 &&& Int32.toUInt32 31)).toInt32.toInt
def zland (a b : Int) : Int := (Int64.ofInt a &&& Int64.ofInt b).toInt
def zlcmp (a b : Int) : Int := if a > b then 1 else if a = b then 0 else -1
abbrev zS : Type := Option Prop × List (Option zV) × List zV × zM
/-- what the kinds are: 0 nothing, 1 an int, 2 a boolean, 3 a long, 4 a reference -/
def zn (p : Prop) (ls : List (Option zV)) (st : List zV) (μ : zM) : Option zS := some (some p, ls, st, μ)
def z0 (ls : List (Option zV)) (st : List zV) (μ : zM) : Option zS := some (none, ls, st, μ)
section
variable (fk : Nat → Nat → Nat) (rt : Nat → Nat → Nat → Nat × Nat) (ak : Nat → Nat) (al : Nat → Nat) (Γ : Option (Nat × (Nat → Int)))
/-- an instruction that only moves values -/
def zld (ls : List (Option zV)) (st : List zV) (μ : zM) (k : Nat) (q : zV → Bool) : Option zS := match znth ls k with
  | some v => if q v then z0 ls (v :: st) μ else none
  | none => none
def zqi : zV → Bool | .inl _ => true | _ => false
def zql : zV → Bool | .inr (.inl _) => true | _ => false
def zqr : zV → Bool | .inr (.inr _) => true | _ => false
def zsto (ls : List (Option zV)) (st : List zV) (μ : zM) (k : Nat) (q : zV → Bool) : Option zS := match st with
  | v :: r => if q v && decide (k < ls.length) then z0 (zput (zkl ls k) k (some v)) r μ else none
  | [] => none
def zstl (ls : List (Option zV)) (st : List zV) (μ : zM) (k : Nat) : Option zS := match st with
  | .inr (.inl v) :: r => if decide (k + 1 < ls.length) then z0 (zput (zput (zkl ls k) k (some (zL v))) (k + 1) none) r μ else none
  | _ => none
def zb1 (ls : List (Option zV)) (st : List zV) (μ : zM) (f : Int → Int → Int) : Option zS := match st with
  | .inl b :: .inl a :: r => z0 ls (zI (f a b) :: r) μ
  | _ => none
def zbd (ls : List (Option zV)) (st : List zV) (μ : zM) (f : Int → Int → Int) : Option zS := match st with
  | .inl b :: .inl a :: r => zn (b ≠ 0) ls (zI (f a b) :: r) μ
  | _ => none
def zl1 (ls : List (Option zV)) (st : List zV) (μ : zM) (f : Int → Int → Int) : Option zS := match st with
  | .inr (.inl b) :: .inr (.inl a) :: r => z0 ls (zL (f a b) :: r) μ
  | _ => none
def zldv (ls : List (Option zV)) (st : List zV) (μ : zM) (f : Int → Int → Int) : Option zS := match st with
  | .inr (.inl b) :: .inr (.inl a) :: r => zn (b ≠ 0) ls (zL (f a b) :: r) μ
  | _ => none
def zgf (ls : List (Option zV)) (st : List zV) (μ : zM) (a b : Nat) : Option zS := match st with
  | .inr (.inr (t, i)) :: r => if t = a then (match fk a b with
      | 1 => z0 ls (zI (μ a i b) :: r) μ
      | 2 => z0 ls (zI (μ a i b) :: r) μ
      | 3 => z0 ls (zL (μ a i b) :: r) μ
      | 4 => z0 ls (zR (rt a i b).1 (rt a i b).2 :: r) μ
      | _ => none) else none
  | _ => none
def zpf (ls : List (Option zV)) (st : List zV) (μ : zM) (a b : Nat) : Option zS := match st with
  | .inl v :: .inr (.inr (t, i)) :: r => if t = a then (match fk a b with
      | 1 => z0 ls r (zset μ a i b v)
      | 2 => zn (v = 0 ∨ v = 1) ls r (zset μ a i b v)
      | _ => none) else none
  | .inr (.inl v) :: .inr (.inr (t, i)) :: r => if t = a then (match fk a b with
      | 3 => z0 ls r (zset μ a i b v)
      | _ => none) else none
  | _ => none
def zial (ls : List (Option zV)) (st : List zV) (μ : zM) : Option zS := match st with
  | .inl k :: .inr (.inr (t, i)) :: r => (match ak t with
      | 1 => zn (0 ≤ k ∧ k < (al t : Int)) ls (zI (μ t i k.toNat) :: r) μ
      | 9 => (match Γ with
        | some (L, xs) => zn (0 ≤ k ∧ k < (L : Int)) ls (zI (xs k.toNat) :: r) μ
        | none => none)
      | _ => none)
  | _ => none
def zbal (ls : List (Option zV)) (st : List zV) (μ : zM) : Option zS := match st with
  | .inl k :: .inr (.inr (t, i)) :: r => (match ak t with
      | 2 => zn (0 ≤ k ∧ k < (al t : Int)) ls (zI (μ t i k.toNat) :: r) μ
      | _ => none)
  | _ => none
def zaal (ls : List (Option zV)) (st : List zV) (μ : zM) : Option zS := match st with
  | .inl k :: .inr (.inr (t, i)) :: r => (match ak t with
      | 3 => zn (0 ≤ k ∧ k < (al t : Int)) ls (zR (rt t i k.toNat).1 (rt t i k.toNat).2 :: r) μ
      | _ => none)
  | _ => none
def zias (ls : List (Option zV)) (st : List zV) (μ : zM) : Option zS := match st with
  | .inl v :: .inl k :: .inr (.inr (t, i)) :: r => (match ak t with
      | 1 => zn (0 ≤ k ∧ k < (al t : Int)) ls r (zset μ t i k.toNat v)
      | _ => none)
  | _ => none
def zbas (ls : List (Option zV)) (st : List zV) (μ : zM) : Option zS := match st with
  | .inl v :: .inl k :: .inr (.inr (t, i)) :: r => (match ak t with
      | 2 => zn ((0 ≤ k ∧ k < (al t : Int)) ∧ (v = 0 ∨ v = 1)) ls r (zset μ t i k.toNat v)
      | _ => none)
  | _ => none
def zlen (ls : List (Option zV)) (st : List zV) (μ : zM) : Option zS := match st with
  | .inr (.inr (t, _)) :: r => (match ak t with
      | 1 => z0 ls (zI (al t : Int) :: r) μ
      | 2 => z0 ls (zI (al t : Int) :: r) μ
      | 3 => z0 ls (zI (al t : Int) :: r) μ
      | 9 => (match Γ with
        | some (L, _) => z0 ls (zI (L : Int) :: r) μ
        | none => none)
      | _ => none)
  | _ => none
def zcat : zV → Nat | .inr (.inl _) => 2 | _ => 1
def zdup (ls : List (Option zV)) (st : List zV) (μ : zM) : Option zS := match st with
  | v :: r => if zcat v = 1 then z0 ls (v :: v :: r) μ else none
  | _ => none
def zpop (ls : List (Option zV)) (st : List zV) (μ : zM) : Option zS := match st with
  | v :: r => if zcat v = 1 then z0 ls r μ else none
  | _ => none
def zdup2 (ls : List (Option zV)) (st : List zV) (μ : zM) : Option zS := match st with
  | v :: w :: r => if zcat v = 1 then (if zcat w = 1 then z0 ls (v :: w :: v :: w :: r) μ else none) else none
  | _ => none
def zinc (ls : List (Option zV)) (st : List zV) (μ : zM) (k : Nat) (c : Int) : Option zS := match znth ls k with
  | some (.inl a) => z0 (zput (zkl ls k) k (some (zI (w32 (a + c))))) st μ
  | _ => none
def zcv (ls : List (Option zV)) (st : List zV) (μ : zM) : Option zS := match st with
  | .inl a :: r => z0 ls (zL a :: r) μ
  | _ => none
def zvc (ls : List (Option zV)) (st : List zV) (μ : zM) : Option zS := match st with
  | .inr (.inl a) :: r => z0 ls (zI (w32 a) :: r) μ
  | _ => none
def zneg (ls : List (Option zV)) (st : List zV) (μ : zM) : Option zS := match st with
  | .inl a :: r => z0 ls (zI (w32 (-a)) :: r) μ
  | _ => none
def zlcm (ls : List (Option zV)) (st : List zV) (μ : zM) : Option zS := match st with
  | .inr (.inl b) :: .inr (.inl a) :: r => z0 ls (zI (zlcmp a b) :: r) μ
  | _ => none
/-- instructions that go to the next one -/
def zsx (i : Instr) (a b : Nat) (c : Int) (ls : List (Option zV)) (st : List zV) (μ : zM) : Option zS := match i with
  | .aload k => zld ls st μ k zqr
  | .aload_n k => zld ls st μ k zqr
  | .iload k => zld ls st μ k zqi
  | .iload_n k => zld ls st μ k zqi
  | .lload k => zld ls st μ k zql
  | .lload_n k => zld ls st μ k zql
  | .astore k => zsto ls st μ k zqr
  | .astore_n k => zsto ls st μ k zqr
  | .istore k => zsto ls st μ k zqi
  | .istore_n k => zsto ls st μ k zqi
  | .lstore k => zstl ls st μ k
  | .lstore_n k => zstl ls st μ k
  | .iconst n => z0 ls (zI n :: st) μ
  | .bipush n => z0 ls (zI n :: st) μ
  | .sipush n => z0 ls (zI n :: st) μ
  | .ldc _ => z0 ls (zI c :: st) μ
  | .ldc_w _ => z0 ls (zI c :: st) μ
  | .ldc2_w _ => z0 ls (zL c :: st) μ
  | .lconst n => z0 ls (zL (n : Nat) :: st) μ
  | .getfield _ => zgf fk rt ls st μ a b
  | .putfield _ => zpf fk ls st μ a b
  | .iaload => zial ak al Γ ls st μ
  | .baload => zbal ak al ls st μ
  | .aaload => zaal rt ak al ls st μ
  | .iastore => zias ak al ls st μ
  | .bastore => zbas ak al ls st μ
  | .arraylength => zlen ak al Γ ls st μ
  | .dup => zdup ls st μ
  | .pop => zpop ls st μ
  | .dup2 => zdup2 ls st μ
  | .iinc k n => zinc ls st μ k n
  | .iadd => zb1 ls st μ (fun x y => w32 (x + y))
  | .isub => zb1 ls st μ (fun x y => w32 (x - y))
  | .imul => zb1 ls st μ (fun x y => w32 (x * y))
  | .iand => zb1 ls st μ zand
  | .ior => zb1 ls st μ zor
  | .ixor => zb1 ls st μ zxor
  | .ishl => zb1 ls st μ zshl
  | .ishr => zb1 ls st μ zshr
  | .iushr => zb1 ls st μ zushr
  | .idiv => zbd ls st μ (fun x y => w32 (x.tdiv y))
  | .irem => zbd ls st μ (fun x y => x.tmod y)
  | .ineg => zneg ls st μ
  | .i2l => zcv ls st μ
  | .l2i => zvc ls st μ
  | .ladd => zl1 ls st μ (fun x y => w64 (x + y))
  | .lmul => zl1 ls st μ (fun x y => w64 (x * y))
  | .land => zl1 ls st μ zland
  | .ldiv => zldv ls st μ (fun x y => w64 (x.tdiv y))
  | .lrem => zldv ls st μ (fun x y => x.tmod y)
  | .lcmp => zlcm ls st μ
  | _ => none
def zic (c : ClassFile.Cond) (a b : Int) : Prop := match c with
  | .eq => a = b
  | .ne => a ≠ b
  | .lt => a < b
  | .ge => a ≥ b
  | .gt => a > b
  | .le => a ≤ b
/-- branches: the condition, how far, what stays on the stack -/
def zbx (i : Instr) (st : List zV) : Option (Prop × Int × List zV) := match i with
  | .if_icmp c o => (match st with
    | .inl y :: .inl x :: r => some (zic c x y, o, r)
    | _ => none)
  | .ifCond c o => (match st with
    | .inl x :: r => some (zic c x 0, o, r)
    | _ => none)
  | _ => none
/-- the arguments (first to last) and what is below them -/
def ztake : Nat → List zV → List zV → Option (List zV × List zV)
  | 0, acc, st => some (acc, st)
  | n + 1, acc, v :: st => ztake n (v :: acc) st
  | _ + 1, _, [] => none
def zsum : List zV → Nat
  | [] => 0
  | v :: r => zcat v + zsum r
def zexp : List zV → List (Option zV)
  | [] => []
  | .inr (.inl a) :: r => some (zL a) :: none :: zexp r
  | v :: r => some v :: zexp r
def zpad (n : Nat) (l : List (Option zV)) : List (Option zV) := l ++ List.replicate (n - l.length) none
def zclean (Γ : Option (Nat × (Nat → Int))) (vs : List zV) : Bool := match Γ with
  | none => true
  | some _ => vs.all fun v => match v with
    | .inr (.inr (t, _)) => decide (ak t ≠ 9)
    | _ => true
/-- what is no method of ours: the copying of a row, Math.abs, max, min -/
def zprim (a : Nat) : Bool := Nat.beq a 0 || Nat.beq a 2 || Nat.beq a 3 || Nat.beq a 4
def zmin (x y : Int) : Int := if y < x then y else x
def zmax (x y : Int) : Int := if x < y then y else x
def zabs (x : Int) : Int := if 0 ≤ x then x else w32 (0 - x)
/-- a call: whom, with what, what stays; c is the receiver's kind, or less than 0 -/
def zcx (i : Instr) (a b : Nat) (c : Int) (st : List zV) : Option (Nat × List zV × List zV) := match i with
  | .invokevirtual _ => if zprim a then none else (match ztake b [] st with
    | some (.inr (.inr (t, j)) :: vs, r) => if (t : Int) = c then (if zsum r ≤ 8 then (if zclean ak Γ (zR t j :: vs) then some (a, zR t j :: vs, r) else none) else none) else none
    | _ => none)
  | .invokestatic _ => if zprim a then none else (match ztake b [] st with
    | some (vs, r) => if zsum r ≤ 8 then (if zclean ak Γ vs then some (a, vs, r) else none) else none
    | _ => none)
  | _ => none
def zswt (go : Int → Prop) (x : Int) : Int → List Int → Prop
  | _, [] => True
  | j, o :: r => (x = j → go o) ∧ zswt go x (j + 1) r
def zlks (go : Int → Prop) (x : Int) (d : Int) : List (Int × Int) → Prop
  | [] => go d
  | (k, o) :: r => (x = k → go o) ∧ (x ≠ k → zlks go x d r)
/-- what is left: jumps, switches, ends, the copying of a row (mk: what the method answers: 0 nothing, 1 an int, 2 a boolean, 4 a reference) -/
def zox (go : Int → List zV → Prop) (nx : List zV → zM → Prop) (Q : Option zV → zM → Prop) (mk : Nat) (i : Instr) (a : Nat) (st : List zV) (μ : zM) : Prop := match i with
  | .goto o => go o st
  | .ifnonnull o => (match st with
    | .inr (.inr _) :: r => go o r
    | _ => False)
  | .tableswitch d lo hi os => (match st with
    | .inl x :: r => ((x < lo ∨ hi < x) → go d r) ∧ zswt (fun o => go o r) x lo os.toList
    | _ => False)
  | .lookupswitch d ps => (match st with
    | .inl x :: r => zlks (fun o => go o r) x d ps.toList
    | _ => False)
  | .return_ => (match st with
    | [] => if mk = 0 then Q none μ else False
    | _ => False)
  | .ireturn => (match st with
    | [.inl v] => (match mk with
      | 1 => Q (some (zI v)) μ
      | 2 => (v = 0 ∨ v = 1) ∧ Q (some (zI v)) μ
      | _ => False)
    | _ => False)
  | .areturn => (match st with
    | [.inr (.inr (t, j))] => if mk = 4 then Q (some (zR t j)) μ else False
    | _ => False)
  | .invokestatic _ => (match a with
    | 0 => (match st with
      | .inl n :: .inl dp :: .inr (.inr (u, j)) :: .inl sp :: .inr (.inr (t, k)) :: r => (match ak t, ak u with
        | 1, 1 => if zsum r ≤ 8 then ((0 ≤ n ∧ 0 ≤ sp ∧ 0 ≤ dp ∧ sp + n ≤ (al t : Int) ∧ dp + n ≤ (al u : Int)) ∧ nx r (zcpy μ t k sp.toNat u j dp.toNat n.toNat)) else False
        | _, _ => False)
      | _ => False)
    | 2 => (match st with
      | .inl x :: r => if zsum r ≤ 8 then nx (zI (zabs x) :: r) μ else False
      | _ => False)
    | 3 => (match st with
      | .inl y :: .inl x :: r => if zsum r ≤ 8 then nx (zI (zmax x y) :: r) μ else False
      | _ => False)
    | 4 => (match st with
      | .inl y :: .inl x :: r => if zsum r ≤ 8 then nx (zI (zmin x y) :: r) μ else False
      | _ => False)
    | _ => False)
  | _ => False
end
end
section
/-! TABLES, by program: kinds of objects, their fields, the methods' code as it is decoded -/
def zgd {α : Type} : List α → Nat → α → α
  | [], _, d => d
  | a :: _, 0, _ => a
  | _ :: l, n + 1, d => zgd l n d
def zfkl : List (List Nat) := [[], [4, 4, 4, 4, 4, 4, 4, 4, 1], [4, 4, 1, 1, 1, 1, 1], [2, 1, 1, 1, 1, 1, 4, 4, 4, 4, 4], [4, 1, 1, 1, 4, 4, 4, 4, 4], [4, 1, 1], [4, 4, 1], [4, 4, 4, 4, 4, 4, 4, 1, 1, 1], [4, 4, 1], [4, 4, 4, 4, 4, 1, 4, 4, 3, 4, 1, 1, 4, 1, 4, 1, 1, 1, 1, 1, 1, 1, 1, 4, 2, 4, 4], [], [], [], [], [], [], [], [], [], [], [], [], [], [], [], [], [], [], [], [], [], [], [], [], [], [], [], [], [], [], [], [], [], []]
def zfk (t k : Nat) : Nat := zgd (zgd zfkl t []) k 0
def zakl : List Nat := [9, 0, 0, 0, 0, 0, 0, 0, 0, 0, 1, 1, 1, 1, 1, 1, 1, 1, 1, 1, 1, 3, 3, 1, 1, 1, 1, 1, 1, 1, 1, 1, 1, 1, 1, 1, 1, 2, 1, 1, 1, 1, 1, 1]
def zak (t : Nat) : Nat := zgd zakl t 0
def zall : List Nat := [0, 0, 0, 0, 0, 0, 0, 0, 0, 0, 6, 72, 72, 15, 24, 6, 5, 5, 5, 20, 240, 30, 2, 2, 6, 6, 20, 20, 20, 72, 10, 42, 448, 200, 44, 1320, 90, 2, 240, 12, 60, 10, 6, 36]
def zal (t : Nat) : Nat := zgd zall t 0
def zrtl : List (List (Nat × Nat × Nat)) := [[], [(2, 0, 0), (3, 0, 0), (4, 0, 0), (4, 0, 1), (5, 0, 0), (6, 0, 0), (7, 0, 0), (8, 0, 0), (0, 0, 0)], [(3, 0, 1), (20, 0, 0), (0, 0, 0), (0, 0, 0), (0, 0, 0), (0, 0, 0), (0, 0, 0)], [(0, 0, 0), (0, 0, 0), (0, 0, 0), (0, 0, 0), (0, 0, 0), (0, 0, 0), (10, 1, 0), (11, 1, 0), (12, 1, 0), (13, 1, 0), (14, 1, 0)], [(3, 0, 0), (0, 0, 0), (0, 0, 0), (0, 0, 0), (15, 1, 0), (16, 1, 0), (17, 1, 0), (18, 1, 0), (19, 1, 0)], [(21, 0, 0), (0, 0, 0), (0, 0, 0)], [(22, 0, 0), (23, 0, 0), (0, 0, 0)], [(24, 0, 0), (25, 0, 0), (26, 0, 0), (27, 0, 0), (28, 0, 0), (29, 0, 0), (30, 0, 0), (0, 0, 0), (0, 0, 0), (0, 0, 0)], [(31, 0, 0), (32, 0, 0), (0, 0, 0)], [(33, 0, 0), (33, 0, 1), (34, 0, 0), (34, 0, 1), (35, 0, 0), (0, 0, 0), (36, 0, 0), (37, 0, 0), (0, 0, 0), (38, 0, 0), (0, 0, 0), (0, 0, 0), (39, 0, 0), (0, 0, 0), (40, 0, 0), (0, 0, 0), (0, 0, 0), (0, 0, 0), (0, 0, 0), (0, 0, 0), (0, 0, 0), (0, 0, 0), (0, 0, 0), (41, 0, 0), (0, 0, 0), (42, 0, 0), (43, 0, 0)], [], [], [], [], [], [], [], [], [], [], [], [], [], [], [], [], [], [], [], [], [], [], [], [], [], [], [], [], [], [], [], [], [], []]
def zrbl : List Nat := [0, 0, 0, 0, 0, 0, 0, 0, 0, 0, 0, 0, 0, 0, 0, 0, 0, 0, 0, 0, 0, 2, 32, 0, 0, 0, 0, 0, 0, 0, 0, 0, 0, 0, 0, 0, 0, 0, 0, 0, 0, 0, 0, 0]
def zrt (t i k : Nat) : Nat × Nat := match zak t with
  | 3 => (4, zgd zrbl t 0 + k)
  | _ => match zgd (zgd zrtl t []) k (0, 0, 0) with
    | (u, 0, c) => (u, c)
    | (u, _, _) => (u, i)
def zcnl : List Nat := [0, 1, 1, 2, 34, 1, 1, 1, 1, 1, 2, 2, 2, 2, 2, 34, 34, 34, 34, 34, 1, 1, 1, 1, 1, 1, 1, 1, 1, 1, 1, 1, 1, 2, 2, 1, 1, 1, 1, 1, 1, 1, 1, 1]
/-- how many objects of a kind there are -/
def zcn (t : Nat) : Nat := zgd zcnl t 0
def zcil : List Nat := [99, 7, 5, 0, 2, 4, 1, 6, 3, 8, 99, 99, 99, 99, 99, 99, 99, 99, 99, 99, 99, 99, 99, 99, 99, 99, 99, 99, 99, 99, 99, 99, 99, 99, 99, 99, 99, 99, 99, 99, 99, 99, 99, 99]
/-- which of vwCl a kind is -/
def zci (t : Nat) : Nat := zgd zcil t 99
def zc_J6_bitCount_0f7a4 : List zE := [(0, 1, .iload_n 0, 0, 0, 0), (1, 1, .iload_n 0, 0, 0, 0), (2, 1, .iconst 1, 0, 0, 0), (3, 1, .iushr, 0, 0, 0), (4, 3, .ldc_w 265, 0, 0, 1431655765), (7, 1, .iand, 0, 0, 0), (8, 1, .isub, 0, 0, 0), (9, 1, .istore_n 0, 0, 0, 0), (10, 1, .iload_n 0, 0, 0, 0), (11, 3, .ldc_w 266, 0, 0, 858993459), (14, 1, .iand, 0, 0, 0), (15, 1, .iload_n 0, 0, 0, 0), (16, 1, .iconst 2, 0, 0, 0), (17, 1, .iushr, 0, 0, 0), (18, 3, .ldc_w 266, 0, 0, 858993459), (21, 1, .iand, 0, 0, 0), (22, 1, .iadd, 0, 0, 0), (23, 1, .istore_n 0, 0, 0, 0), (24, 1, .iload_n 0, 0, 0, 0), (25, 1, .iload_n 0, 0, 0, 0), (26, 1, .iconst 4, 0, 0, 0), (27, 1, .iushr, 0, 0, 0), (28, 1, .iadd, 0, 0, 0), (29, 3, .ldc_w 267, 0, 0, 252645135), (32, 1, .iand, 0, 0, 0), (33, 1, .istore_n 0, 0, 0, 0), (34, 1, .iload_n 0, 0, 0, 0), (35, 1, .iload_n 0, 0, 0, 0), (36, 2, .bipush 8, 0, 0, 0), (38, 1, .iushr, 0, 0, 0), (39, 1, .iadd, 0, 0, 0), (40, 1, .istore_n 0, 0, 0, 0), (41, 1, .iload_n 0, 0, 0, 0), (42, 1, .iload_n 0, 0, 0, 0), (43, 2, .bipush 16, 0, 0, 0), (45, 1, .iushr, 0, 0, 0), (46, 1, .iadd, 0, 0, 0), (47, 1, .istore_n 0, 0, 0, 0), (48, 1, .iload_n 0, 0, 0, 0), (49, 2, .bipush 63, 0, 0, 0), (51, 1, .iand, 0, 0, 0), (52, 1, .ireturn, 0, 0, 0)]
abbrev m_J6_bitCount_0f7a4 : Nat := 1
def zc_J9_abs_0f7a4 : List zE := [(0, 1, .iload_n 0, 0, 0, 0), (1, 3, .ifCond .ge 8, 0, 0, 0), (4, 1, .iload_n 0, 0, 0, 0), (5, 1, .ineg, 0, 0, 0), (6, 3, .goto 4, 0, 0, 0), (9, 1, .iload_n 0, 0, 0, 0), (10, 1, .ireturn, 0, 0, 0)]
abbrev m_J9_abs_0f7a4 : Nat := 2
def zc_J9_max_7cf53 : List zE := [(0, 1, .iload_n 0, 0, 0, 0), (1, 1, .iload_n 1, 0, 0, 0), (2, 3, .if_icmp .lt 7, 0, 0, 0), (5, 1, .iload_n 0, 0, 0, 0), (6, 3, .goto 4, 0, 0, 0), (9, 1, .iload_n 1, 0, 0, 0), (10, 1, .ireturn, 0, 0, 0)]
abbrev m_J9_max_7cf53 : Nat := 3
def zc_J9_min_7cf53 : List zE := [(0, 1, .iload_n 0, 0, 0, 0), (1, 1, .iload_n 1, 0, 0, 0), (2, 3, .if_icmp .gt 7, 0, 0, 0), (5, 1, .iload_n 0, 0, 0, 0), (6, 3, .goto 4, 0, 0, 0), (9, 1, .iload_n 1, 0, 0, 0), (10, 1, .ireturn, 0, 0, 0)]
abbrev m_J9_min_7cf53 : Nat := 4
def zc_J7_fill_53178 : List zE := [(0, 1, .iconst 0, 0, 0, 0), (1, 1, .istore_n 2, 0, 0, 0), (2, 1, .aload_n 0, 0, 0, 0), (3, 1, .arraylength, 0, 0, 0), (4, 1, .istore_n 3, 0, 0, 0), (5, 1, .iload_n 2, 0, 0, 0), (6, 1, .iload_n 3, 0, 0, 0), (7, 3, .if_icmp .ge 13, 0, 0, 0), (10, 1, .aload_n 0, 0, 0, 0), (11, 1, .iload_n 2, 0, 0, 0), (12, 1, .iload_n 1, 0, 0, 0), (13, 1, .iastore, 0, 0, 0), (14, 3, .iinc 2 1, 0, 0, 0), (17, 3, .goto (-12), 0, 0, 0), (20, 1, .return_, 0, 0, 0)]
abbrev m_J7_fill_53178 : Nat := 5
def zc_X0_alike : List zE := [(0, 1, .iconst 0, 0, 0, 0), (1, 2, .istore 4, 0, 0, 0), (3, 1, .aload_n 0, 0, 0, 0), (4, 3, .getfield 9, 4, 0, 0), (7, 1, .iload_n 1, 0, 0, 0), (8, 3, .invokevirtual 15, 16, 2, 3), (11, 2, .istore 5, 0, 0, 0), (13, 1, .iconst 0, 0, 0, 0), (14, 2, .istore 6, 0, 0, 0), (16, 2, .iload 6, 0, 0, 0), (18, 2, .iload 5, 0, 0, 0), (20, 3, .if_icmp .ge 31, 0, 0, 0), (23, 1, .aload_n 0, 0, 0, 0), (24, 1, .iload_n 1, 0, 0, 0), (25, 2, .iload 6, 0, 0, 0), (27, 3, .invokevirtual 21, 37, 3, 4), (30, 1, .aload_n 0, 0, 0, 0), (31, 1, .iload_n 2, 0, 0, 0), (32, 2, .iload 6, 0, 0, 0), (34, 1, .iload_n 3, 0, 0, 0), (35, 1, .iadd, 0, 0, 0), (36, 3, .invokevirtual 25, 38, 3, 4), (39, 3, .if_icmp .ne 6, 0, 0, 0), (42, 3, .iinc 4 1, 0, 0, 0), (45, 3, .iinc 6 1, 0, 0, 0), (48, 3, .goto (-32), 0, 0, 0), (51, 2, .iload 4, 0, 0, 0), (53, 1, .ireturn, 0, 0, 0)]
abbrev m_X0_alike : Nat := 6
def zc_X0_bestShift : List zE := [(0, 1, .iconst 0, 0, 0, 0), (1, 1, .istore_n 3, 0, 0, 0), (2, 1, .iconst (-1), 0, 0, 0), (3, 2, .istore 4, 0, 0, 0), (5, 1, .aload_n 0, 0, 0, 0), (6, 3, .getfield 9, 4, 0, 0), (9, 1, .iload_n 2, 0, 0, 0), (10, 3, .invokevirtual 15, 16, 2, 3), (13, 2, .istore 5, 0, 0, 0), (15, 1, .iconst 0, 0, 0, 0), (16, 2, .istore 6, 0, 0, 0), (18, 2, .iload 6, 0, 0, 0), (20, 2, .iload 5, 0, 0, 0), (22, 3, .if_icmp .ge 33, 0, 0, 0), (25, 1, .aload_n 0, 0, 0, 0), (26, 1, .iload_n 1, 0, 0, 0), (27, 1, .iload_n 2, 0, 0, 0), (28, 2, .iload 6, 0, 0, 0), (30, 3, .invokestatic 28, 6, 4, (-1)), (33, 2, .istore 7, 0, 0, 0), (35, 2, .iload 7, 0, 0, 0), (37, 2, .iload 4, 0, 0, 0), (39, 3, .if_icmp .le 10, 0, 0, 0), (42, 2, .iload 7, 0, 0, 0), (44, 2, .istore 4, 0, 0, 0), (46, 2, .iload 6, 0, 0, 0), (48, 1, .istore_n 3, 0, 0, 0), (49, 3, .iinc 6 1, 0, 0, 0), (52, 3, .goto (-34), 0, 0, 0), (55, 1, .iload_n 3, 0, 0, 0), (56, 1, .ireturn, 0, 0, 0)]
abbrev m_X0_bestShift : Nat := 7
def zc_X0_barsToTurn : List zE := [(0, 1, .iconst 0, 0, 0, 0), (1, 2, .istore 4, 0, 0, 0), (3, 1, .aload_n 0, 0, 0, 0), (4, 3, .getfield 9, 4, 0, 0), (7, 1, .iload_n 1, 0, 0, 0), (8, 3, .invokevirtual 15, 16, 2, 3), (11, 2, .istore 5, 0, 0, 0), (13, 1, .iconst 0, 0, 0, 0), (14, 2, .istore 6, 0, 0, 0), (16, 2, .iload 6, 0, 0, 0), (18, 2, .iload 5, 0, 0, 0), (20, 3, .if_icmp .ge 88, 0, 0, 0), (23, 1, .aload_n 0, 0, 0, 0), (24, 1, .iload_n 2, 0, 0, 0), (25, 2, .iload 6, 0, 0, 0), (27, 1, .iload_n 3, 0, 0, 0), (28, 1, .iadd, 0, 0, 0), (29, 3, .invokevirtual 25, 38, 3, 4), (32, 2, .istore 7, 0, 0, 0), (34, 1, .aload_n 0, 0, 0, 0), (35, 1, .iload_n 1, 0, 0, 0), (36, 2, .iload 6, 0, 0, 0), (38, 3, .invokevirtual 21, 37, 3, 4), (41, 2, .iload 7, 0, 0, 0), (43, 3, .if_icmp .ne 6, 0, 0, 0), (46, 3, .goto 56, 0, 0, 0), (49, 1, .aload_n 0, 0, 0, 0), (50, 1, .iload_n 1, 0, 0, 0), (51, 2, .iload 6, 0, 0, 0), (53, 3, .invokevirtual 34, 35, 3, 4), (56, 3, .ifCond .eq 16, 0, 0, 0), (59, 1, .aload_n 0, 0, 0, 0), (60, 3, .getfield 9, 4, 0, 0), (63, 1, .iload_n 1, 0, 0, 0), (64, 2, .iload 6, 0, 0, 0), (66, 3, .invokevirtual 38, 17, 3, 3), (69, 3, .goto 13, 0, 0, 0), (72, 1, .aload_n 0, 0, 0, 0), (73, 3, .getfield 9, 4, 0, 0), (76, 1, .iload_n 1, 0, 0, 0), (77, 2, .iload 6, 0, 0, 0), (79, 3, .invokevirtual 41, 18, 3, 3), (82, 2, .istore 8, 0, 0, 0), (84, 2, .iload 8, 0, 0, 0), (86, 2, .iload 7, 0, 0, 0), (88, 3, .if_icmp .eq 5, 0, 0, 0), (91, 1, .iconst (-1), 0, 0, 0), (92, 1, .ireturn, 0, 0, 0), (93, 2, .iload 4, 0, 0, 0), (95, 1, .iconst 1, 0, 0, 0), (96, 2, .iload 6, 0, 0, 0), (98, 1, .ishl, 0, 0, 0), (99, 1, .ior, 0, 0, 0), (100, 2, .istore 4, 0, 0, 0), (102, 3, .iinc 6 1, 0, 0, 0), (105, 3, .goto (-89), 0, 0, 0), (108, 2, .iload 4, 0, 0, 0), (110, 1, .ireturn, 0, 0, 0)]
abbrev m_X0_barsToTurn : Nat := 8
def zc_X1_clear : List zE := [(0, 1, .aload_n 0, 0, 0, 0), (1, 1, .iconst 0, 0, 0, 0), (2, 3, .putfield 27, 3, 0, 0), (5, 1, .aload_n 0, 0, 0, 0), (6, 1, .iconst 0, 0, 0, 0), (7, 3, .putfield 31, 3, 1, 0), (10, 1, .aload_n 0, 0, 0, 0), (11, 1, .iconst 0, 0, 0, 0), (12, 3, .putfield 35, 3, 2, 0), (15, 1, .aload_n 0, 0, 0, 0), (16, 1, .iconst 0, 0, 0, 0), (17, 3, .putfield 38, 3, 3, 0), (20, 1, .aload_n 0, 0, 0, 0), (21, 1, .iconst 0, 0, 0, 0), (22, 3, .putfield 41, 3, 4, 0), (25, 1, .aload_n 0, 0, 0, 0), (26, 1, .iconst 0, 0, 0, 0), (27, 3, .putfield 44, 3, 5, 0), (30, 1, .aload_n 0, 0, 0, 0), (31, 3, .getfield 9, 3, 6, 0), (34, 1, .iconst 0, 0, 0, 0), (35, 3, .invokestatic 47, 5, 2, (-1)), (38, 1, .aload_n 0, 0, 0, 0), (39, 3, .getfield 15, 3, 7, 0), (42, 1, .iconst 0, 0, 0, 0), (43, 3, .invokestatic 47, 5, 2, (-1)), (46, 1, .aload_n 0, 0, 0, 0), (47, 3, .getfield 18, 3, 8, 0), (50, 1, .iconst 0, 0, 0, 0), (51, 3, .invokestatic 47, 5, 2, (-1)), (54, 1, .return_, 0, 0, 0)]
abbrev m_X1_clear : Nat := 9
def zc_X1_become : List zE := [(0, 1, .aload_n 0, 0, 0, 0), (1, 1, .aload_n 1, 0, 0, 0), (2, 3, .getfield 27, 3, 0, 0), (5, 3, .putfield 27, 3, 0, 0), (8, 1, .aload_n 0, 0, 0, 0), (9, 1, .aload_n 1, 0, 0, 0), (10, 3, .getfield 31, 3, 1, 0), (13, 3, .putfield 31, 3, 1, 0), (16, 1, .aload_n 0, 0, 0, 0), (17, 1, .aload_n 1, 0, 0, 0), (18, 3, .getfield 35, 3, 2, 0), (21, 3, .putfield 35, 3, 2, 0), (24, 1, .aload_n 0, 0, 0, 0), (25, 1, .aload_n 1, 0, 0, 0), (26, 3, .getfield 38, 3, 3, 0), (29, 3, .putfield 38, 3, 3, 0), (32, 1, .aload_n 0, 0, 0, 0), (33, 1, .aload_n 1, 0, 0, 0), (34, 3, .getfield 41, 3, 4, 0), (37, 3, .putfield 41, 3, 4, 0), (40, 1, .aload_n 0, 0, 0, 0), (41, 1, .aload_n 1, 0, 0, 0), (42, 3, .getfield 44, 3, 5, 0), (45, 3, .putfield 44, 3, 5, 0), (48, 1, .aload_n 1, 0, 0, 0), (49, 3, .getfield 9, 3, 6, 0), (52, 1, .aload_n 0, 0, 0, 0), (53, 3, .getfield 9, 3, 6, 0), (56, 3, .invokestatic 53, 100, 2, (-1)), (59, 1, .aload_n 1, 0, 0, 0), (60, 3, .getfield 15, 3, 7, 0), (63, 1, .aload_n 0, 0, 0, 0), (64, 3, .getfield 15, 3, 7, 0), (67, 3, .invokestatic 53, 100, 2, (-1)), (70, 1, .aload_n 1, 0, 0, 0), (71, 3, .getfield 18, 3, 8, 0), (74, 1, .aload_n 0, 0, 0, 0), (75, 3, .getfield 18, 3, 8, 0), (78, 3, .invokestatic 53, 100, 2, (-1)), (81, 1, .aload_n 1, 0, 0, 0), (82, 3, .getfield 21, 3, 9, 0), (85, 1, .aload_n 0, 0, 0, 0), (86, 3, .getfield 21, 3, 9, 0), (89, 3, .invokestatic 53, 100, 2, (-1)), (92, 1, .aload_n 1, 0, 0, 0), (93, 3, .getfield 24, 3, 10, 0), (96, 1, .aload_n 0, 0, 0, 0), (97, 3, .getfield 24, 3, 10, 0), (100, 3, .invokestatic 53, 100, 2, (-1)), (103, 1, .return_, 0, 0, 0)]
abbrev m_X1_become : Nat := 10
def zc_X1_hasRoom : List zE := [(0, 1, .iload_n 1, 0, 0, 0), (1, 3, .ifCond .lt 15, 0, 0, 0), (4, 1, .iload_n 1, 0, 0, 0), (5, 1, .aload_n 0, 0, 0, 0), (6, 3, .getfield 35, 3, 2, 0), (9, 3, .if_icmp .ge 7, 0, 0, 0), (12, 1, .iconst 1, 0, 0, 0), (13, 3, .goto 4, 0, 0, 0), (16, 1, .iconst 0, 0, 0, 0), (17, 1, .ireturn, 0, 0, 0)]
abbrev m_X1_hasRoom : Nat := 11
def zc_X1_hasBar : List zE := [(0, 1, .aload_n 0, 0, 0, 0), (1, 1, .iload_n 1, 0, 0, 0), (2, 3, .invokevirtual 59, 11, 2, 3), (5, 3, .ifCond .eq 20, 0, 0, 0), (8, 1, .iload_n 2, 0, 0, 0), (9, 3, .ifCond .lt 16, 0, 0, 0), (12, 1, .iload_n 2, 0, 0, 0), (13, 1, .aload_n 0, 0, 0, 0), (14, 1, .iload_n 1, 0, 0, 0), (15, 3, .invokevirtual 63, 16, 2, 3), (18, 3, .if_icmp .ge 7, 0, 0, 0), (21, 1, .iconst 1, 0, 0, 0), (22, 3, .goto 4, 0, 0, 0), (25, 1, .iconst 0, 0, 0, 0), (26, 1, .ireturn, 0, 0, 0)]
abbrev m_X1_hasBar : Nat := 12
def zc_X1_hasPerson : List zE := [(0, 1, .iload_n 1, 0, 0, 0), (1, 3, .ifCond .lt 15, 0, 0, 0), (4, 1, .iload_n 1, 0, 0, 0), (5, 1, .aload_n 0, 0, 0, 0), (6, 3, .getfield 38, 3, 3, 0), (9, 3, .if_icmp .ge 7, 0, 0, 0), (12, 1, .iconst 1, 0, 0, 0), (13, 3, .goto 4, 0, 0, 0), (16, 1, .iconst 0, 0, 0, 0), (17, 1, .ireturn, 0, 0, 0)]
abbrev m_X1_hasPerson : Nat := 13
def zc_X1_hasWall : List zE := [(0, 1, .iload_n 1, 0, 0, 0), (1, 3, .ifCond .lt 15, 0, 0, 0), (4, 1, .iload_n 1, 0, 0, 0), (5, 1, .aload_n 0, 0, 0, 0), (6, 3, .getfield 41, 3, 4, 0), (9, 3, .if_icmp .ge 7, 0, 0, 0), (12, 1, .iconst 1, 0, 0, 0), (13, 3, .goto 4, 0, 0, 0), (16, 1, .iconst 0, 0, 0, 0), (17, 1, .ireturn, 0, 0, 0)]
abbrev m_X1_hasWall : Nat := 14
def zc_X1_hasUnder : List zE := [(0, 1, .aload_n 0, 0, 0, 0), (1, 3, .getfield 44, 3, 5, 0), (4, 1, .iload_n 1, 0, 0, 0), (5, 3, .invokestatic 67, 102, 2, (-1)), (8, 1, .ireturn, 0, 0, 0)]
abbrev m_X1_hasUnder : Nat := 15
def zc_X1_barsOf : List zE := [(0, 1, .aload_n 0, 0, 0, 0), (1, 3, .getfield 9, 3, 6, 0), (4, 1, .iload_n 1, 0, 0, 0), (5, 3, .invokestatic 71, 98, 2, (-1)), (8, 1, .ireturn, 0, 0, 0)]
abbrev m_X1_barsOf : Nat := 16
def zc_X1_paperOf : List zE := [(0, 1, .aload_n 0, 0, 0, 0), (1, 3, .getfield 15, 3, 7, 0), (4, 1, .iload_n 1, 0, 0, 0), (5, 2, .bipush 12, 0, 0, 0), (7, 1, .imul, 0, 0, 0), (8, 1, .iload_n 2, 0, 0, 0), (9, 1, .iadd, 0, 0, 0), (10, 3, .invokestatic 71, 98, 2, (-1)), (13, 1, .ireturn, 0, 0, 0)]
abbrev m_X1_paperOf : Nat := 17
def zc_X1_underOf : List zE := [(0, 1, .aload_n 0, 0, 0, 0), (1, 3, .getfield 18, 3, 8, 0), (4, 1, .iload_n 1, 0, 0, 0), (5, 2, .bipush 12, 0, 0, 0), (7, 1, .imul, 0, 0, 0), (8, 1, .iload_n 2, 0, 0, 0), (9, 1, .iadd, 0, 0, 0), (10, 3, .invokestatic 71, 98, 2, (-1)), (13, 1, .ireturn, 0, 0, 0)]
abbrev m_X1_underOf : Nat := 18
def zc_X1_personPart : List zE := [(0, 1, .aload_n 0, 0, 0, 0), (1, 3, .getfield 21, 3, 9, 0), (4, 1, .iload_n 1, 0, 0, 0), (5, 1, .iconst 3, 0, 0, 0), (6, 1, .imul, 0, 0, 0), (7, 1, .iload_n 2, 0, 0, 0), (8, 1, .iadd, 0, 0, 0), (9, 3, .invokestatic 71, 98, 2, (-1)), (12, 1, .ireturn, 0, 0, 0)]
abbrev m_X1_personPart : Nat := 19
def zc_X1_wallPart : List zE := [(0, 1, .aload_n 0, 0, 0, 0), (1, 3, .getfield 24, 3, 10, 0), (4, 1, .iload_n 1, 0, 0, 0), (5, 1, .iconst 4, 0, 0, 0), (6, 1, .imul, 0, 0, 0), (7, 1, .iload_n 2, 0, 0, 0), (8, 1, .iadd, 0, 0, 0), (9, 3, .invokestatic 71, 98, 2, (-1)), (12, 1, .ireturn, 0, 0, 0)]
abbrev m_X1_wallPart : Nat := 20
def zc_X1_putPaper : List zE := [(0, 1, .aload_n 0, 0, 0, 0), (1, 3, .getfield 15, 3, 7, 0), (4, 1, .iload_n 1, 0, 0, 0), (5, 2, .bipush 12, 0, 0, 0), (7, 1, .imul, 0, 0, 0), (8, 1, .iload_n 2, 0, 0, 0), (9, 1, .iadd, 0, 0, 0), (10, 1, .iload_n 3, 0, 0, 0), (11, 3, .invokestatic 75, 99, 3, (-1)), (14, 1, .return_, 0, 0, 0)]
abbrev m_X1_putPaper : Nat := 21
def zc_X1_putUnder : List zE := [(0, 1, .aload_n 0, 0, 0, 0), (1, 3, .getfield 18, 3, 8, 0), (4, 1, .iload_n 1, 0, 0, 0), (5, 2, .bipush 12, 0, 0, 0), (7, 1, .imul, 0, 0, 0), (8, 1, .iload_n 2, 0, 0, 0), (9, 1, .iadd, 0, 0, 0), (10, 1, .iload_n 3, 0, 0, 0), (11, 3, .invokestatic 75, 99, 3, (-1)), (14, 1, .return_, 0, 0, 0)]
abbrev m_X1_putUnder : Nat := 22
def zc_X1_putPerson : List zE := [(0, 1, .aload_n 0, 0, 0, 0), (1, 3, .getfield 21, 3, 9, 0), (4, 1, .aload_n 0, 0, 0, 0), (5, 3, .getfield 38, 3, 3, 0), (8, 1, .iconst 3, 0, 0, 0), (9, 1, .imul, 0, 0, 0), (10, 1, .iload_n 1, 0, 0, 0), (11, 1, .iadd, 0, 0, 0), (12, 1, .iload_n 2, 0, 0, 0), (13, 3, .invokestatic 75, 99, 3, (-1)), (16, 1, .return_, 0, 0, 0)]
abbrev m_X1_putPerson : Nat := 23
def zc_X1_putWall : List zE := [(0, 1, .aload_n 0, 0, 0, 0), (1, 3, .getfield 24, 3, 10, 0), (4, 1, .aload_n 0, 0, 0, 0), (5, 3, .getfield 41, 3, 4, 0), (8, 1, .iconst 4, 0, 0, 0), (9, 1, .imul, 0, 0, 0), (10, 1, .iload_n 1, 0, 0, 0), (11, 1, .iadd, 0, 0, 0), (12, 1, .iload_n 2, 0, 0, 0), (13, 3, .invokestatic 75, 99, 3, (-1)), (16, 1, .return_, 0, 0, 0)]
abbrev m_X1_putWall : Nat := 24
def zc_X1_addRoom : List zE := [(0, 1, .aload_n 0, 0, 0, 0), (1, 3, .getfield 9, 3, 6, 0), (4, 1, .aload_n 0, 0, 0, 0), (5, 3, .getfield 35, 3, 2, 0), (8, 1, .iload_n 1, 0, 0, 0), (9, 3, .invokestatic 75, 99, 3, (-1)), (12, 1, .aload_n 0, 0, 0, 0), (13, 1, .dup, 0, 0, 0), (14, 3, .getfield 35, 3, 2, 0), (17, 1, .iconst 1, 0, 0, 0), (18, 1, .iadd, 0, 0, 0), (19, 3, .putfield 35, 3, 2, 0), (22, 1, .return_, 0, 0, 0)]
abbrev m_X1_addRoom : Nat := 25
def zc_X2_forget : List zE := [(0, 1, .aload_n 0, 0, 0, 0), (1, 1, .iconst 0, 0, 0, 0), (2, 3, .putfield 21, 6, 2, 0), (5, 1, .return_, 0, 0, 0)]
abbrev m_X2_forget : Nat := 26
def zc_X2_has : List zE := [(0, 1, .aload_n 0, 0, 0, 0), (1, 3, .getfield 21, 6, 2, 0), (4, 1, .iload_n 1, 0, 0, 0), (5, 3, .invokestatic 28, 102, 2, (-1)), (8, 1, .ireturn, 0, 0, 0)]
abbrev m_X2_has : Nat := 27
def zc_X2_store : List zE := [(0, 1, .iload_n 1, 0, 0, 0), (1, 3, .ifCond .lt 21, 0, 0, 0), (4, 1, .iload_n 1, 0, 0, 0), (5, 1, .aload_n 0, 0, 0, 0), (6, 3, .getfield 11, 6, 0, 0), (9, 1, .arraylength, 0, 0, 0), (10, 3, .if_icmp .ge 12, 0, 0, 0), (13, 1, .aload_n 0, 0, 0, 0), (14, 3, .getfield 11, 6, 0, 0), (17, 1, .iload_n 1, 0, 0, 0), (18, 1, .aaload, 0, 0, 0), (19, 3, .ifnonnull 4, 0, 0, 0), (22, 1, .return_, 0, 0, 0), (23, 1, .aload_n 0, 0, 0, 0), (24, 3, .getfield 11, 6, 0, 0), (27, 1, .iload_n 1, 0, 0, 0), (28, 1, .aaload, 0, 0, 0), (29, 1, .aload_n 2, 0, 0, 0), (30, 3, .invokevirtual 34, 32, 2, 4), (33, 1, .aload_n 0, 0, 0, 0), (34, 3, .getfield 17, 6, 1, 0), (37, 1, .iload_n 1, 0, 0, 0), (38, 1, .iload_n 3, 0, 0, 0), (39, 3, .invokestatic 38, 99, 3, (-1)), (42, 1, .aload_n 0, 0, 0, 0), (43, 1, .dup, 0, 0, 0), (44, 3, .getfield 21, 6, 2, 0), (47, 1, .iconst 1, 0, 0, 0), (48, 1, .iload_n 1, 0, 0, 0), (49, 1, .ishl, 0, 0, 0), (50, 1, .ior, 0, 0, 0), (51, 3, .putfield 21, 6, 2, 0), (54, 1, .return_, 0, 0, 0)]
abbrev m_X2_store : Nat := 28
def zc_X2_restore : List zE := [(0, 1, .iload_n 1, 0, 0, 0), (1, 3, .ifCond .lt 21, 0, 0, 0), (4, 1, .iload_n 1, 0, 0, 0), (5, 1, .aload_n 0, 0, 0, 0), (6, 3, .getfield 11, 6, 0, 0), (9, 1, .arraylength, 0, 0, 0), (10, 3, .if_icmp .ge 12, 0, 0, 0), (13, 1, .aload_n 0, 0, 0, 0), (14, 3, .getfield 11, 6, 0, 0), (17, 1, .iload_n 1, 0, 0, 0), (18, 1, .aaload, 0, 0, 0), (19, 3, .ifnonnull 4, 0, 0, 0), (22, 1, .return_, 0, 0, 0), (23, 1, .aload_n 2, 0, 0, 0), (24, 1, .aload_n 0, 0, 0, 0), (25, 3, .getfield 11, 6, 0, 0), (28, 1, .iload_n 1, 0, 0, 0), (29, 1, .aaload, 0, 0, 0), (30, 3, .invokevirtual 34, 32, 2, 4), (33, 1, .return_, 0, 0, 0)]
abbrev m_X2_restore : Nat := 29
def zc_X2_chanceOf : List zE := [(0, 1, .aload_n 0, 0, 0, 0), (1, 3, .getfield 17, 6, 1, 0), (4, 1, .iload_n 1, 0, 0, 0), (5, 3, .invokestatic 42, 98, 2, (-1)), (8, 1, .ireturn, 0, 0, 0)]
abbrev m_X2_chanceOf : Nat := 30
def zc_X3_begin : List zE := [(0, 1, .aload_n 0, 0, 0, 0), (1, 1, .iconst 0, 0, 0, 0), (2, 3, .putfield 9, 4, 1, 0), (5, 1, .aload_n 0, 0, 0, 0), (6, 1, .iconst 0, 0, 0, 0), (7, 3, .putfield 15, 4, 2, 0), (10, 1, .aload_n 0, 0, 0, 0), (11, 1, .iconst 0, 0, 0, 0), (12, 3, .putfield 18, 4, 3, 0), (15, 1, .aload_n 0, 0, 0, 0), (16, 3, .getfield 21, 4, 4, 0), (19, 1, .iconst 0, 0, 0, 0), (20, 3, .invokestatic 41, 5, 2, (-1)), (23, 1, .iconst 0, 0, 0, 0), (24, 1, .istore_n 1, 0, 0, 0), (25, 1, .iload_n 1, 0, 0, 0), (26, 1, .aload_n 0, 0, 0, 0), (27, 3, .getfield 37, 4, 0, 0), (30, 3, .getfield 47, 3, 3, 0), (33, 3, .if_icmp .ge 46, 0, 0, 0), (36, 1, .aload_n 0, 0, 0, 0), (37, 1, .iload_n 1, 0, 0, 0), (38, 1, .aload_n 0, 0, 0, 0), (39, 3, .getfield 37, 4, 0, 0), (42, 1, .iload_n 1, 0, 0, 0), (43, 1, .iconst 0, 0, 0, 0), (44, 3, .invokevirtual 52, 19, 3, 3), (47, 1, .aload_n 0, 0, 0, 0), (48, 3, .getfield 37, 4, 0, 0), (51, 1, .iload_n 1, 0, 0, 0), (52, 1, .iconst 1, 0, 0, 0), (53, 3, .invokevirtual 52, 19, 3, 3), (56, 3, .invokevirtual 56, 44, 4, 4), (59, 1, .aload_n 0, 0, 0, 0), (60, 1, .iload_n 1, 0, 0, 0), (61, 1, .aload_n 0, 0, 0, 0), (62, 3, .getfield 37, 4, 0, 0), (65, 1, .iload_n 1, 0, 0, 0), (66, 1, .iconst 2, 0, 0, 0), (67, 3, .invokevirtual 52, 19, 3, 3), (70, 3, .invokevirtual 60, 45, 3, 4), (73, 3, .iinc 1 1, 0, 0, 0), (76, 3, .goto (-51), 0, 0, 0), (79, 1, .return_, 0, 0, 0)]
abbrev m_X3_begin : Nat := 31
def zc_X3_become : List zE := [(0, 1, .aload_n 0, 0, 0, 0), (1, 1, .aload_n 1, 0, 0, 0), (2, 3, .getfield 9, 4, 1, 0), (5, 3, .putfield 9, 4, 1, 0), (8, 1, .aload_n 0, 0, 0, 0), (9, 1, .aload_n 1, 0, 0, 0), (10, 3, .getfield 15, 4, 2, 0), (13, 3, .putfield 15, 4, 2, 0), (16, 1, .aload_n 0, 0, 0, 0), (17, 1, .aload_n 1, 0, 0, 0), (18, 3, .getfield 18, 4, 3, 0), (21, 3, .putfield 18, 4, 3, 0), (24, 1, .aload_n 1, 0, 0, 0), (25, 3, .getfield 21, 4, 4, 0), (28, 1, .aload_n 0, 0, 0, 0), (29, 3, .getfield 21, 4, 4, 0), (32, 3, .invokestatic 64, 100, 2, (-1)), (35, 1, .aload_n 1, 0, 0, 0), (36, 3, .getfield 25, 4, 5, 0), (39, 1, .aload_n 0, 0, 0, 0), (40, 3, .getfield 25, 4, 5, 0), (43, 3, .invokestatic 64, 100, 2, (-1)), (46, 1, .aload_n 1, 0, 0, 0), (47, 3, .getfield 28, 4, 6, 0), (50, 1, .aload_n 0, 0, 0, 0), (51, 3, .getfield 28, 4, 6, 0), (54, 3, .invokestatic 64, 100, 2, (-1)), (57, 1, .aload_n 1, 0, 0, 0), (58, 3, .getfield 31, 4, 7, 0), (61, 1, .aload_n 0, 0, 0, 0), (62, 3, .getfield 31, 4, 7, 0), (65, 3, .invokestatic 64, 100, 2, (-1)), (68, 1, .aload_n 1, 0, 0, 0), (69, 3, .getfield 34, 4, 8, 0), (72, 1, .aload_n 0, 0, 0, 0), (73, 3, .getfield 34, 4, 8, 0), (76, 3, .invokestatic 64, 100, 2, (-1)), (79, 1, .return_, 0, 0, 0)]
abbrev m_X3_become : Nat := 32
def zc_X3_liftedIn : List zE := [(0, 1, .aload_n 0, 0, 0, 0), (1, 3, .getfield 21, 4, 4, 0), (4, 1, .iload_n 1, 0, 0, 0), (5, 3, .invokestatic 70, 98, 2, (-1)), (8, 1, .ireturn, 0, 0, 0)]
abbrev m_X3_liftedIn : Nat := 33
def zc_X3_liftedInAll : List zE := [(0, 1, .iconst 0, 0, 0, 0), (1, 1, .istore_n 1, 0, 0, 0), (2, 1, .iconst 0, 0, 0, 0), (3, 1, .istore_n 2, 0, 0, 0), (4, 1, .iload_n 2, 0, 0, 0), (5, 1, .aload_n 0, 0, 0, 0), (6, 3, .getfield 37, 4, 0, 0), (9, 3, .getfield 74, 3, 2, 0), (12, 3, .if_icmp .ge 20, 0, 0, 0), (15, 1, .iload_n 1, 0, 0, 0), (16, 1, .aload_n 0, 0, 0, 0), (17, 1, .iload_n 2, 0, 0, 0), (18, 3, .invokevirtual 77, 33, 2, 4), (21, 3, .invokestatic 81, 1, 1, (-1)), (24, 1, .iadd, 0, 0, 0), (25, 1, .istore_n 1, 0, 0, 0), (26, 3, .iinc 2 1, 0, 0, 0), (29, 3, .goto (-25), 0, 0, 0), (32, 1, .iload_n 1, 0, 0, 0), (33, 1, .ireturn, 0, 0, 0)]
abbrev m_X3_liftedInAll : Nat := 34
def zc_X3_isLifted : List zE := [(0, 1, .aload_n 0, 0, 0, 0), (1, 3, .getfield 21, 4, 4, 0), (4, 1, .iload_n 1, 0, 0, 0), (5, 3, .invokestatic 70, 98, 2, (-1)), (8, 1, .iload_n 2, 0, 0, 0), (9, 3, .invokestatic 86, 102, 2, (-1)), (12, 1, .ireturn, 0, 0, 0)]
abbrev m_X3_isLifted : Nat := 35
def zc_X3_turn : List zE := [(0, 1, .aload_n 0, 0, 0, 0), (1, 3, .getfield 21, 4, 4, 0), (4, 1, .iload_n 1, 0, 0, 0), (5, 1, .aload_n 0, 0, 0, 0), (6, 1, .iload_n 1, 0, 0, 0), (7, 3, .invokevirtual 77, 33, 2, 4), (10, 1, .iconst 1, 0, 0, 0), (11, 1, .iload_n 2, 0, 0, 0), (12, 1, .ishl, 0, 0, 0), (13, 1, .ixor, 0, 0, 0), (14, 3, .invokestatic 90, 99, 3, (-1)), (17, 1, .return_, 0, 0, 0)]
abbrev m_X3_turn : Nat := 36
def zc_X3_reads : List zE := [(0, 1, .aload_n 0, 0, 0, 0), (1, 1, .iload_n 1, 0, 0, 0), (2, 1, .iload_n 2, 0, 0, 0), (3, 3, .invokevirtual 94, 35, 3, 4), (6, 3, .ifCond .eq 15, 0, 0, 0), (9, 1, .aload_n 0, 0, 0, 0), (10, 3, .getfield 37, 4, 0, 0), (13, 1, .iload_n 1, 0, 0, 0), (14, 1, .iload_n 2, 0, 0, 0), (15, 3, .invokevirtual 97, 18, 3, 3), (18, 3, .goto 12, 0, 0, 0), (21, 1, .aload_n 0, 0, 0, 0), (22, 3, .getfield 37, 4, 0, 0), (25, 1, .iload_n 1, 0, 0, 0), (26, 1, .iload_n 2, 0, 0, 0), (27, 3, .invokevirtual 100, 17, 3, 3), (30, 1, .ireturn, 0, 0, 0)]
abbrev m_X3_reads : Nat := 37
def zc_X3_readsRound : List zE := [(0, 1, .aload_n 0, 0, 0, 0), (1, 1, .iload_n 1, 0, 0, 0), (2, 1, .iload_n 2, 0, 0, 0), (3, 1, .aload_n 0, 0, 0, 0), (4, 3, .getfield 37, 4, 0, 0), (7, 1, .iload_n 1, 0, 0, 0), (8, 3, .invokevirtual 103, 16, 2, 3), (11, 3, .invokestatic 106, 101, 2, (-1)), (14, 3, .invokevirtual 109, 37, 3, 4), (17, 1, .ireturn, 0, 0, 0)]
abbrev m_X3_readsRound : Nat := 38
def zc_X3_roomOf : List zE := [(0, 1, .aload_n 0, 0, 0, 0), (1, 3, .getfield 25, 4, 5, 0), (4, 1, .iload_n 1, 0, 0, 0), (5, 3, .invokestatic 70, 98, 2, (-1)), (8, 1, .ireturn, 0, 0, 0)]
abbrev m_X3_roomOf : Nat := 39
def zc_X3_placeOf : List zE := [(0, 1, .aload_n 0, 0, 0, 0), (1, 3, .getfield 28, 4, 6, 0), (4, 1, .iload_n 1, 0, 0, 0), (5, 3, .invokestatic 70, 98, 2, (-1)), (8, 1, .ireturn, 0, 0, 0)]
abbrev m_X3_placeOf : Nat := 40
def zc_X3_paceOf : List zE := [(0, 1, .aload_n 0, 0, 0, 0), (1, 3, .getfield 31, 4, 7, 0), (4, 1, .iload_n 1, 0, 0, 0), (5, 3, .invokestatic 70, 98, 2, (-1)), (8, 1, .ireturn, 0, 0, 0)]
abbrev m_X3_paceOf : Nat := 41
def zc_X3_readBy : List zE := [(0, 1, .aload_n 0, 0, 0, 0), (1, 1, .aload_n 0, 0, 0, 0), (2, 1, .iload_n 1, 0, 0, 0), (3, 3, .invokevirtual 112, 39, 2, 4), (6, 1, .aload_n 0, 0, 0, 0), (7, 1, .iload_n 1, 0, 0, 0), (8, 3, .invokevirtual 115, 40, 2, 4), (11, 3, .invokevirtual 109, 37, 3, 4), (14, 1, .ireturn, 0, 0, 0)]
abbrev m_X3_readBy : Nat := 42
def zc_X3_isAt : List zE := [(0, 1, .aload_n 0, 0, 0, 0), (1, 3, .getfield 25, 4, 5, 0), (4, 1, .iload_n 1, 0, 0, 0), (5, 3, .invokestatic 70, 98, 2, (-1)), (8, 1, .iload_n 2, 0, 0, 0), (9, 3, .if_icmp .ne 19, 0, 0, 0), (12, 1, .aload_n 0, 0, 0, 0), (13, 3, .getfield 28, 4, 6, 0), (16, 1, .iload_n 1, 0, 0, 0), (17, 3, .invokestatic 70, 98, 2, (-1)), (20, 1, .iload_n 3, 0, 0, 0), (21, 3, .if_icmp .ne 7, 0, 0, 0), (24, 1, .iconst 1, 0, 0, 0), (25, 3, .goto 4, 0, 0, 0), (28, 1, .iconst 0, 0, 0, 0), (29, 1, .ireturn, 0, 0, 0)]
abbrev m_X3_isAt : Nat := 43
def zc_X3_setPlace : List zE := [(0, 1, .aload_n 0, 0, 0, 0), (1, 3, .getfield 25, 4, 5, 0), (4, 1, .iload_n 1, 0, 0, 0), (5, 1, .iload_n 2, 0, 0, 0), (6, 3, .invokestatic 90, 99, 3, (-1)), (9, 1, .aload_n 0, 0, 0, 0), (10, 3, .getfield 28, 4, 6, 0), (13, 1, .iload_n 1, 0, 0, 0), (14, 1, .iload_n 3, 0, 0, 0), (15, 3, .invokestatic 90, 99, 3, (-1)), (18, 1, .return_, 0, 0, 0)]
abbrev m_X3_setPlace : Nat := 44
def zc_X3_setPace : List zE := [(0, 1, .aload_n 0, 0, 0, 0), (1, 3, .getfield 31, 4, 7, 0), (4, 1, .iload_n 1, 0, 0, 0), (5, 1, .iload_n 2, 0, 0, 0), (6, 3, .invokestatic 90, 99, 3, (-1)), (9, 1, .return_, 0, 0, 0)]
abbrev m_X3_setPace : Nat := 45
def zc_X3_addMeeting : List zE := [(0, 1, .aload_n 0, 0, 0, 0), (1, 2, .ldc 118, 0, 0, 999999), (3, 1, .aload_n 0, 0, 0, 0), (4, 3, .getfield 15, 4, 2, 0), (7, 1, .iconst 1, 0, 0, 0), (8, 1, .iadd, 0, 0, 0), (9, 3, .invokestatic 119, 4, 2, (-1)), (12, 3, .putfield 15, 4, 2, 0), (15, 1, .aload_n 0, 0, 0, 0), (16, 3, .getfield 34, 4, 8, 0), (19, 1, .aload_n 0, 0, 0, 0), (20, 3, .getfield 18, 4, 3, 0), (23, 2, .bipush 20, 0, 0, 0), (25, 3, .invokestatic 106, 101, 2, (-1)), (28, 1, .iload_n 1, 0, 0, 0), (29, 2, .bipush 100, 0, 0, 0), (31, 1, .imul, 0, 0, 0), (32, 1, .iload_n 2, 0, 0, 0), (33, 2, .bipush 10, 0, 0, 0), (35, 1, .imul, 0, 0, 0), (36, 1, .iadd, 0, 0, 0), (37, 1, .iload_n 3, 0, 0, 0), (38, 1, .iadd, 0, 0, 0), (39, 3, .invokestatic 90, 99, 3, (-1)), (42, 1, .aload_n 0, 0, 0, 0), (43, 1, .dup, 0, 0, 0), (44, 3, .getfield 18, 4, 3, 0), (47, 1, .iconst 1, 0, 0, 0), (48, 1, .iadd, 0, 0, 0), (49, 3, .putfield 18, 4, 3, 0), (52, 1, .return_, 0, 0, 0)]
abbrev m_X3_addMeeting : Nat := 46
def zc_X3_loggedNow : List zE := [(0, 2, .bipush 20, 0, 0, 0), (2, 1, .aload_n 0, 0, 0, 0), (3, 3, .getfield 18, 4, 3, 0), (6, 3, .invokestatic 119, 4, 2, (-1)), (9, 1, .ireturn, 0, 0, 0)]
abbrev m_X3_loggedNow : Nat := 47
def zc_X3_meeting : List zE := [(0, 1, .aload_n 0, 0, 0, 0), (1, 3, .getfield 34, 4, 8, 0), (4, 1, .aload_n 0, 0, 0, 0), (5, 3, .getfield 18, 4, 3, 0), (8, 1, .iconst 1, 0, 0, 0), (9, 1, .isub, 0, 0, 0), (10, 1, .iload_n 1, 0, 0, 0), (11, 1, .isub, 0, 0, 0), (12, 2, .bipush 20, 0, 0, 0), (14, 3, .invokestatic 106, 101, 2, (-1)), (17, 3, .invokestatic 70, 98, 2, (-1)), (20, 1, .istore_n 3, 0, 0, 0), (21, 1, .iload_n 2, 0, 0, 0), (22, 3, .ifCond .ne 8, 0, 0, 0), (25, 1, .iload_n 3, 0, 0, 0), (26, 2, .bipush 100, 0, 0, 0), (28, 1, .idiv, 0, 0, 0), (29, 1, .ireturn, 0, 0, 0), (30, 1, .iload_n 2, 0, 0, 0), (31, 1, .iconst 1, 0, 0, 0), (32, 3, .if_icmp .ne 13, 0, 0, 0), (35, 1, .iload_n 3, 0, 0, 0), (36, 2, .bipush 10, 0, 0, 0), (38, 1, .idiv, 0, 0, 0), (39, 2, .bipush 10, 0, 0, 0), (41, 1, .irem, 0, 0, 0), (42, 3, .goto 7, 0, 0, 0), (45, 1, .iload_n 3, 0, 0, 0), (46, 2, .bipush 10, 0, 0, 0), (48, 1, .irem, 0, 0, 0), (49, 1, .ireturn, 0, 0, 0)]
abbrev m_X3_meeting : Nat := 48
def zc_X4_reckon : List zE := [(0, 1, .aload_n 0, 0, 0, 0), (1, 1, .aload_n 1, 0, 0, 0), (2, 3, .getfield 22, 4, 0, 0), (5, 3, .getfield 28, 3, 2, 0), (8, 3, .putfield 18, 8, 2, 0), (11, 1, .iconst 0, 0, 0, 0), (12, 1, .istore_n 2, 0, 0, 0), (13, 1, .iload_n 2, 0, 0, 0), (14, 1, .aload_n 0, 0, 0, 0), (15, 3, .getfield 18, 8, 2, 0), (18, 3, .if_icmp .ge 85, 0, 0, 0), (21, 1, .aload_n 1, 0, 0, 0), (22, 3, .getfield 22, 4, 0, 0), (25, 1, .iload_n 2, 0, 0, 0), (26, 3, .invokevirtual 31, 16, 2, 3), (29, 1, .istore_n 3, 0, 0, 0), (30, 1, .iconst 0, 0, 0, 0), (31, 2, .istore 4, 0, 0, 0), (33, 2, .iload 4, 0, 0, 0), (35, 1, .aload_n 0, 0, 0, 0), (36, 3, .getfield 18, 8, 2, 0), (39, 3, .if_icmp .ge 46, 0, 0, 0), (42, 2, .iload 4, 0, 0, 0), (44, 1, .iload_n 2, 0, 0, 0), (45, 3, .if_icmp .ne 7, 0, 0, 0), (48, 1, .iconst 0, 0, 0, 0), (49, 3, .goto 10, 0, 0, 0), (52, 1, .aload_n 1, 0, 0, 0), (53, 2, .iload 4, 0, 0, 0), (55, 1, .iload_n 2, 0, 0, 0), (56, 3, .invokestatic 35, 92, 3, (-1)), (59, 2, .istore 5, 0, 0, 0), (61, 1, .aload_n 0, 0, 0, 0), (62, 3, .getfield 11, 8, 0, 0), (65, 2, .iload 4, 0, 0, 0), (67, 2, .bipush 6, 0, 0, 0), (69, 1, .imul, 0, 0, 0), (70, 1, .iload_n 2, 0, 0, 0), (71, 1, .iadd, 0, 0, 0), (72, 1, .iload_n 3, 0, 0, 0), (73, 2, .iload 5, 0, 0, 0), (75, 1, .isub, 0, 0, 0), (76, 3, .invokestatic 41, 99, 3, (-1)), (79, 3, .iinc 4 1, 0, 0, 0), (82, 3, .goto (-49), 0, 0, 0), (85, 1, .aload_n 0, 0, 0, 0), (86, 3, .getfield 11, 8, 0, 0), (89, 2, .bipush 36, 0, 0, 0), (91, 1, .iload_n 2, 0, 0, 0), (92, 1, .iadd, 0, 0, 0), (93, 1, .iload_n 3, 0, 0, 0), (94, 3, .invokestatic 41, 99, 3, (-1)), (97, 3, .iinc 2 1, 0, 0, 0), (100, 3, .goto (-87), 0, 0, 0), (103, 1, .iconst 0, 0, 0, 0), (104, 1, .istore_n 2, 0, 0, 0), (105, 1, .iload_n 2, 0, 0, 0), (106, 1, .iconst 1, 0, 0, 0), (107, 1, .aload_n 0, 0, 0, 0), (108, 3, .getfield 18, 8, 2, 0), (111, 1, .ishl, 0, 0, 0), (112, 3, .if_icmp .ge 42, 0, 0, 0), (115, 1, .iconst 0, 0, 0, 0), (116, 1, .istore_n 3, 0, 0, 0), (117, 1, .iload_n 3, 0, 0, 0), (118, 2, .bipush 7, 0, 0, 0), (120, 3, .if_icmp .ge 28, 0, 0, 0), (123, 1, .aload_n 0, 0, 0, 0), (124, 3, .getfield 15, 8, 1, 0), (127, 1, .iload_n 2, 0, 0, 0), (128, 2, .bipush 7, 0, 0, 0), (130, 1, .imul, 0, 0, 0), (131, 1, .iload_n 3, 0, 0, 0), (132, 1, .iadd, 0, 0, 0), (133, 1, .aload_n 0, 0, 0, 0), (134, 1, .iload_n 2, 0, 0, 0), (135, 1, .iload_n 3, 0, 0, 0), (136, 3, .invokevirtual 47, 52, 3, 8), (139, 3, .invokestatic 41, 99, 3, (-1)), (142, 3, .iinc 3 1, 0, 0, 0), (145, 3, .goto (-28), 0, 0, 0), (148, 3, .iinc 2 1, 0, 0, 0), (151, 3, .goto (-46), 0, 0, 0), (154, 1, .return_, 0, 0, 0)]
abbrev m_X4_reckon : Nat := 49
def zc_X4_fewestBars : List zE := [(0, 1, .aload_n 0, 0, 0, 0), (1, 3, .getfield 15, 8, 1, 0), (4, 1, .iconst 1, 0, 0, 0), (5, 1, .aload_n 0, 0, 0, 0), (6, 3, .getfield 18, 8, 2, 0), (9, 1, .ishl, 0, 0, 0), (10, 1, .iconst 1, 0, 0, 0), (11, 1, .isub, 0, 0, 0), (12, 2, .bipush 7, 0, 0, 0), (14, 1, .imul, 0, 0, 0), (15, 2, .bipush 6, 0, 0, 0), (17, 1, .iadd, 0, 0, 0), (18, 3, .invokestatic 51, 98, 2, (-1)), (21, 1, .ireturn, 0, 0, 0)]
abbrev m_X4_fewestBars : Nat := 50
def zc_X4_leastNumber : List zE := [(0, 1, .iconst 0, 0, 0, 0), (1, 1, .istore_n 1, 0, 0, 0), (2, 1, .iconst 1, 0, 0, 0), (3, 1, .aload_n 0, 0, 0, 0), (4, 3, .getfield 18, 8, 2, 0), (7, 1, .ishl, 0, 0, 0), (8, 1, .iconst 1, 0, 0, 0), (9, 1, .isub, 0, 0, 0), (10, 1, .istore_n 2, 0, 0, 0), (11, 2, .bipush 6, 0, 0, 0), (13, 1, .istore_n 3, 0, 0, 0), (14, 1, .iconst 0, 0, 0, 0), (15, 2, .istore 4, 0, 0, 0), (17, 2, .iload 4, 0, 0, 0), (19, 1, .aload_n 0, 0, 0, 0), (20, 3, .getfield 18, 8, 2, 0), (23, 3, .if_icmp .ge 39, 0, 0, 0), (26, 1, .aload_n 0, 0, 0, 0), (27, 1, .iload_n 2, 0, 0, 0), (28, 1, .iload_n 3, 0, 0, 0), (29, 3, .invokevirtual 55, 53, 3, 8), (32, 2, .istore 5, 0, 0, 0), (34, 1, .iload_n 1, 0, 0, 0), (35, 2, .bipush 10, 0, 0, 0), (37, 1, .imul, 0, 0, 0), (38, 2, .iload 5, 0, 0, 0), (40, 1, .iadd, 0, 0, 0), (41, 1, .iconst 1, 0, 0, 0), (42, 1, .iadd, 0, 0, 0), (43, 1, .istore_n 1, 0, 0, 0), (44, 1, .iload_n 2, 0, 0, 0), (45, 1, .iconst 1, 0, 0, 0), (46, 2, .iload 5, 0, 0, 0), (48, 1, .ishl, 0, 0, 0), (49, 1, .iconst (-1), 0, 0, 0), (50, 1, .ixor, 0, 0, 0), (51, 1, .iand, 0, 0, 0), (52, 1, .istore_n 2, 0, 0, 0), (53, 2, .iload 5, 0, 0, 0), (55, 1, .istore_n 3, 0, 0, 0), (56, 3, .iinc 4 1, 0, 0, 0), (59, 3, .goto (-42), 0, 0, 0), (62, 1, .iload_n 1, 0, 0, 0), (63, 1, .ireturn, 0, 0, 0)]
abbrev m_X4_leastNumber : Nat := 51
def zc_X4_barsBehind : List zE := [(0, 1, .iload_n 1, 0, 0, 0), (1, 3, .ifCond .ne 7, 0, 0, 0), (4, 1, .iconst 0, 0, 0, 0), (5, 3, .goto 15, 0, 0, 0), (8, 1, .aload_n 0, 0, 0, 0), (9, 1, .iload_n 1, 0, 0, 0), (10, 1, .iload_n 2, 0, 0, 0), (11, 1, .aload_n 0, 0, 0, 0), (12, 1, .iload_n 1, 0, 0, 0), (13, 1, .iload_n 2, 0, 0, 0), (14, 3, .invokevirtual 55, 53, 3, 8), (17, 3, .invokevirtual 58, 54, 4, 8), (20, 1, .ireturn, 0, 0, 0)]
abbrev m_X4_barsBehind : Nat := 52
def zc_X4_firstBest : List zE := [(0, 1, .iconst 0, 0, 0, 0), (1, 1, .istore_n 3, 0, 0, 0), (2, 2, .bipush 73, 0, 0, 0), (4, 2, .istore 4, 0, 0, 0), (6, 1, .iconst 0, 0, 0, 0), (7, 2, .istore 5, 0, 0, 0), (9, 2, .iload 5, 0, 0, 0), (11, 1, .aload_n 0, 0, 0, 0), (12, 3, .getfield 18, 8, 2, 0), (15, 3, .if_icmp .ge 45, 0, 0, 0), (18, 1, .iload_n 1, 0, 0, 0), (19, 2, .iload 5, 0, 0, 0), (21, 3, .invokestatic 62, 102, 2, (-1)), (24, 3, .ifCond .ne 6, 0, 0, 0), (27, 3, .goto 27, 0, 0, 0), (30, 1, .aload_n 0, 0, 0, 0), (31, 1, .iload_n 1, 0, 0, 0), (32, 1, .iload_n 2, 0, 0, 0), (33, 2, .iload 5, 0, 0, 0), (35, 3, .invokevirtual 58, 54, 4, 8), (38, 2, .istore 6, 0, 0, 0), (40, 2, .iload 6, 0, 0, 0), (42, 2, .iload 4, 0, 0, 0), (44, 3, .if_icmp .ge 10, 0, 0, 0), (47, 2, .iload 6, 0, 0, 0), (49, 2, .istore 4, 0, 0, 0), (51, 2, .iload 5, 0, 0, 0), (53, 1, .istore_n 3, 0, 0, 0), (54, 3, .iinc 5 1, 0, 0, 0), (57, 3, .goto (-48), 0, 0, 0), (60, 1, .iload_n 3, 0, 0, 0), (61, 1, .ireturn, 0, 0, 0)]
abbrev m_X4_firstBest : Nat := 53
def zc_X4_barsWith : List zE := [(0, 1, .aload_n 0, 0, 0, 0), (1, 3, .getfield 11, 8, 0, 0), (4, 1, .iload_n 2, 0, 0, 0), (5, 2, .bipush 6, 0, 0, 0), (7, 1, .imul, 0, 0, 0), (8, 1, .iload_n 3, 0, 0, 0), (9, 1, .iadd, 0, 0, 0), (10, 3, .invokestatic 51, 98, 2, (-1)), (13, 1, .aload_n 0, 0, 0, 0), (14, 3, .getfield 15, 8, 1, 0), (17, 1, .iload_n 1, 0, 0, 0), (18, 1, .iconst 1, 0, 0, 0), (19, 1, .iload_n 3, 0, 0, 0), (20, 1, .ishl, 0, 0, 0), (21, 1, .iconst (-1), 0, 0, 0), (22, 1, .ixor, 0, 0, 0), (23, 1, .iand, 0, 0, 0), (24, 2, .bipush 7, 0, 0, 0), (26, 1, .imul, 0, 0, 0), (27, 1, .iload_n 3, 0, 0, 0), (28, 1, .iadd, 0, 0, 0), (29, 3, .invokestatic 51, 98, 2, (-1)), (32, 1, .iadd, 0, 0, 0), (33, 1, .ireturn, 0, 0, 0)]
abbrev m_X4_barsWith : Nat := 54
def zc_X5_anHour : List zE := [(0, 1, .aload_n 0, 0, 0, 0), (1, 3, .getfield 7, 4, 0, 0), (4, 1, .astore_n 1, 0, 0, 0), (5, 1, .iconst 0, 0, 0, 0), (6, 1, .istore_n 2, 0, 0, 0), (7, 1, .iload_n 2, 0, 0, 0), (8, 1, .aload_n 1, 0, 0, 0), (9, 3, .getfield 13, 3, 3, 0), (12, 3, .if_icmp .ge 14, 0, 0, 0), (15, 1, .aload_n 0, 0, 0, 0), (16, 1, .iload_n 2, 0, 0, 0), (17, 3, .invokestatic 19, 57, 2, (-1)), (20, 3, .iinc 2 1, 0, 0, 0), (23, 3, .goto (-16), 0, 0, 0), (26, 1, .aload_n 0, 0, 0, 0), (27, 3, .getfield 25, 4, 3, 0), (30, 1, .istore_n 2, 0, 0, 0), (31, 1, .iconst 0, 0, 0, 0), (32, 1, .istore_n 3, 0, 0, 0), (33, 1, .iload_n 3, 0, 0, 0), (34, 1, .aload_n 1, 0, 0, 0), (35, 3, .getfield 28, 3, 4, 0), (38, 3, .if_icmp .ge 14, 0, 0, 0), (41, 1, .aload_n 0, 0, 0, 0), (42, 1, .iload_n 3, 0, 0, 0), (43, 3, .invokestatic 31, 58, 2, (-1)), (46, 3, .iinc 3 1, 0, 0, 0), (49, 3, .goto (-16), 0, 0, 0), (52, 1, .aload_n 0, 0, 0, 0), (53, 1, .dup, 0, 0, 0), (54, 3, .getfield 34, 4, 1, 0), (57, 1, .iconst 1, 0, 0, 0), (58, 1, .iadd, 0, 0, 0), (59, 3, .putfield 34, 4, 1, 0), (62, 1, .aload_n 1, 0, 0, 0), (63, 3, .getfield 37, 3, 1, 0), (66, 3, .ifCond .le 30, 0, 0, 0), (69, 1, .aload_n 0, 0, 0, 0), (70, 3, .getfield 34, 4, 1, 0), (73, 1, .aload_n 1, 0, 0, 0), (74, 3, .getfield 37, 3, 1, 0), (77, 1, .irem, 0, 0, 0), (78, 3, .ifCond .ne 18, 0, 0, 0), (81, 1, .aload_n 0, 0, 0, 0), (82, 1, .aload_n 0, 0, 0, 0), (83, 3, .getfield 34, 4, 1, 0), (86, 1, .aload_n 1, 0, 0, 0), (87, 3, .getfield 37, 3, 1, 0), (90, 1, .idiv, 0, 0, 0), (91, 1, .iconst 1, 0, 0, 0), (92, 1, .isub, 0, 0, 0), (93, 3, .invokestatic 40, 61, 2, (-1)), (96, 1, .aload_n 0, 0, 0, 0), (97, 3, .getfield 25, 4, 3, 0), (100, 1, .iload_n 2, 0, 0, 0), (101, 1, .isub, 0, 0, 0), (102, 1, .ireturn, 0, 0, 0)]
abbrev m_X5_anHour : Nat := 55
def zc_X5_areAtOneWall : List zE := [(0, 1, .iconst 0, 0, 0, 0), (1, 1, .istore_n 3, 0, 0, 0), (2, 1, .iload_n 3, 0, 0, 0), (3, 1, .aload_n 0, 0, 0, 0), (4, 3, .getfield 7, 4, 0, 0), (7, 3, .getfield 28, 3, 4, 0), (10, 3, .if_icmp .ge 49, 0, 0, 0), (13, 1, .aload_n 0, 0, 0, 0), (14, 1, .iload_n 1, 0, 0, 0), (15, 1, .iload_n 3, 0, 0, 0), (16, 3, .invokestatic 43, 59, 3, (-1)), (19, 3, .ifCond .eq 14, 0, 0, 0), (22, 1, .aload_n 0, 0, 0, 0), (23, 1, .iload_n 2, 0, 0, 0), (24, 1, .iload_n 3, 0, 0, 0), (25, 3, .invokestatic 47, 60, 3, (-1)), (28, 3, .ifCond .eq 5, 0, 0, 0), (31, 1, .iconst 1, 0, 0, 0), (32, 1, .ireturn, 0, 0, 0), (33, 1, .aload_n 0, 0, 0, 0), (34, 1, .iload_n 2, 0, 0, 0), (35, 1, .iload_n 3, 0, 0, 0), (36, 3, .invokestatic 43, 59, 3, (-1)), (39, 3, .ifCond .eq 14, 0, 0, 0), (42, 1, .aload_n 0, 0, 0, 0), (43, 1, .iload_n 1, 0, 0, 0), (44, 1, .iload_n 3, 0, 0, 0), (45, 3, .invokestatic 47, 60, 3, (-1)), (48, 3, .ifCond .eq 5, 0, 0, 0), (51, 1, .iconst 1, 0, 0, 0), (52, 1, .ireturn, 0, 0, 0), (53, 3, .iinc 3 1, 0, 0, 0), (56, 3, .goto (-54), 0, 0, 0), (59, 1, .iconst 0, 0, 0, 0), (60, 1, .ireturn, 0, 0, 0)]
abbrev m_X5_areAtOneWall : Nat := 56
def zc_X5_goOn : List zE := [(0, 1, .aload_n 0, 0, 0, 0), (1, 1, .iload_n 1, 0, 0, 0), (2, 3, .invokevirtual 50, 39, 2, 4), (5, 1, .istore_n 2, 0, 0, 0), (6, 1, .aload_n 0, 0, 0, 0), (7, 1, .iload_n 1, 0, 0, 0), (8, 3, .invokevirtual 54, 40, 2, 4), (11, 1, .istore_n 3, 0, 0, 0), (12, 1, .aload_n 0, 0, 0, 0), (13, 3, .getfield 7, 4, 0, 0), (16, 1, .iload_n 2, 0, 0, 0), (17, 3, .invokevirtual 57, 16, 2, 3), (20, 2, .istore 4, 0, 0, 0), (22, 1, .aload_n 0, 0, 0, 0), (23, 1, .iload_n 1, 0, 0, 0), (24, 3, .invokevirtual 60, 41, 2, 4), (27, 2, .istore 5, 0, 0, 0), (29, 1, .iconst 0, 0, 0, 0), (30, 2, .istore 6, 0, 0, 0), (32, 2, .iload 6, 0, 0, 0), (34, 2, .iload 5, 0, 0, 0), (36, 3, .if_icmp .ge 30, 0, 0, 0), (39, 1, .iload_n 3, 0, 0, 0), (40, 1, .iconst 1, 0, 0, 0), (41, 1, .iadd, 0, 0, 0), (42, 2, .iload 4, 0, 0, 0), (44, 3, .invokestatic 63, 101, 2, (-1)), (47, 1, .istore_n 3, 0, 0, 0), (48, 1, .aload_n 0, 0, 0, 0), (49, 1, .iload_n 2, 0, 0, 0), (50, 1, .iload_n 3, 0, 0, 0), (51, 3, .invokevirtual 69, 37, 3, 4), (54, 3, .ifCond .ne 6, 0, 0, 0), (57, 3, .goto 9, 0, 0, 0), (60, 3, .iinc 6 1, 0, 0, 0), (63, 3, .goto (-31), 0, 0, 0), (66, 1, .aload_n 0, 0, 0, 0), (67, 1, .iload_n 1, 0, 0, 0), (68, 1, .iload_n 2, 0, 0, 0), (69, 1, .iload_n 3, 0, 0, 0), (70, 3, .invokevirtual 72, 44, 4, 4), (73, 1, .return_, 0, 0, 0)]
abbrev m_X5_goOn : Nat := 57
def zc_X5_meetThrough : List zE := [(0, 1, .aload_n 0, 0, 0, 0), (1, 3, .getfield 7, 4, 0, 0), (4, 3, .getfield 13, 3, 3, 0), (7, 1, .istore_n 2, 0, 0, 0), (8, 1, .iconst 0, 0, 0, 0), (9, 1, .istore_n 3, 0, 0, 0), (10, 1, .iload_n 3, 0, 0, 0), (11, 1, .iload_n 2, 0, 0, 0), (12, 3, .if_icmp .ge 54, 0, 0, 0), (15, 1, .aload_n 0, 0, 0, 0), (16, 1, .iload_n 3, 0, 0, 0), (17, 1, .iload_n 1, 0, 0, 0), (18, 3, .invokestatic 43, 59, 3, (-1)), (21, 3, .ifCond .ne 6, 0, 0, 0), (24, 3, .goto 36, 0, 0, 0), (27, 1, .iconst 0, 0, 0, 0), (28, 2, .istore 4, 0, 0, 0), (30, 2, .iload 4, 0, 0, 0), (32, 1, .iload_n 2, 0, 0, 0), (33, 3, .if_icmp .ge 27, 0, 0, 0), (36, 1, .aload_n 0, 0, 0, 0), (37, 2, .iload 4, 0, 0, 0), (39, 1, .iload_n 1, 0, 0, 0), (40, 3, .invokestatic 47, 60, 3, (-1)), (43, 3, .ifCond .eq 11, 0, 0, 0), (46, 1, .aload_n 0, 0, 0, 0), (47, 1, .iload_n 1, 0, 0, 0), (48, 1, .iload_n 3, 0, 0, 0), (49, 2, .iload 4, 0, 0, 0), (51, 3, .invokevirtual 76, 46, 4, 4), (54, 3, .iinc 4 1, 0, 0, 0), (57, 3, .goto (-27), 0, 0, 0), (60, 3, .iinc 3 1, 0, 0, 0), (63, 3, .goto (-53), 0, 0, 0), (66, 1, .return_, 0, 0, 0)]
abbrev m_X5_meetThrough : Nat := 58
def zc_X5_isAtA : List zE := [(0, 1, .aload_n 0, 0, 0, 0), (1, 1, .iload_n 1, 0, 0, 0), (2, 1, .aload_n 0, 0, 0, 0), (3, 3, .getfield 7, 4, 0, 0), (6, 1, .iload_n 2, 0, 0, 0), (7, 1, .iconst 0, 0, 0, 0), (8, 3, .invokevirtual 79, 20, 3, 3), (11, 1, .aload_n 0, 0, 0, 0), (12, 3, .getfield 7, 4, 0, 0), (15, 1, .iload_n 2, 0, 0, 0), (16, 1, .iconst 1, 0, 0, 0), (17, 3, .invokevirtual 79, 20, 3, 3), (20, 3, .invokevirtual 82, 43, 4, 4), (23, 1, .ireturn, 0, 0, 0)]
abbrev m_X5_isAtA : Nat := 59
def zc_X5_isAtB : List zE := [(0, 1, .aload_n 0, 0, 0, 0), (1, 1, .iload_n 1, 0, 0, 0), (2, 1, .aload_n 0, 0, 0, 0), (3, 3, .getfield 7, 4, 0, 0), (6, 1, .iload_n 2, 0, 0, 0), (7, 1, .iconst 2, 0, 0, 0), (8, 3, .invokevirtual 79, 20, 3, 3), (11, 1, .aload_n 0, 0, 0, 0), (12, 3, .getfield 7, 4, 0, 0), (15, 1, .iload_n 2, 0, 0, 0), (16, 1, .iconst 3, 0, 0, 0), (17, 3, .invokevirtual 79, 20, 3, 3), (20, 3, .invokevirtual 82, 43, 4, 4), (23, 1, .ireturn, 0, 0, 0)]
abbrev m_X5_isAtB : Nat := 60
def zc_X5_dampLifts : List zE := [(0, 1, .aload_n 0, 0, 0, 0), (1, 3, .getfield 7, 4, 0, 0), (4, 3, .getfield 86, 3, 2, 0), (7, 1, .istore_n 2, 0, 0, 0), (8, 1, .iload_n 2, 0, 0, 0), (9, 3, .ifCond .gt 4, 0, 0, 0), (12, 1, .return_, 0, 0, 0), (13, 1, .iload_n 1, 0, 0, 0), (14, 1, .iload_n 2, 0, 0, 0), (15, 1, .irem, 0, 0, 0), (16, 1, .istore_n 3, 0, 0, 0), (17, 1, .iload_n 1, 0, 0, 0), (18, 1, .iload_n 2, 0, 0, 0), (19, 1, .idiv, 0, 0, 0), (20, 1, .aload_n 0, 0, 0, 0), (21, 3, .getfield 7, 4, 0, 0), (24, 1, .iload_n 3, 0, 0, 0), (25, 3, .invokevirtual 57, 16, 2, 3), (28, 3, .invokestatic 63, 101, 2, (-1)), (31, 2, .istore 4, 0, 0, 0), (33, 1, .aload_n 0, 0, 0, 0), (34, 1, .iload_n 3, 0, 0, 0), (35, 2, .iload 4, 0, 0, 0), (37, 3, .invokevirtual 89, 35, 3, 4), (40, 3, .ifCond .ne 10, 0, 0, 0), (43, 1, .aload_n 0, 0, 0, 0), (44, 1, .iload_n 3, 0, 0, 0), (45, 2, .iload 4, 0, 0, 0), (47, 3, .invokevirtual 93, 36, 3, 4), (50, 1, .return_, 0, 0, 0)]
abbrev m_X5_dampLifts : Nat := 61
def zc_X6_size : List zE := [(0, 1, .aload_n 0, 0, 0, 0), (1, 3, .getfield 17, 5, 1, 0), (4, 1, .ireturn, 0, 0, 0)]
abbrev m_X6_size : Nat := 62
def zc_X6_forget : List zE := [(0, 1, .aload_n 0, 0, 0, 0), (1, 1, .iconst 0, 0, 0, 0), (2, 3, .putfield 17, 5, 1, 0), (5, 1, .return_, 0, 0, 0)]
abbrev m_X6_forget : Nat := 63
def zc_X6_add : List zE := [(0, 1, .aload_n 0, 0, 0, 0), (1, 1, .aload_n 0, 0, 0, 0), (2, 3, .getfield 21, 5, 2, 0), (5, 3, .invokevirtual 27, 66, 2, 5), (8, 1, .astore_n 2, 0, 0, 0), (9, 1, .aload_n 2, 0, 0, 0), (10, 3, .ifnonnull 4, 0, 0, 0), (13, 1, .return_, 0, 0, 0), (14, 1, .aload_n 2, 0, 0, 0), (15, 1, .aload_n 1, 0, 0, 0), (16, 3, .invokevirtual 31, 32, 2, 4), (19, 1, .aload_n 0, 0, 0, 0), (20, 1, .aload_n 0, 0, 0, 0), (21, 3, .getfield 21, 5, 2, 0), (24, 1, .iconst 1, 0, 0, 0), (25, 1, .iadd, 0, 0, 0), (26, 2, .bipush 30, 0, 0, 0), (28, 1, .irem, 0, 0, 0), (29, 3, .putfield 21, 5, 2, 0), (32, 1, .aload_n 0, 0, 0, 0), (33, 2, .bipush 30, 0, 0, 0), (35, 1, .aload_n 0, 0, 0, 0), (36, 3, .getfield 17, 5, 1, 0), (39, 1, .iconst 1, 0, 0, 0), (40, 1, .iadd, 0, 0, 0), (41, 3, .invokestatic 35, 4, 2, (-1)), (44, 3, .putfield 17, 5, 1, 0), (47, 1, .return_, 0, 0, 0)]
abbrev m_X6_add : Nat := 64
def zc_X6_takeBack : List zE := [(0, 1, .aload_n 0, 0, 0, 0), (1, 3, .getfield 21, 5, 2, 0), (4, 2, .bipush 30, 0, 0, 0), (6, 1, .iadd, 0, 0, 0), (7, 1, .iload_n 1, 0, 0, 0), (8, 1, .isub, 0, 0, 0), (9, 2, .bipush 30, 0, 0, 0), (11, 1, .irem, 0, 0, 0), (12, 1, .istore_n 3, 0, 0, 0), (13, 1, .aload_n 0, 0, 0, 0), (14, 1, .iload_n 3, 0, 0, 0), (15, 3, .invokevirtual 27, 66, 2, 5), (18, 2, .astore 4, 0, 0, 0), (20, 2, .aload 4, 0, 0, 0), (22, 3, .ifnonnull 4, 0, 0, 0), (25, 1, .return_, 0, 0, 0), (26, 1, .aload_n 2, 0, 0, 0), (27, 2, .aload 4, 0, 0, 0), (29, 3, .invokevirtual 31, 32, 2, 4), (32, 1, .aload_n 0, 0, 0, 0), (33, 1, .iload_n 3, 0, 0, 0), (34, 3, .putfield 21, 5, 2, 0), (37, 1, .aload_n 0, 0, 0, 0), (38, 1, .dup, 0, 0, 0), (39, 3, .getfield 17, 5, 1, 0), (42, 1, .iload_n 1, 0, 0, 0), (43, 1, .isub, 0, 0, 0), (44, 3, .putfield 17, 5, 1, 0), (47, 1, .return_, 0, 0, 0)]
abbrev m_X6_takeBack : Nat := 65
def zc_X6_kept : List zE := [(0, 1, .iload_n 1, 0, 0, 0), (1, 3, .ifCond .lt 21, 0, 0, 0), (4, 1, .iload_n 1, 0, 0, 0), (5, 1, .aload_n 0, 0, 0, 0), (6, 3, .getfield 11, 5, 0, 0), (9, 1, .arraylength, 0, 0, 0), (10, 3, .if_icmp .ge 12, 0, 0, 0), (13, 1, .aload_n 0, 0, 0, 0), (14, 3, .getfield 11, 5, 0, 0), (17, 1, .iload_n 1, 0, 0, 0), (18, 1, .aaload, 0, 0, 0), (19, 3, .goto 4, 0, 0, 0), (22, 1, .aconst_null, 0, 0, 0), (23, 1, .areturn, 0, 0, 0)]
abbrev m_X6_kept : Nat := 66
def zc_X7_letters : List zE := [(0, 1, .aload_n 0, 0, 0, 0), (1, 3, .getfield 22, 2, 2, 0), (4, 1, .ireturn, 0, 0, 0)]
abbrev m_X7_letters : Nat := 67
def zc_X7_place : List zE := [(0, 1, .aload_n 0, 0, 0, 0), (1, 3, .getfield 35, 2, 6, 0), (4, 1, .ireturn, 0, 0, 0)]
abbrev m_X7_place : Nat := 68
def zc_X7_draft : List zE := [(0, 1, .aload_n 0, 0, 0, 0), (1, 3, .getfield 12, 2, 0, 0), (4, 1, .areturn, 0, 0, 0)]
abbrev m_X7_draft : Nat := 69
def zc_X7_add : List zE := [(0, 1, .aload_n 0, 0, 0, 0), (1, 3, .getfield 22, 2, 2, 0), (4, 3, .sipush 240, 0, 0, 0), (7, 3, .if_icmp .lt 5, 0, 0, 0), (10, 1, .iconst 0, 0, 0, 0), (11, 1, .ireturn, 0, 0, 0), (12, 1, .aload_n 0, 0, 0, 0), (13, 3, .getfield 18, 2, 1, 0), (16, 1, .aload_n 0, 0, 0, 0), (17, 3, .getfield 22, 2, 2, 0), (20, 1, .iload_n 1, 0, 0, 0), (21, 3, .invokestatic 38, 99, 3, (-1)), (24, 1, .aload_n 0, 0, 0, 0), (25, 1, .dup, 0, 0, 0), (26, 3, .getfield 22, 2, 2, 0), (29, 1, .iconst 1, 0, 0, 0), (30, 1, .iadd, 0, 0, 0), (31, 3, .putfield 22, 2, 2, 0), (34, 1, .iconst 1, 0, 0, 0), (35, 1, .ireturn, 0, 0, 0)]
abbrev m_X7_add : Nat := 70
def zc_X7_read : List zE := [(0, 1, .aload_n 0, 0, 0, 0), (1, 3, .getfield 12, 2, 0, 0), (4, 3, .invokevirtual 44, 9, 1, 3), (7, 1, .aload_n 0, 0, 0, 0), (8, 1, .iconst 0, 0, 0, 0), (9, 3, .putfield 26, 2, 3, 0), (12, 1, .aload_n 0, 0, 0, 0), (13, 1, .iconst 0, 0, 0, 0), (14, 3, .putfield 32, 2, 5, 0), (17, 1, .aload_n 0, 0, 0, 0), (18, 1, .iconst (-1), 0, 0, 0), (19, 3, .putfield 35, 2, 6, 0), (22, 1, .aload_n 0, 0, 0, 0), (23, 3, .invokevirtual 47, 81, 1, 2), (26, 1, .iconst 0, 0, 0, 0), (27, 1, .istore_n 1, 0, 0, 0), (28, 1, .iload_n 1, 0, 0, 0), (29, 3, .sipush 240, 0, 0, 0), (32, 3, .if_icmp .ge 35, 0, 0, 0), (35, 1, .aload_n 0, 0, 0, 0), (36, 3, .getfield 32, 2, 5, 0), (39, 3, .ifCond .ne 28, 0, 0, 0), (42, 1, .aload_n 0, 0, 0, 0), (43, 3, .getfield 26, 2, 3, 0), (46, 1, .aload_n 0, 0, 0, 0), (47, 3, .getfield 22, 2, 2, 0), (50, 3, .if_icmp .ge 17, 0, 0, 0), (53, 1, .aload_n 0, 0, 0, 0), (54, 3, .invokevirtual 50, 72, 1, 2), (57, 1, .aload_n 0, 0, 0, 0), (58, 3, .invokevirtual 47, 81, 1, 2), (61, 3, .iinc 1 1, 0, 0, 0), (64, 3, .goto (-36), 0, 0, 0), (67, 1, .aload_n 0, 0, 0, 0), (68, 1, .iconst 0, 0, 0, 0), (69, 3, .putfield 22, 2, 2, 0), (72, 1, .aload_n 0, 0, 0, 0), (73, 3, .getfield 32, 2, 5, 0), (76, 1, .ireturn, 0, 0, 0)]
abbrev m_X7_read : Nat := 71
def zc_X7_readClause : List zE := [(0, 1, .aload_n 0, 0, 0, 0), (1, 3, .invokevirtual 53, 82, 1, 2), (4, 1, .istore_n 1, 0, 0, 0), (5, 1, .aload_n 0, 0, 0, 0), (6, 3, .getfield 12, 2, 0, 0), (9, 3, .getfield 57, 3, 0, 0), (12, 3, .ifCond .ne 19, 0, 0, 0), (15, 1, .iload_n 1, 0, 0, 0), (16, 2, .bipush 100, 0, 0, 0), (18, 3, .if_icmp .eq 13, 0, 0, 0), (21, 1, .aload_n 0, 0, 0, 0), (22, 1, .iconst 1, 0, 0, 0), (23, 1, .aload_n 0, 0, 0, 0), (24, 3, .getfield 26, 2, 3, 0), (27, 3, .invokevirtual 61, 84, 3, 2), (30, 1, .return_, 0, 0, 0), (31, 1, .iload_n 1, 0, 0, 0), (32, 52, .lookupswitch 87 #[(100, 52), (112, 73), (114, 59), (117, 66), (119, 80)], 0, 0, 0), (84, 1, .aload_n 0, 0, 0, 0), (85, 3, .invokevirtual 65, 73, 1, 2), (88, 3, .goto 40, 0, 0, 0), (91, 1, .aload_n 0, 0, 0, 0), (92, 3, .invokevirtual 68, 74, 1, 2), (95, 3, .goto 33, 0, 0, 0), (98, 1, .aload_n 0, 0, 0, 0), (99, 3, .invokevirtual 71, 75, 1, 2), (102, 3, .goto 26, 0, 0, 0), (105, 1, .aload_n 0, 0, 0, 0), (106, 3, .invokevirtual 74, 76, 1, 2), (109, 3, .goto 19, 0, 0, 0), (112, 1, .aload_n 0, 0, 0, 0), (113, 3, .invokevirtual 77, 77, 1, 2), (116, 3, .goto 12, 0, 0, 0), (119, 1, .aload_n 0, 0, 0, 0), (120, 1, .iconst 1, 0, 0, 0), (121, 1, .aload_n 0, 0, 0, 0), (122, 3, .getfield 26, 2, 3, 0), (125, 3, .invokevirtual 61, 84, 3, 2), (128, 1, .return_, 0, 0, 0)]
abbrev m_X7_readClause : Nat := 72
def zc_X7_readDamp : List zE := [(0, 1, .aload_n 0, 0, 0, 0), (1, 3, .getfield 12, 2, 0, 0), (4, 3, .getfield 57, 3, 0, 0), (7, 3, .ifCond .eq 12, 0, 0, 0), (10, 1, .aload_n 0, 0, 0, 0), (11, 1, .iconst 3, 0, 0, 0), (12, 1, .aload_n 0, 0, 0, 0), (13, 3, .getfield 26, 2, 3, 0), (16, 3, .invokevirtual 61, 84, 3, 2), (19, 1, .aload_n 0, 0, 0, 0), (20, 1, .dup, 0, 0, 0), (21, 3, .getfield 26, 2, 3, 0), (24, 1, .iconst 1, 0, 0, 0), (25, 1, .iadd, 0, 0, 0), (26, 3, .putfield 26, 2, 3, 0), (29, 1, .aload_n 0, 0, 0, 0), (30, 3, .getfield 12, 2, 0, 0), (33, 1, .iconst 1, 0, 0, 0), (34, 3, .putfield 57, 3, 0, 0), (37, 1, .aload_n 0, 0, 0, 0), (38, 3, .getfield 12, 2, 0, 0), (41, 1, .aload_n 0, 0, 0, 0), (42, 2, .bipush 99, 0, 0, 0), (44, 3, .invokevirtual 80, 78, 2, 2), (47, 3, .putfield 84, 3, 1, 0), (50, 1, .aload_n 0, 0, 0, 0), (51, 2, .bipush 59, 0, 0, 0), (53, 3, .invokevirtual 87, 79, 2, 2), (56, 1, .return_, 0, 0, 0)]
abbrev m_X7_readDamp : Nat := 73
def zc_X7_readRoom : List zE := [(0, 1, .aload_n 0, 0, 0, 0), (1, 3, .getfield 12, 2, 0, 0), (4, 3, .getfield 91, 3, 2, 0), (7, 2, .bipush 6, 0, 0, 0), (9, 3, .if_icmp .lt 12, 0, 0, 0), (12, 1, .aload_n 0, 0, 0, 0), (13, 1, .iconst 3, 0, 0, 0), (14, 1, .aload_n 0, 0, 0, 0), (15, 3, .getfield 26, 2, 3, 0), (18, 3, .invokevirtual 61, 84, 3, 2), (21, 1, .aload_n 0, 0, 0, 0), (22, 1, .dup, 0, 0, 0), (23, 3, .getfield 26, 2, 3, 0), (26, 1, .iconst 1, 0, 0, 0), (27, 1, .iadd, 0, 0, 0), (28, 3, .putfield 26, 2, 3, 0), (31, 1, .iconst 0, 0, 0, 0), (32, 1, .istore_n 1, 0, 0, 0), (33, 1, .aload_n 0, 0, 0, 0), (34, 3, .getfield 12, 2, 0, 0), (37, 1, .aload_n 0, 0, 0, 0), (38, 3, .getfield 12, 2, 0, 0), (41, 3, .getfield 91, 3, 2, 0), (44, 1, .iload_n 1, 0, 0, 0), (45, 1, .aload_n 0, 0, 0, 0), (46, 2, .bipush 9, 0, 0, 0), (48, 3, .invokevirtual 80, 78, 2, 2), (51, 3, .invokevirtual 94, 21, 4, 3), (54, 3, .iinc 1 1, 0, 0, 0), (57, 1, .iload_n 1, 0, 0, 0), (58, 2, .bipush 12, 0, 0, 0), (60, 3, .if_icmp .ge 12, 0, 0, 0), (63, 1, .aload_n 0, 0, 0, 0), (64, 2, .bipush 44, 0, 0, 0), (66, 3, .invokevirtual 98, 80, 2, 2), (69, 3, .ifCond .ne (-36), 0, 0, 0), (72, 1, .aload_n 0, 0, 0, 0), (73, 2, .bipush 59, 0, 0, 0), (75, 3, .invokevirtual 87, 79, 2, 2), (78, 1, .aload_n 0, 0, 0, 0), (79, 3, .getfield 12, 2, 0, 0), (82, 1, .iload_n 1, 0, 0, 0), (83, 3, .invokevirtual 102, 25, 2, 3), (86, 1, .return_, 0, 0, 0)]
abbrev m_X7_readRoom : Nat := 74
def zc_X7_readUnder : List zE := [(0, 1, .aload_n 0, 0, 0, 0), (1, 1, .dup, 0, 0, 0), (2, 3, .getfield 26, 2, 3, 0), (5, 1, .iconst 1, 0, 0, 0), (6, 1, .iadd, 0, 0, 0), (7, 3, .putfield 26, 2, 3, 0), (10, 1, .aload_n 0, 0, 0, 0), (11, 1, .aload_n 0, 0, 0, 0), (12, 3, .getfield 12, 2, 0, 0), (15, 3, .getfield 91, 3, 2, 0), (18, 1, .iconst 1, 0, 0, 0), (19, 1, .isub, 0, 0, 0), (20, 3, .invokevirtual 80, 78, 2, 2), (23, 1, .istore_n 1, 0, 0, 0), (24, 1, .aload_n 0, 0, 0, 0), (25, 3, .getfield 12, 2, 0, 0), (28, 1, .iload_n 1, 0, 0, 0), (29, 3, .invokevirtual 105, 15, 2, 3), (32, 3, .ifCond .eq 12, 0, 0, 0), (35, 1, .aload_n 0, 0, 0, 0), (36, 1, .iconst 4, 0, 0, 0), (37, 1, .aload_n 0, 0, 0, 0), (38, 3, .getfield 29, 2, 4, 0), (41, 3, .invokevirtual 61, 84, 3, 2), (44, 1, .aload_n 0, 0, 0, 0), (45, 3, .getfield 12, 2, 0, 0), (48, 1, .iload_n 1, 0, 0, 0), (49, 3, .invokevirtual 108, 16, 2, 3), (52, 1, .istore_n 2, 0, 0, 0), (53, 1, .iconst 0, 0, 0, 0), (54, 1, .istore_n 3, 0, 0, 0), (55, 1, .iload_n 3, 0, 0, 0), (56, 1, .iload_n 2, 0, 0, 0), (57, 3, .if_icmp .ge 34, 0, 0, 0), (60, 1, .iload_n 3, 0, 0, 0), (61, 3, .ifCond .le 9, 0, 0, 0), (64, 1, .aload_n 0, 0, 0, 0), (65, 2, .bipush 44, 0, 0, 0), (67, 3, .invokevirtual 87, 79, 2, 2), (70, 1, .aload_n 0, 0, 0, 0), (71, 3, .getfield 12, 2, 0, 0), (74, 1, .iload_n 1, 0, 0, 0), (75, 1, .iload_n 3, 0, 0, 0), (76, 1, .aload_n 0, 0, 0, 0), (77, 2, .bipush 9, 0, 0, 0), (79, 3, .invokevirtual 80, 78, 2, 2), (82, 3, .invokevirtual 111, 22, 4, 3), (85, 3, .iinc 3 1, 0, 0, 0), (88, 3, .goto (-33), 0, 0, 0), (91, 1, .aload_n 0, 0, 0, 0), (92, 2, .bipush 59, 0, 0, 0), (94, 3, .invokevirtual 87, 79, 2, 2), (97, 1, .aload_n 0, 0, 0, 0), (98, 3, .getfield 12, 2, 0, 0), (101, 1, .dup, 0, 0, 0), (102, 3, .getfield 114, 3, 5, 0), (105, 1, .iconst 1, 0, 0, 0), (106, 1, .iload_n 1, 0, 0, 0), (107, 1, .ishl, 0, 0, 0), (108, 1, .ior, 0, 0, 0), (109, 3, .putfield 114, 3, 5, 0), (112, 1, .return_, 0, 0, 0)]
abbrev m_X7_readUnder : Nat := 75
def zc_X7_readPerson : List zE := [(0, 1, .aload_n 0, 0, 0, 0), (1, 3, .getfield 12, 2, 0, 0), (4, 3, .getfield 117, 3, 3, 0), (7, 1, .iconst 5, 0, 0, 0), (8, 3, .if_icmp .lt 12, 0, 0, 0), (11, 1, .aload_n 0, 0, 0, 0), (12, 1, .iconst 3, 0, 0, 0), (13, 1, .aload_n 0, 0, 0, 0), (14, 3, .getfield 26, 2, 3, 0), (17, 3, .invokevirtual 61, 84, 3, 2), (20, 1, .aload_n 0, 0, 0, 0), (21, 1, .dup, 0, 0, 0), (22, 3, .getfield 26, 2, 3, 0), (25, 1, .iconst 1, 0, 0, 0), (26, 1, .iadd, 0, 0, 0), (27, 3, .putfield 26, 2, 3, 0), (30, 1, .aload_n 0, 0, 0, 0), (31, 1, .aload_n 0, 0, 0, 0), (32, 3, .getfield 12, 2, 0, 0), (35, 3, .getfield 91, 3, 2, 0), (38, 1, .iconst 1, 0, 0, 0), (39, 1, .isub, 0, 0, 0), (40, 3, .invokevirtual 80, 78, 2, 2), (43, 1, .istore_n 1, 0, 0, 0), (44, 1, .aload_n 0, 0, 0, 0), (45, 3, .getfield 12, 2, 0, 0), (48, 1, .iconst 0, 0, 0, 0), (49, 1, .iload_n 1, 0, 0, 0), (50, 3, .invokevirtual 120, 23, 3, 3), (53, 1, .aload_n 0, 0, 0, 0), (54, 3, .getfield 12, 2, 0, 0), (57, 1, .iconst 1, 0, 0, 0), (58, 1, .aload_n 0, 0, 0, 0), (59, 1, .aload_n 0, 0, 0, 0), (60, 3, .getfield 12, 2, 0, 0), (63, 1, .iload_n 1, 0, 0, 0), (64, 3, .invokevirtual 108, 16, 2, 3), (67, 1, .iconst 1, 0, 0, 0), (68, 1, .isub, 0, 0, 0), (69, 3, .invokevirtual 80, 78, 2, 2), (72, 3, .invokevirtual 120, 23, 3, 3), (75, 1, .aload_n 0, 0, 0, 0), (76, 3, .getfield 12, 2, 0, 0), (79, 1, .iconst 2, 0, 0, 0), (80, 1, .aload_n 0, 0, 0, 0), (81, 2, .bipush 9, 0, 0, 0), (83, 3, .invokevirtual 80, 78, 2, 2), (86, 3, .invokevirtual 120, 23, 3, 3), (89, 1, .aload_n 0, 0, 0, 0), (90, 2, .bipush 59, 0, 0, 0), (92, 3, .invokevirtual 87, 79, 2, 2), (95, 1, .aload_n 0, 0, 0, 0), (96, 3, .getfield 12, 2, 0, 0), (99, 1, .dup, 0, 0, 0), (100, 3, .getfield 117, 3, 3, 0), (103, 1, .iconst 1, 0, 0, 0), (104, 1, .iadd, 0, 0, 0), (105, 3, .putfield 117, 3, 3, 0), (108, 1, .return_, 0, 0, 0)]
abbrev m_X7_readPerson : Nat := 76
def zc_X7_readWall : List zE := [(0, 1, .aload_n 0, 0, 0, 0), (1, 3, .getfield 12, 2, 0, 0), (4, 3, .getfield 123, 3, 4, 0), (7, 2, .bipush 6, 0, 0, 0), (9, 3, .if_icmp .lt 12, 0, 0, 0), (12, 1, .aload_n 0, 0, 0, 0), (13, 1, .iconst 3, 0, 0, 0), (14, 1, .aload_n 0, 0, 0, 0), (15, 3, .getfield 26, 2, 3, 0), (18, 3, .invokevirtual 61, 84, 3, 2), (21, 1, .aload_n 0, 0, 0, 0), (22, 1, .dup, 0, 0, 0), (23, 3, .getfield 26, 2, 3, 0), (26, 1, .iconst 1, 0, 0, 0), (27, 1, .iadd, 0, 0, 0), (28, 3, .putfield 26, 2, 3, 0), (31, 1, .aload_n 0, 0, 0, 0), (32, 1, .aload_n 0, 0, 0, 0), (33, 3, .getfield 12, 2, 0, 0), (36, 3, .getfield 91, 3, 2, 0), (39, 1, .iconst 1, 0, 0, 0), (40, 1, .isub, 0, 0, 0), (41, 3, .invokevirtual 80, 78, 2, 2), (44, 1, .istore_n 1, 0, 0, 0), (45, 1, .aload_n 0, 0, 0, 0), (46, 3, .getfield 12, 2, 0, 0), (49, 1, .iconst 0, 0, 0, 0), (50, 1, .iload_n 1, 0, 0, 0), (51, 3, .invokevirtual 126, 24, 3, 3), (54, 1, .aload_n 0, 0, 0, 0), (55, 3, .getfield 12, 2, 0, 0), (58, 1, .iconst 1, 0, 0, 0), (59, 1, .aload_n 0, 0, 0, 0), (60, 1, .aload_n 0, 0, 0, 0), (61, 3, .getfield 12, 2, 0, 0), (64, 1, .iload_n 1, 0, 0, 0), (65, 3, .invokevirtual 108, 16, 2, 3), (68, 1, .iconst 1, 0, 0, 0), (69, 1, .isub, 0, 0, 0), (70, 3, .invokevirtual 80, 78, 2, 2), (73, 3, .invokevirtual 126, 24, 3, 3), (76, 1, .aload_n 0, 0, 0, 0), (77, 1, .aload_n 0, 0, 0, 0), (78, 3, .getfield 12, 2, 0, 0), (81, 3, .getfield 91, 3, 2, 0), (84, 1, .iconst 1, 0, 0, 0), (85, 1, .isub, 0, 0, 0), (86, 3, .invokevirtual 80, 78, 2, 2), (89, 1, .istore_n 2, 0, 0, 0), (90, 1, .iload_n 2, 0, 0, 0), (91, 1, .iload_n 1, 0, 0, 0), (92, 3, .if_icmp .ne 12, 0, 0, 0), (95, 1, .aload_n 0, 0, 0, 0), (96, 1, .iconst 4, 0, 0, 0), (97, 1, .aload_n 0, 0, 0, 0), (98, 3, .getfield 29, 2, 4, 0), (101, 3, .invokevirtual 61, 84, 3, 2), (104, 1, .aload_n 0, 0, 0, 0), (105, 3, .getfield 12, 2, 0, 0), (108, 1, .iconst 2, 0, 0, 0), (109, 1, .iload_n 2, 0, 0, 0), (110, 3, .invokevirtual 126, 24, 3, 3), (113, 1, .aload_n 0, 0, 0, 0), (114, 3, .getfield 12, 2, 0, 0), (117, 1, .iconst 3, 0, 0, 0), (118, 1, .aload_n 0, 0, 0, 0), (119, 1, .aload_n 0, 0, 0, 0), (120, 3, .getfield 12, 2, 0, 0), (123, 1, .iload_n 2, 0, 0, 0), (124, 3, .invokevirtual 108, 16, 2, 3), (127, 1, .iconst 1, 0, 0, 0), (128, 1, .isub, 0, 0, 0), (129, 3, .invokevirtual 80, 78, 2, 2), (132, 3, .invokevirtual 126, 24, 3, 3), (135, 1, .aload_n 0, 0, 0, 0), (136, 2, .bipush 59, 0, 0, 0), (138, 3, .invokevirtual 87, 79, 2, 2), (141, 1, .aload_n 0, 0, 0, 0), (142, 3, .getfield 12, 2, 0, 0), (145, 1, .dup, 0, 0, 0), (146, 3, .getfield 123, 3, 4, 0), (149, 1, .iconst 1, 0, 0, 0), (150, 1, .iadd, 0, 0, 0), (151, 3, .putfield 123, 3, 4, 0), (154, 1, .return_, 0, 0, 0)]
abbrev m_X7_readWall : Nat := 77
def zc_X7_readNumber : List zE := [(0, 1, .aload_n 0, 0, 0, 0), (1, 3, .invokevirtual 47, 81, 1, 2), (4, 1, .aload_n 0, 0, 0, 0), (5, 1, .aload_n 0, 0, 0, 0), (6, 3, .getfield 26, 2, 3, 0), (9, 3, .putfield 29, 2, 4, 0), (12, 1, .iconst 0, 0, 0, 0), (13, 1, .istore_n 2, 0, 0, 0), (14, 1, .aload_n 0, 0, 0, 0), (15, 3, .getfield 26, 2, 3, 0), (18, 1, .aload_n 0, 0, 0, 0), (19, 3, .getfield 22, 2, 2, 0), (22, 3, .if_icmp .ge 45, 0, 0, 0), (25, 1, .aload_n 0, 0, 0, 0), (26, 3, .invokevirtual 53, 82, 1, 2), (29, 3, .invokestatic 129, 83, 1, (-1)), (32, 3, .ifCond .eq 35, 0, 0, 0), (35, 3, .sipush 1000, 0, 0, 0), (38, 1, .iload_n 2, 0, 0, 0), (39, 2, .bipush 10, 0, 0, 0), (41, 1, .imul, 0, 0, 0), (42, 1, .aload_n 0, 0, 0, 0), (43, 3, .invokevirtual 53, 82, 1, 2), (46, 1, .iadd, 0, 0, 0), (47, 2, .bipush 48, 0, 0, 0), (49, 1, .isub, 0, 0, 0), (50, 3, .invokestatic 132, 4, 2, (-1)), (53, 1, .istore_n 2, 0, 0, 0), (54, 1, .aload_n 0, 0, 0, 0), (55, 1, .dup, 0, 0, 0), (56, 3, .getfield 26, 2, 3, 0), (59, 1, .iconst 1, 0, 0, 0), (60, 1, .iadd, 0, 0, 0), (61, 3, .putfield 26, 2, 3, 0), (64, 3, .goto (-50), 0, 0, 0), (67, 1, .aload_n 0, 0, 0, 0), (68, 3, .getfield 26, 2, 3, 0), (71, 1, .aload_n 0, 0, 0, 0), (72, 3, .getfield 29, 2, 4, 0), (75, 3, .if_icmp .ne 15, 0, 0, 0), (78, 1, .aload_n 0, 0, 0, 0), (79, 1, .iconst 1, 0, 0, 0), (80, 1, .aload_n 0, 0, 0, 0), (81, 3, .getfield 29, 2, 4, 0), (84, 3, .invokevirtual 61, 84, 3, 2), (87, 3, .goto 30, 0, 0, 0), (90, 1, .aload_n 0, 0, 0, 0), (91, 3, .getfield 26, 2, 3, 0), (94, 1, .aload_n 0, 0, 0, 0), (95, 3, .getfield 29, 2, 4, 0), (98, 1, .isub, 0, 0, 0), (99, 1, .iconst 3, 0, 0, 0), (100, 3, .if_icmp .gt 8, 0, 0, 0), (103, 1, .iload_n 2, 0, 0, 0), (104, 1, .iload_n 1, 0, 0, 0), (105, 3, .if_icmp .le 12, 0, 0, 0), (108, 1, .aload_n 0, 0, 0, 0), (109, 1, .iconst 2, 0, 0, 0), (110, 1, .aload_n 0, 0, 0, 0), (111, 3, .getfield 29, 2, 4, 0), (114, 3, .invokevirtual 61, 84, 3, 2), (117, 1, .iload_n 2, 0, 0, 0), (118, 1, .ireturn, 0, 0, 0)]
abbrev m_X7_readNumber : Nat := 78
def zc_X7_expect : List zE := [(0, 1, .aload_n 0, 0, 0, 0), (1, 3, .invokevirtual 47, 81, 1, 2), (4, 1, .aload_n 0, 0, 0, 0), (5, 3, .invokevirtual 53, 82, 1, 2), (8, 1, .iload_n 1, 0, 0, 0), (9, 3, .if_icmp .ne 16, 0, 0, 0), (12, 1, .aload_n 0, 0, 0, 0), (13, 1, .dup, 0, 0, 0), (14, 3, .getfield 26, 2, 3, 0), (17, 1, .iconst 1, 0, 0, 0), (18, 1, .iadd, 0, 0, 0), (19, 3, .putfield 26, 2, 3, 0), (22, 3, .goto 12, 0, 0, 0), (25, 1, .aload_n 0, 0, 0, 0), (26, 1, .iconst 1, 0, 0, 0), (27, 1, .aload_n 0, 0, 0, 0), (28, 3, .getfield 26, 2, 3, 0), (31, 3, .invokevirtual 61, 84, 3, 2), (34, 1, .return_, 0, 0, 0)]
abbrev m_X7_expect : Nat := 79
def zc_X7_accept : List zE := [(0, 1, .aload_n 0, 0, 0, 0), (1, 3, .invokevirtual 47, 81, 1, 2), (4, 1, .aload_n 0, 0, 0, 0), (5, 3, .invokevirtual 53, 82, 1, 2), (8, 1, .iload_n 1, 0, 0, 0), (9, 3, .if_icmp .eq 5, 0, 0, 0), (12, 1, .iconst 0, 0, 0, 0), (13, 1, .ireturn, 0, 0, 0), (14, 1, .aload_n 0, 0, 0, 0), (15, 1, .dup, 0, 0, 0), (16, 3, .getfield 26, 2, 3, 0), (19, 1, .iconst 1, 0, 0, 0), (20, 1, .iadd, 0, 0, 0), (21, 3, .putfield 26, 2, 3, 0), (24, 1, .iconst 1, 0, 0, 0), (25, 1, .ireturn, 0, 0, 0)]
abbrev m_X7_accept : Nat := 80
def zc_X7_skipBlanks : List zE := [(0, 1, .aload_n 0, 0, 0, 0), (1, 3, .getfield 26, 2, 3, 0), (4, 1, .aload_n 0, 0, 0, 0), (5, 3, .getfield 22, 2, 2, 0), (8, 3, .if_icmp .ge 25, 0, 0, 0), (11, 1, .aload_n 0, 0, 0, 0), (12, 3, .invokevirtual 53, 82, 1, 2), (15, 2, .bipush 32, 0, 0, 0), (17, 3, .if_icmp .ne 16, 0, 0, 0), (20, 1, .aload_n 0, 0, 0, 0), (21, 1, .dup, 0, 0, 0), (22, 3, .getfield 26, 2, 3, 0), (25, 1, .iconst 1, 0, 0, 0), (26, 1, .iadd, 0, 0, 0), (27, 3, .putfield 26, 2, 3, 0), (30, 3, .goto (-30), 0, 0, 0), (33, 1, .return_, 0, 0, 0)]
abbrev m_X7_skipBlanks : Nat := 81
def zc_X7_letter : List zE := [(0, 1, .aload_n 0, 0, 0, 0), (1, 3, .getfield 26, 2, 3, 0), (4, 3, .ifCond .lt 38, 0, 0, 0), (7, 1, .aload_n 0, 0, 0, 0), (8, 3, .getfield 26, 2, 3, 0), (11, 1, .aload_n 0, 0, 0, 0), (12, 3, .getfield 22, 2, 2, 0), (15, 3, .if_icmp .ge 27, 0, 0, 0), (18, 1, .aload_n 0, 0, 0, 0), (19, 3, .getfield 26, 2, 3, 0), (22, 1, .aload_n 0, 0, 0, 0), (23, 3, .getfield 18, 2, 1, 0), (26, 1, .arraylength, 0, 0, 0), (27, 3, .if_icmp .ge 15, 0, 0, 0), (30, 1, .aload_n 0, 0, 0, 0), (31, 3, .getfield 18, 2, 1, 0), (34, 1, .aload_n 0, 0, 0, 0), (35, 3, .getfield 26, 2, 3, 0), (38, 1, .iaload, 0, 0, 0), (39, 3, .goto 4, 0, 0, 0), (42, 1, .iconst (-1), 0, 0, 0), (43, 1, .ireturn, 0, 0, 0)]
abbrev m_X7_letter : Nat := 82
def zc_X7_isFigure : List zE := [(0, 1, .iload_n 0, 0, 0, 0), (1, 2, .bipush 48, 0, 0, 0), (3, 3, .if_icmp .lt 13, 0, 0, 0), (6, 1, .iload_n 0, 0, 0, 0), (7, 2, .bipush 57, 0, 0, 0), (9, 3, .if_icmp .gt 7, 0, 0, 0), (12, 1, .iconst 1, 0, 0, 0), (13, 3, .goto 4, 0, 0, 0), (16, 1, .iconst 0, 0, 0, 0), (17, 1, .ireturn, 0, 0, 0)]
abbrev m_X7_isFigure : Nat := 83
def zc_X7_fail : List zE := [(0, 1, .aload_n 0, 0, 0, 0), (1, 3, .getfield 32, 2, 5, 0), (4, 3, .ifCond .eq 4, 0, 0, 0), (7, 1, .return_, 0, 0, 0), (8, 1, .aload_n 0, 0, 0, 0), (9, 1, .iload_n 1, 0, 0, 0), (10, 3, .putfield 32, 2, 5, 0), (13, 1, .aload_n 0, 0, 0, 0), (14, 1, .iload_n 2, 0, 0, 0), (15, 3, .putfield 35, 2, 6, 0), (18, 1, .return_, 0, 0, 0)]
abbrev m_X7_fail : Nat := 84
def zc_X8_keyOf : List zE := [(0, 1, .iconst 0, 0, 0, 0), (1, 1, .istore_n 2, 0, 0, 0), (2, 1, .aload_n 0, 0, 0, 0), (3, 3, .getfield 9, 4, 0, 0), (6, 1, .iload_n 1, 0, 0, 0), (7, 3, .invokevirtual 15, 16, 2, 3), (10, 1, .istore_n 3, 0, 0, 0), (11, 1, .iconst 0, 0, 0, 0), (12, 2, .istore 4, 0, 0, 0), (14, 2, .iload 4, 0, 0, 0), (16, 1, .iload_n 3, 0, 0, 0), (17, 3, .if_icmp .ge 19, 0, 0, 0), (20, 1, .iload_n 2, 0, 0, 0), (21, 1, .aload_n 0, 0, 0, 0), (22, 1, .iload_n 1, 0, 0, 0), (23, 2, .iload 4, 0, 0, 0), (25, 3, .invokevirtual 21, 37, 3, 4), (28, 1, .iadd, 0, 0, 0), (29, 1, .istore_n 2, 0, 0, 0), (30, 3, .iinc 4 1, 0, 0, 0), (33, 3, .goto (-19), 0, 0, 0), (36, 1, .iload_n 2, 0, 0, 0), (37, 2, .bipush 12, 0, 0, 0), (39, 1, .irem, 0, 0, 0), (40, 1, .ireturn, 0, 0, 0)]
abbrev m_X8_keyOf : Nat := 85
def zc_X8_repeatOf : List zE := [(0, 1, .aload_n 0, 0, 0, 0), (1, 3, .getfield 9, 4, 0, 0), (4, 1, .iload_n 1, 0, 0, 0), (5, 3, .invokevirtual 15, 16, 2, 3), (8, 1, .istore_n 2, 0, 0, 0), (9, 1, .iconst 1, 0, 0, 0), (10, 1, .istore_n 3, 0, 0, 0), (11, 1, .iload_n 3, 0, 0, 0), (12, 1, .iload_n 2, 0, 0, 0), (13, 3, .if_icmp .ge 20, 0, 0, 0), (16, 1, .aload_n 0, 0, 0, 0), (17, 1, .iload_n 1, 0, 0, 0), (18, 1, .iload_n 3, 0, 0, 0), (19, 3, .invokestatic 25, 87, 3, (-1)), (22, 3, .ifCond .eq 5, 0, 0, 0), (25, 1, .iload_n 3, 0, 0, 0), (26, 1, .ireturn, 0, 0, 0), (27, 3, .iinc 3 1, 0, 0, 0), (30, 3, .goto (-19), 0, 0, 0), (33, 1, .iload_n 2, 0, 0, 0), (34, 1, .ireturn, 0, 0, 0)]
abbrev m_X8_repeatOf : Nat := 86
def zc_X8_repeatsBy : List zE := [(0, 1, .aload_n 0, 0, 0, 0), (1, 3, .getfield 9, 4, 0, 0), (4, 1, .iload_n 1, 0, 0, 0), (5, 3, .invokevirtual 15, 16, 2, 3), (8, 1, .istore_n 3, 0, 0, 0), (9, 1, .iconst 0, 0, 0, 0), (10, 2, .istore 4, 0, 0, 0), (12, 2, .iload 4, 0, 0, 0), (14, 1, .iload_n 3, 0, 0, 0), (15, 3, .if_icmp .ge 30, 0, 0, 0), (18, 1, .aload_n 0, 0, 0, 0), (19, 1, .iload_n 1, 0, 0, 0), (20, 2, .iload 4, 0, 0, 0), (22, 3, .invokevirtual 21, 37, 3, 4), (25, 1, .aload_n 0, 0, 0, 0), (26, 1, .iload_n 1, 0, 0, 0), (27, 2, .iload 4, 0, 0, 0), (29, 1, .iload_n 2, 0, 0, 0), (30, 1, .iadd, 0, 0, 0), (31, 3, .invokevirtual 31, 38, 3, 4), (34, 3, .if_icmp .eq 5, 0, 0, 0), (37, 1, .iconst 0, 0, 0, 0), (38, 1, .ireturn, 0, 0, 0), (39, 3, .iinc 4 1, 0, 0, 0), (42, 3, .goto (-30), 0, 0, 0), (45, 1, .iconst 1, 0, 0, 0), (46, 1, .ireturn, 0, 0, 0)]
abbrev m_X8_repeatsBy : Nat := 87
def zc_X8_openRooms : List zE := [(0, 1, .iconst 0, 0, 0, 0), (1, 1, .istore_n 1, 0, 0, 0), (2, 1, .iconst 0, 0, 0, 0), (3, 1, .istore_n 2, 0, 0, 0), (4, 1, .iload_n 2, 0, 0, 0), (5, 1, .aload_n 0, 0, 0, 0), (6, 3, .getfield 9, 4, 0, 0), (9, 3, .getfield 34, 3, 2, 0), (12, 3, .if_icmp .ge 39, 0, 0, 0), (15, 1, .aload_n 0, 0, 0, 0), (16, 1, .iload_n 2, 0, 0, 0), (17, 1, .aload_n 0, 0, 0, 0), (18, 3, .getfield 9, 4, 0, 0), (21, 1, .iload_n 2, 0, 0, 0), (22, 3, .invokevirtual 15, 16, 2, 3), (25, 1, .iconst 1, 0, 0, 0), (26, 1, .isub, 0, 0, 0), (27, 3, .invokevirtual 21, 37, 3, 4), (30, 1, .aload_n 0, 0, 0, 0), (31, 1, .iload_n 2, 0, 0, 0), (32, 1, .iconst 0, 0, 0, 0), (33, 3, .invokevirtual 21, 37, 3, 4), (36, 3, .if_icmp .eq 9, 0, 0, 0), (39, 1, .iload_n 1, 0, 0, 0), (40, 1, .iconst 1, 0, 0, 0), (41, 1, .iload_n 2, 0, 0, 0), (42, 1, .ishl, 0, 0, 0), (43, 1, .ior, 0, 0, 0), (44, 1, .istore_n 1, 0, 0, 0), (45, 3, .iinc 2 1, 0, 0, 0), (48, 3, .goto (-44), 0, 0, 0), (51, 1, .iload_n 1, 0, 0, 0), (52, 1, .ireturn, 0, 0, 0)]
abbrev m_X8_openRooms : Nat := 88
def zc_X8_mostRead : List zE := [(0, 1, .iconst (-1), 0, 0, 0), (1, 1, .istore_n 1, 0, 0, 0), (2, 1, .iconst 0, 0, 0, 0), (3, 1, .istore_n 2, 0, 0, 0), (4, 1, .iconst 1, 0, 0, 0), (5, 1, .istore_n 3, 0, 0, 0), (6, 1, .iload_n 3, 0, 0, 0), (7, 2, .bipush 9, 0, 0, 0), (9, 3, .if_icmp .gt 27, 0, 0, 0), (12, 1, .aload_n 0, 0, 0, 0), (13, 1, .iload_n 3, 0, 0, 0), (14, 3, .invokestatic 38, 90, 2, (-1)), (17, 2, .istore 4, 0, 0, 0), (19, 2, .iload 4, 0, 0, 0), (21, 1, .iload_n 2, 0, 0, 0), (22, 3, .if_icmp .le 8, 0, 0, 0), (25, 2, .iload 4, 0, 0, 0), (27, 1, .istore_n 2, 0, 0, 0), (28, 1, .iload_n 3, 0, 0, 0), (29, 1, .istore_n 1, 0, 0, 0), (30, 3, .iinc 3 1, 0, 0, 0), (33, 3, .goto (-27), 0, 0, 0), (36, 1, .iload_n 1, 0, 0, 0), (37, 1, .ireturn, 0, 0, 0)]
abbrev m_X8_mostRead : Nat := 89
def zc_X8_howManyRead : List zE := [(0, 1, .iconst 0, 0, 0, 0), (1, 1, .istore_n 2, 0, 0, 0), (2, 1, .iconst 0, 0, 0, 0), (3, 1, .istore_n 3, 0, 0, 0), (4, 1, .iload_n 3, 0, 0, 0), (5, 1, .aload_n 0, 0, 0, 0), (6, 3, .getfield 9, 4, 0, 0), (9, 3, .getfield 34, 3, 2, 0), (12, 3, .if_icmp .ge 49, 0, 0, 0), (15, 1, .aload_n 0, 0, 0, 0), (16, 3, .getfield 9, 4, 0, 0), (19, 1, .iload_n 3, 0, 0, 0), (20, 3, .invokevirtual 15, 16, 2, 3), (23, 2, .istore 4, 0, 0, 0), (25, 1, .iconst 0, 0, 0, 0), (26, 2, .istore 5, 0, 0, 0), (28, 2, .iload 5, 0, 0, 0), (30, 2, .iload 4, 0, 0, 0), (32, 3, .if_icmp .ge 23, 0, 0, 0), (35, 1, .aload_n 0, 0, 0, 0), (36, 1, .iload_n 3, 0, 0, 0), (37, 2, .iload 5, 0, 0, 0), (39, 3, .invokevirtual 21, 37, 3, 4), (42, 1, .iload_n 1, 0, 0, 0), (43, 3, .if_icmp .ne 6, 0, 0, 0), (46, 3, .iinc 2 1, 0, 0, 0), (49, 3, .iinc 5 1, 0, 0, 0), (52, 3, .goto (-24), 0, 0, 0), (55, 3, .iinc 3 1, 0, 0, 0), (58, 3, .goto (-54), 0, 0, 0), (61, 1, .iload_n 2, 0, 0, 0), (62, 1, .ireturn, 0, 0, 0)]
abbrev m_X8_howManyRead : Nat := 90
def zc_X8_firstThatReads : List zE := [(0, 1, .aload_n 0, 0, 0, 0), (1, 3, .getfield 9, 4, 0, 0), (4, 1, .iload_n 1, 0, 0, 0), (5, 3, .invokevirtual 15, 16, 2, 3), (8, 1, .istore_n 3, 0, 0, 0), (9, 1, .iconst 0, 0, 0, 0), (10, 2, .istore 4, 0, 0, 0), (12, 2, .iload 4, 0, 0, 0), (14, 1, .iload_n 3, 0, 0, 0), (15, 3, .if_icmp .ge 23, 0, 0, 0), (18, 1, .aload_n 0, 0, 0, 0), (19, 1, .iload_n 1, 0, 0, 0), (20, 2, .iload 4, 0, 0, 0), (22, 3, .invokevirtual 21, 37, 3, 4), (25, 1, .iload_n 2, 0, 0, 0), (26, 3, .if_icmp .ne 6, 0, 0, 0), (29, 2, .iload 4, 0, 0, 0), (31, 1, .ireturn, 0, 0, 0), (32, 3, .iinc 4 1, 0, 0, 0), (35, 3, .goto (-23), 0, 0, 0), (38, 1, .iconst (-1), 0, 0, 0), (39, 1, .ireturn, 0, 0, 0)]
abbrev m_X8_firstThatReads : Nat := 91
def zc_X8_sharedEnd : List zE := [(0, 1, .aload_n 0, 0, 0, 0), (1, 3, .getfield 9, 4, 0, 0), (4, 1, .iload_n 1, 0, 0, 0), (5, 3, .invokevirtual 15, 16, 2, 3), (8, 1, .istore_n 3, 0, 0, 0), (9, 1, .iload_n 3, 0, 0, 0), (10, 1, .aload_n 0, 0, 0, 0), (11, 3, .getfield 9, 4, 0, 0), (14, 1, .iload_n 2, 0, 0, 0), (15, 3, .invokevirtual 15, 16, 2, 3), (18, 3, .invokestatic 42, 4, 2, (-1)), (21, 2, .istore 4, 0, 0, 0), (23, 2, .iload 4, 0, 0, 0), (25, 3, .ifCond .le 23, 0, 0, 0), (28, 1, .aload_n 0, 0, 0, 0), (29, 1, .iload_n 1, 0, 0, 0), (30, 1, .iload_n 2, 0, 0, 0), (31, 2, .iload 4, 0, 0, 0), (33, 3, .invokestatic 47, 93, 4, (-1)), (36, 3, .ifCond .eq 6, 0, 0, 0), (39, 2, .iload 4, 0, 0, 0), (41, 1, .ireturn, 0, 0, 0), (42, 3, .iinc 4 (-1), 0, 0, 0), (45, 3, .goto (-22), 0, 0, 0), (48, 1, .iconst 0, 0, 0, 0), (49, 1, .ireturn, 0, 0, 0)]
abbrev m_X8_sharedEnd : Nat := 92
def zc_X8_endsAsBegins : List zE := [(0, 1, .aload_n 0, 0, 0, 0), (1, 3, .getfield 9, 4, 0, 0), (4, 1, .iload_n 1, 0, 0, 0), (5, 3, .invokevirtual 15, 16, 2, 3), (8, 1, .iload_n 3, 0, 0, 0), (9, 1, .isub, 0, 0, 0), (10, 2, .istore 4, 0, 0, 0), (12, 1, .iconst 0, 0, 0, 0), (13, 2, .istore 5, 0, 0, 0), (15, 2, .iload 5, 0, 0, 0), (17, 1, .iload_n 3, 0, 0, 0), (18, 3, .if_icmp .ge 31, 0, 0, 0), (21, 1, .aload_n 0, 0, 0, 0), (22, 1, .iload_n 1, 0, 0, 0), (23, 2, .iload 4, 0, 0, 0), (25, 2, .iload 5, 0, 0, 0), (27, 1, .iadd, 0, 0, 0), (28, 3, .invokevirtual 21, 37, 3, 4), (31, 1, .aload_n 0, 0, 0, 0), (32, 1, .iload_n 2, 0, 0, 0), (33, 2, .iload 5, 0, 0, 0), (35, 3, .invokevirtual 21, 37, 3, 4), (38, 3, .if_icmp .eq 5, 0, 0, 0), (41, 1, .iconst 0, 0, 0, 0), (42, 1, .ireturn, 0, 0, 0), (43, 3, .iinc 5 1, 0, 0, 0), (46, 3, .goto (-31), 0, 0, 0), (49, 1, .iconst 1, 0, 0, 0), (50, 1, .ireturn, 0, 0, 0)]
abbrev m_X8_endsAsBegins : Nat := 93
def zc_X8_nearestRoom : List zE := [(0, 1, .aload_n 0, 0, 0, 0), (1, 1, .iload_n 1, 0, 0, 0), (2, 3, .invokestatic 51, 85, 2, (-1)), (5, 1, .istore_n 2, 0, 0, 0), (6, 1, .iconst (-1), 0, 0, 0), (7, 1, .istore_n 3, 0, 0, 0), (8, 2, .bipush 12, 0, 0, 0), (10, 2, .istore 4, 0, 0, 0), (12, 1, .iconst 0, 0, 0, 0), (13, 2, .istore 5, 0, 0, 0), (15, 2, .iload 5, 0, 0, 0), (17, 1, .aload_n 0, 0, 0, 0), (18, 3, .getfield 9, 4, 0, 0), (21, 3, .getfield 34, 3, 2, 0), (24, 3, .if_icmp .ge 41, 0, 0, 0), (27, 1, .iload_n 2, 0, 0, 0), (28, 1, .aload_n 0, 0, 0, 0), (29, 2, .iload 5, 0, 0, 0), (31, 3, .invokestatic 51, 85, 2, (-1)), (34, 3, .invokestatic 54, 95, 2, (-1)), (37, 2, .istore 6, 0, 0, 0), (39, 2, .iload 5, 0, 0, 0), (41, 1, .iload_n 1, 0, 0, 0), (42, 3, .if_icmp .eq 17, 0, 0, 0), (45, 2, .iload 6, 0, 0, 0), (47, 2, .iload 4, 0, 0, 0), (49, 3, .if_icmp .ge 10, 0, 0, 0), (52, 2, .iload 6, 0, 0, 0), (54, 2, .istore 4, 0, 0, 0), (56, 2, .iload 5, 0, 0, 0), (58, 1, .istore_n 3, 0, 0, 0), (59, 3, .iinc 5 1, 0, 0, 0), (62, 3, .goto (-47), 0, 0, 0), (65, 1, .iload_n 3, 0, 0, 0), (66, 1, .ireturn, 0, 0, 0)]
abbrev m_X8_nearestRoom : Nat := 94
def zc_X8_between : List zE := [(0, 1, .iload_n 0, 0, 0, 0), (1, 1, .iload_n 1, 0, 0, 0), (2, 1, .isub, 0, 0, 0), (3, 3, .invokestatic 57, 2, 1, (-1)), (6, 1, .istore_n 2, 0, 0, 0), (7, 1, .iload_n 2, 0, 0, 0), (8, 2, .bipush 12, 0, 0, 0), (10, 1, .iload_n 2, 0, 0, 0), (11, 1, .isub, 0, 0, 0), (12, 3, .invokestatic 42, 4, 2, (-1)), (15, 1, .ireturn, 0, 0, 0)]
abbrev m_X8_between : Nat := 95
def zc_X8_stepsBetween : List zE := [(0, 1, .iconst 1, 0, 0, 0), (1, 1, .iload_n 1, 0, 0, 0), (2, 1, .ishl, 0, 0, 0), (3, 1, .istore_n 3, 0, 0, 0), (4, 1, .iconst 0, 0, 0, 0), (5, 2, .istore 4, 0, 0, 0), (7, 2, .iload 4, 0, 0, 0), (9, 2, .bipush 6, 0, 0, 0), (11, 3, .if_icmp .ge 26, 0, 0, 0), (14, 1, .iload_n 3, 0, 0, 0), (15, 1, .iload_n 2, 0, 0, 0), (16, 3, .invokestatic 60, 102, 2, (-1)), (19, 3, .ifCond .eq 6, 0, 0, 0), (22, 2, .iload 4, 0, 0, 0), (24, 1, .ireturn, 0, 0, 0), (25, 1, .aload_n 0, 0, 0, 0), (26, 1, .iload_n 3, 0, 0, 0), (27, 3, .invokestatic 66, 97, 2, (-1)), (30, 1, .istore_n 3, 0, 0, 0), (31, 3, .iinc 4 1, 0, 0, 0), (34, 3, .goto (-27), 0, 0, 0), (37, 1, .iconst (-1), 0, 0, 0), (38, 1, .ireturn, 0, 0, 0)]
abbrev m_X8_stepsBetween : Nat := 96
def zc_X8_oneStepOn : List zE := [(0, 1, .iload_n 1, 0, 0, 0), (1, 1, .istore_n 2, 0, 0, 0), (2, 1, .iconst 0, 0, 0, 0), (3, 1, .istore_n 3, 0, 0, 0), (4, 1, .iload_n 3, 0, 0, 0), (5, 1, .aload_n 0, 0, 0, 0), (6, 3, .getfield 9, 4, 0, 0), (9, 3, .getfield 34, 3, 2, 0), (12, 3, .if_icmp .ge 70, 0, 0, 0), (15, 1, .iload_n 1, 0, 0, 0), (16, 1, .iload_n 3, 0, 0, 0), (17, 3, .invokestatic 60, 102, 2, (-1)), (20, 3, .ifCond .ne 6, 0, 0, 0), (23, 3, .goto 53, 0, 0, 0), (26, 1, .aload_n 0, 0, 0, 0), (27, 1, .iload_n 3, 0, 0, 0), (28, 3, .invokestatic 51, 85, 2, (-1)), (31, 2, .istore 4, 0, 0, 0), (33, 1, .iconst 0, 0, 0, 0), (34, 2, .istore 5, 0, 0, 0), (36, 2, .iload 5, 0, 0, 0), (38, 1, .aload_n 0, 0, 0, 0), (39, 3, .getfield 9, 4, 0, 0), (42, 3, .getfield 34, 3, 2, 0), (45, 3, .if_icmp .ge 31, 0, 0, 0), (48, 2, .iload 4, 0, 0, 0), (50, 1, .aload_n 0, 0, 0, 0), (51, 2, .iload 5, 0, 0, 0), (53, 3, .invokestatic 51, 85, 2, (-1)), (56, 3, .invokestatic 54, 95, 2, (-1)), (59, 1, .iconst 2, 0, 0, 0), (60, 3, .if_icmp .gt 10, 0, 0, 0), (63, 1, .iload_n 2, 0, 0, 0), (64, 1, .iconst 1, 0, 0, 0), (65, 2, .iload 5, 0, 0, 0), (67, 1, .ishl, 0, 0, 0), (68, 1, .ior, 0, 0, 0), (69, 1, .istore_n 2, 0, 0, 0), (70, 3, .iinc 5 1, 0, 0, 0), (73, 3, .goto (-37), 0, 0, 0), (76, 3, .iinc 3 1, 0, 0, 0), (79, 3, .goto (-75), 0, 0, 0), (82, 1, .iload_n 2, 0, 0, 0), (83, 1, .ireturn, 0, 0, 0)]
abbrev m_X8_oneStepOn : Nat := 97
def zc_X9_at : List zE := [(0, 1, .iload_n 1, 0, 0, 0), (1, 3, .ifCond .lt 15, 0, 0, 0), (4, 1, .iload_n 1, 0, 0, 0), (5, 1, .aload_n 0, 0, 0, 0), (6, 1, .arraylength, 0, 0, 0), (7, 3, .if_icmp .ge 9, 0, 0, 0), (10, 1, .aload_n 0, 0, 0, 0), (11, 1, .iload_n 1, 0, 0, 0), (12, 1, .iaload, 0, 0, 0), (13, 3, .goto 4, 0, 0, 0), (16, 1, .iconst 0, 0, 0, 0), (17, 1, .ireturn, 0, 0, 0)]
abbrev m_X9_at : Nat := 98
def zc_X9_put : List zE := [(0, 1, .iload_n 1, 0, 0, 0), (1, 3, .ifCond .lt 13, 0, 0, 0), (4, 1, .iload_n 1, 0, 0, 0), (5, 1, .aload_n 0, 0, 0, 0), (6, 1, .arraylength, 0, 0, 0), (7, 3, .if_icmp .ge 7, 0, 0, 0), (10, 1, .aload_n 0, 0, 0, 0), (11, 1, .iload_n 1, 0, 0, 0), (12, 1, .iload_n 2, 0, 0, 0), (13, 1, .iastore, 0, 0, 0), (14, 1, .return_, 0, 0, 0)]
abbrev m_X9_put : Nat := 99
def zc_X9_copy : List zE := [(0, 1, .aload_n 0, 0, 0, 0), (1, 1, .iconst 0, 0, 0, 0), (2, 1, .aload_n 1, 0, 0, 0), (3, 1, .iconst 0, 0, 0, 0), (4, 1, .aload_n 0, 0, 0, 0), (5, 1, .arraylength, 0, 0, 0), (6, 1, .aload_n 1, 0, 0, 0), (7, 1, .arraylength, 0, 0, 0), (8, 3, .invokestatic 7, 4, 2, (-1)), (11, 3, .invokestatic 13, 0, 5, (-1)), (14, 1, .return_, 0, 0, 0)]
abbrev m_X9_copy : Nat := 100
def zc_X9_leftOver : List zE := [(0, 1, .iload_n 1, 0, 0, 0), (1, 3, .ifCond .le 9, 0, 0, 0), (4, 1, .iload_n 0, 0, 0, 0), (5, 1, .iload_n 1, 0, 0, 0), (6, 1, .irem, 0, 0, 0), (7, 3, .goto 4, 0, 0, 0), (10, 1, .iconst 0, 0, 0, 0), (11, 1, .ireturn, 0, 0, 0)]
abbrev m_X9_leftOver : Nat := 101
def zc_X9_isIn : List zE := [(0, 1, .iload_n 1, 0, 0, 0), (1, 3, .ifCond .lt 22, 0, 0, 0), (4, 1, .iload_n 1, 0, 0, 0), (5, 2, .bipush 31, 0, 0, 0), (7, 3, .if_icmp .ge 16, 0, 0, 0), (10, 1, .iload_n 0, 0, 0, 0), (11, 1, .iload_n 1, 0, 0, 0), (12, 1, .ishr, 0, 0, 0), (13, 1, .iconst 1, 0, 0, 0), (14, 1, .iand, 0, 0, 0), (15, 1, .iconst 1, 0, 0, 0), (16, 3, .if_icmp .ne 7, 0, 0, 0), (19, 1, .iconst 1, 0, 0, 0), (20, 3, .goto 4, 0, 0, 0), (23, 1, .iconst 0, 0, 0, 0), (24, 1, .ireturn, 0, 0, 0)]
abbrev m_X9_isIn : Nat := 102
def zc_X10_seen : List zE := [(0, 1, .aload_n 0, 0, 0, 0), (1, 3, .getfield 33, 7, 7, 0), (4, 1, .ireturn, 0, 0, 0)]
abbrev m_X10_seen : Nat := 103
def zc_X10_entries : List zE := [(0, 1, .aload_n 0, 0, 0, 0), (1, 3, .getfield 37, 7, 8, 0), (4, 1, .ireturn, 0, 0, 0)]
abbrev m_X10_entries : Nat := 104
def zc_X10_forget : List zE := [(0, 1, .aload_n 0, 0, 0, 0), (1, 1, .iconst 0, 0, 0, 0), (2, 3, .putfield 33, 7, 7, 0), (5, 1, .aload_n 0, 0, 0, 0), (6, 1, .iconst 0, 0, 0, 0), (7, 3, .putfield 37, 7, 8, 0), (10, 1, .return_, 0, 0, 0)]
abbrev m_X10_forget : Nat := 105
def zc_X10_addSeen : List zE := [(0, 1, .aload_n 0, 0, 0, 0), (1, 3, .getfield 33, 7, 7, 0), (4, 2, .bipush 6, 0, 0, 0), (6, 3, .if_icmp .lt 5, 0, 0, 0), (9, 1, .iconst 0, 0, 0, 0), (10, 1, .ireturn, 0, 0, 0), (11, 1, .aload_n 0, 0, 0, 0), (12, 3, .getfield 9, 7, 0, 0), (15, 1, .aload_n 0, 0, 0, 0), (16, 3, .getfield 33, 7, 7, 0), (19, 1, .iload_n 1, 0, 0, 0), (20, 3, .invokestatic 43, 99, 3, (-1)), (23, 1, .aload_n 0, 0, 0, 0), (24, 3, .getfield 15, 7, 1, 0), (27, 1, .aload_n 0, 0, 0, 0), (28, 3, .getfield 33, 7, 7, 0), (31, 1, .iload_n 2, 0, 0, 0), (32, 3, .invokestatic 43, 99, 3, (-1)), (35, 1, .aload_n 0, 0, 0, 0), (36, 1, .dup, 0, 0, 0), (37, 3, .getfield 33, 7, 7, 0), (40, 1, .iconst 1, 0, 0, 0), (41, 1, .iadd, 0, 0, 0), (42, 3, .putfield 33, 7, 7, 0), (45, 1, .iconst 1, 0, 0, 0), (46, 1, .ireturn, 0, 0, 0)]
abbrev m_X10_addSeen : Nat := 106
def zc_X10_addEntry : List zE := [(0, 1, .aload_n 0, 0, 0, 0), (1, 3, .getfield 37, 7, 8, 0), (4, 2, .bipush 20, 0, 0, 0), (6, 3, .if_icmp .lt 5, 0, 0, 0), (9, 1, .iconst 0, 0, 0, 0), (10, 1, .ireturn, 0, 0, 0), (11, 1, .aload_n 0, 0, 0, 0), (12, 3, .getfield 18, 7, 2, 0), (15, 1, .aload_n 0, 0, 0, 0), (16, 3, .getfield 37, 7, 8, 0), (19, 1, .iload_n 1, 0, 0, 0), (20, 3, .invokestatic 43, 99, 3, (-1)), (23, 1, .aload_n 0, 0, 0, 0), (24, 3, .getfield 21, 7, 3, 0), (27, 1, .aload_n 0, 0, 0, 0), (28, 3, .getfield 37, 7, 8, 0), (31, 1, .iload_n 2, 0, 0, 0), (32, 3, .invokestatic 43, 99, 3, (-1)), (35, 1, .aload_n 0, 0, 0, 0), (36, 3, .getfield 24, 7, 4, 0), (39, 1, .aload_n 0, 0, 0, 0), (40, 3, .getfield 37, 7, 8, 0), (43, 1, .iload_n 3, 0, 0, 0), (44, 3, .invokestatic 43, 99, 3, (-1)), (47, 1, .aload_n 0, 0, 0, 0), (48, 1, .dup, 0, 0, 0), (49, 3, .getfield 37, 7, 8, 0), (52, 1, .iconst 1, 0, 0, 0), (53, 1, .iadd, 0, 0, 0), (54, 3, .putfield 37, 7, 8, 0), (57, 1, .iconst 1, 0, 0, 0), (58, 1, .ireturn, 0, 0, 0)]
abbrev m_X10_addEntry : Nat := 107
def zc_X10_firstWrong : List zE := [(0, 1, .iconst 0, 0, 0, 0), (1, 1, .istore_n 2, 0, 0, 0), (2, 1, .iload_n 2, 0, 0, 0), (3, 1, .aload_n 0, 0, 0, 0), (4, 3, .getfield 37, 7, 8, 0), (7, 3, .if_icmp .ge 44, 0, 0, 0), (10, 1, .aload_n 1, 0, 0, 0), (11, 1, .aload_n 0, 0, 0, 0), (12, 3, .getfield 18, 7, 2, 0), (15, 1, .iload_n 2, 0, 0, 0), (16, 3, .invokestatic 49, 98, 2, (-1)), (19, 1, .aload_n 0, 0, 0, 0), (20, 3, .getfield 21, 7, 3, 0), (23, 1, .iload_n 2, 0, 0, 0), (24, 3, .invokestatic 49, 98, 2, (-1)), (27, 3, .invokevirtual 53, 37, 3, 4), (30, 1, .istore_n 3, 0, 0, 0), (31, 1, .iload_n 3, 0, 0, 0), (32, 1, .aload_n 0, 0, 0, 0), (33, 3, .getfield 24, 7, 4, 0), (36, 1, .iload_n 2, 0, 0, 0), (37, 3, .invokestatic 49, 98, 2, (-1)), (40, 3, .if_icmp .eq 5, 0, 0, 0), (43, 1, .iload_n 2, 0, 0, 0), (44, 1, .ireturn, 0, 0, 0), (45, 3, .iinc 2 1, 0, 0, 0), (48, 3, .goto (-46), 0, 0, 0), (51, 1, .iconst (-1), 0, 0, 0), (52, 1, .ireturn, 0, 0, 0)]
abbrev m_X10_firstWrong : Nat := 108
def zc_X10_findPlaces : List zE := [(0, 1, .aload_n 0, 0, 0, 0), (1, 1, .iconst 0, 0, 0, 0), (2, 3, .putfield 40, 7, 9, 0), (5, 1, .iconst 0, 0, 0, 0), (6, 1, .istore_n 2, 0, 0, 0), (7, 1, .iload_n 2, 0, 0, 0), (8, 1, .aload_n 1, 0, 0, 0), (9, 3, .getfield 59, 4, 0, 0), (12, 3, .getfield 63, 3, 2, 0), (15, 3, .if_icmp .ge 75, 0, 0, 0), (18, 1, .aload_n 1, 0, 0, 0), (19, 3, .getfield 59, 4, 0, 0), (22, 1, .iload_n 2, 0, 0, 0), (23, 3, .invokevirtual 68, 16, 2, 3), (26, 1, .istore_n 3, 0, 0, 0), (27, 1, .iconst 0, 0, 0, 0), (28, 2, .istore 4, 0, 0, 0), (30, 2, .iload 4, 0, 0, 0), (32, 1, .iload_n 3, 0, 0, 0), (33, 3, .if_icmp .ge 51, 0, 0, 0), (36, 1, .aload_n 0, 0, 0, 0), (37, 1, .aload_n 1, 0, 0, 0), (38, 1, .iload_n 2, 0, 0, 0), (39, 2, .iload 4, 0, 0, 0), (41, 3, .invokevirtual 72, 114, 4, 7), (44, 3, .ifCond .ne 6, 0, 0, 0), (47, 3, .goto 31, 0, 0, 0), (50, 1, .aload_n 0, 0, 0, 0), (51, 3, .getfield 27, 7, 5, 0), (54, 1, .aload_n 0, 0, 0, 0), (55, 3, .getfield 40, 7, 9, 0), (58, 1, .iload_n 2, 0, 0, 0), (59, 2, .bipush 100, 0, 0, 0), (61, 1, .imul, 0, 0, 0), (62, 2, .iload 4, 0, 0, 0), (64, 1, .iadd, 0, 0, 0), (65, 3, .invokestatic 43, 99, 3, (-1)), (68, 1, .aload_n 0, 0, 0, 0), (69, 1, .dup, 0, 0, 0), (70, 3, .getfield 40, 7, 9, 0), (73, 1, .iconst 1, 0, 0, 0), (74, 1, .iadd, 0, 0, 0), (75, 3, .putfield 40, 7, 9, 0), (78, 3, .iinc 4 1, 0, 0, 0), (81, 3, .goto (-51), 0, 0, 0), (84, 3, .iinc 2 1, 0, 0, 0), (87, 3, .goto (-80), 0, 0, 0), (90, 1, .return_, 0, 0, 0)]
abbrev m_X10_findPlaces : Nat := 109
def zc_X10_found : List zE := [(0, 1, .aload_n 0, 0, 0, 0), (1, 3, .getfield 40, 7, 9, 0), (4, 1, .ireturn, 0, 0, 0)]
abbrev m_X10_found : Nat := 110
def zc_X10_firstFound : List zE := [(0, 1, .aload_n 0, 0, 0, 0), (1, 3, .getfield 40, 7, 9, 0), (4, 3, .ifCond .ne 7, 0, 0, 0), (7, 1, .iconst (-1), 0, 0, 0), (8, 3, .goto 11, 0, 0, 0), (11, 1, .aload_n 0, 0, 0, 0), (12, 3, .getfield 27, 7, 5, 0), (15, 1, .iconst 0, 0, 0, 0), (16, 3, .invokestatic 49, 98, 2, (-1)), (19, 1, .ireturn, 0, 0, 0)]
abbrev m_X10_firstFound : Nat := 111
def zc_X10_roomsFound : List zE := [(0, 1, .iconst 0, 0, 0, 0), (1, 1, .istore_n 1, 0, 0, 0), (2, 1, .iconst 0, 0, 0, 0), (3, 1, .istore_n 2, 0, 0, 0), (4, 1, .iload_n 2, 0, 0, 0), (5, 1, .aload_n 0, 0, 0, 0), (6, 3, .getfield 40, 7, 9, 0), (9, 3, .if_icmp .ge 25, 0, 0, 0), (12, 1, .iload_n 1, 0, 0, 0), (13, 1, .iconst 1, 0, 0, 0), (14, 1, .aload_n 0, 0, 0, 0), (15, 3, .getfield 27, 7, 5, 0), (18, 1, .iload_n 2, 0, 0, 0), (19, 3, .invokestatic 49, 98, 2, (-1)), (22, 2, .bipush 100, 0, 0, 0), (24, 1, .idiv, 0, 0, 0), (25, 1, .ishl, 0, 0, 0), (26, 1, .ior, 0, 0, 0), (27, 1, .istore_n 1, 0, 0, 0), (28, 3, .iinc 2 1, 0, 0, 0), (31, 3, .goto (-27), 0, 0, 0), (34, 1, .iload_n 1, 0, 0, 0), (35, 1, .ireturn, 0, 0, 0)]
abbrev m_X10_roomsFound : Nat := 112
def zc_X10_bestLook : List zE := [(0, 1, .iconst (-1), 0, 0, 0), (1, 1, .istore_n 2, 0, 0, 0), (2, 1, .aload_n 0, 0, 0, 0), (3, 3, .getfield 40, 7, 9, 0), (6, 1, .istore_n 3, 0, 0, 0), (7, 1, .iconst 0, 0, 0, 0), (8, 2, .istore 4, 0, 0, 0), (10, 2, .iload 4, 0, 0, 0), (12, 2, .bipush 12, 0, 0, 0), (14, 3, .if_icmp .ge 30, 0, 0, 0), (17, 1, .aload_n 0, 0, 0, 0), (18, 1, .aload_n 1, 0, 0, 0), (19, 2, .iload 4, 0, 0, 0), (21, 3, .invokevirtual 76, 115, 3, 7), (24, 2, .istore 5, 0, 0, 0), (26, 2, .iload 5, 0, 0, 0), (28, 1, .iload_n 3, 0, 0, 0), (29, 3, .if_icmp .ge 9, 0, 0, 0), (32, 2, .iload 5, 0, 0, 0), (34, 1, .istore_n 3, 0, 0, 0), (35, 2, .iload 4, 0, 0, 0), (37, 1, .istore_n 2, 0, 0, 0), (38, 3, .iinc 4 1, 0, 0, 0), (41, 3, .goto (-31), 0, 0, 0), (44, 1, .iload_n 2, 0, 0, 0), (45, 1, .ireturn, 0, 0, 0)]
abbrev m_X10_bestLook : Nat := 113
def zc_X10_fits : List zE := [(0, 1, .iconst 0, 0, 0, 0), (1, 2, .istore 4, 0, 0, 0), (3, 2, .iload 4, 0, 0, 0), (5, 1, .aload_n 0, 0, 0, 0), (6, 3, .getfield 33, 7, 7, 0), (9, 3, .if_icmp .ge 39, 0, 0, 0), (12, 1, .aload_n 1, 0, 0, 0), (13, 1, .iload_n 2, 0, 0, 0), (14, 1, .iload_n 3, 0, 0, 0), (15, 1, .aload_n 0, 0, 0, 0), (16, 3, .getfield 9, 7, 0, 0), (19, 2, .iload 4, 0, 0, 0), (21, 3, .invokestatic 49, 98, 2, (-1)), (24, 1, .iadd, 0, 0, 0), (25, 3, .invokevirtual 80, 38, 3, 4), (28, 1, .aload_n 0, 0, 0, 0), (29, 3, .getfield 15, 7, 1, 0), (32, 2, .iload 4, 0, 0, 0), (34, 3, .invokestatic 49, 98, 2, (-1)), (37, 3, .if_icmp .eq 5, 0, 0, 0), (40, 1, .iconst 0, 0, 0, 0), (41, 1, .ireturn, 0, 0, 0), (42, 3, .iinc 4 1, 0, 0, 0), (45, 3, .goto (-42), 0, 0, 0), (48, 1, .iconst 1, 0, 0, 0), (49, 1, .ireturn, 0, 0, 0)]
abbrev m_X10_fits : Nat := 114
def zc_X10_greatestPart : List zE := [(0, 1, .aload_n 0, 0, 0, 0), (1, 3, .getfield 30, 7, 6, 0), (4, 1, .iconst 0, 0, 0, 0), (5, 3, .invokestatic 83, 5, 2, (-1)), (8, 1, .iconst 0, 0, 0, 0), (9, 1, .istore_n 3, 0, 0, 0), (10, 1, .iconst 0, 0, 0, 0), (11, 2, .istore 4, 0, 0, 0), (13, 2, .iload 4, 0, 0, 0), (15, 1, .aload_n 0, 0, 0, 0), (16, 3, .getfield 40, 7, 9, 0), (19, 3, .if_icmp .ge 69, 0, 0, 0), (22, 1, .aload_n 0, 0, 0, 0), (23, 3, .getfield 27, 7, 5, 0), (26, 2, .iload 4, 0, 0, 0), (28, 3, .invokestatic 49, 98, 2, (-1)), (31, 2, .istore 5, 0, 0, 0), (33, 1, .aload_n 1, 0, 0, 0), (34, 2, .iload 5, 0, 0, 0), (36, 2, .bipush 100, 0, 0, 0), (38, 1, .idiv, 0, 0, 0), (39, 2, .iload 5, 0, 0, 0), (41, 2, .bipush 100, 0, 0, 0), (43, 1, .irem, 0, 0, 0), (44, 1, .iload_n 2, 0, 0, 0), (45, 1, .iadd, 0, 0, 0), (46, 3, .invokevirtual 80, 38, 3, 4), (49, 2, .istore 6, 0, 0, 0), (51, 1, .aload_n 0, 0, 0, 0), (52, 3, .getfield 30, 7, 6, 0), (55, 2, .iload 6, 0, 0, 0), (57, 3, .invokestatic 49, 98, 2, (-1)), (60, 1, .iconst 1, 0, 0, 0), (61, 1, .iadd, 0, 0, 0), (62, 2, .istore 7, 0, 0, 0), (64, 1, .aload_n 0, 0, 0, 0), (65, 3, .getfield 30, 7, 6, 0), (68, 2, .iload 6, 0, 0, 0), (70, 2, .iload 7, 0, 0, 0), (72, 3, .invokestatic 43, 99, 3, (-1)), (75, 1, .iload_n 3, 0, 0, 0), (76, 2, .iload 7, 0, 0, 0), (78, 3, .invokestatic 89, 3, 2, (-1)), (81, 1, .istore_n 3, 0, 0, 0), (82, 3, .iinc 4 1, 0, 0, 0), (85, 3, .goto (-72), 0, 0, 0), (88, 1, .iload_n 3, 0, 0, 0), (89, 1, .ireturn, 0, 0, 0)]
abbrev m_X10_greatestPart : Nat := 115
def zc_X11_feed : List zE := [(0, 1, .iload_n 1, 0, 0, 0), (1, 3, .sipush 255, 0, 0, 0), (4, 3, .invokestatic 67, 153, 2, (-1)), (7, 3, .ifCond .eq 6, 0, 0, 0), (10, 2, .ldc 71, 0, 0, (-1000000002)), (12, 1, .ireturn, 0, 0, 0), (13, 1, .aload_n 0, 0, 0, 0), (14, 3, .getfield 10, 1, 0, 0), (17, 1, .iload_n 1, 0, 0, 0), (18, 3, .invokevirtual 72, 70, 2, 2), (21, 3, .ifCond .eq 13, 0, 0, 0), (24, 1, .aload_n 0, 0, 0, 0), (25, 3, .getfield 10, 1, 0, 0), (28, 3, .invokevirtual 76, 67, 1, 2), (31, 3, .goto 5, 0, 0, 0), (34, 2, .ldc 80, 0, 0, (-1000000004)), (36, 1, .ireturn, 0, 0, 0)]
abbrev m_X11_feed : Nat := 116
def zc_X11_house : List zE := [(0, 1, .aload_n 0, 0, 0, 0), (1, 3, .getfield 10, 1, 0, 0), (4, 3, .invokevirtual 81, 71, 1, 2), (7, 1, .istore_n 1, 0, 0, 0), (8, 1, .iload_n 1, 0, 0, 0), (9, 3, .ifCond .eq 8, 0, 0, 0), (12, 2, .bipush (-10), 0, 0, 0), (14, 1, .iload_n 1, 0, 0, 0), (15, 1, .isub, 0, 0, 0), (16, 1, .ireturn, 0, 0, 0), (17, 1, .aload_n 0, 0, 0, 0), (18, 3, .getfield 19, 1, 1, 0), (21, 1, .aload_n 0, 0, 0, 0), (22, 3, .getfield 10, 1, 0, 0), (25, 3, .invokevirtual 84, 69, 1, 2), (28, 3, .invokevirtual 88, 10, 2, 3), (31, 1, .aload_n 0, 0, 0, 0), (32, 3, .getfield 28, 1, 2, 0), (35, 3, .invokevirtual 91, 31, 1, 4), (38, 1, .aload_n 0, 0, 0, 0), (39, 3, .getfield 38, 1, 4, 0), (42, 3, .invokevirtual 94, 63, 1, 5), (45, 1, .aload_n 0, 0, 0, 0), (46, 3, .getfield 45, 1, 5, 0), (49, 3, .invokevirtual 97, 26, 1, 6), (52, 1, .aload_n 0, 0, 0, 0), (53, 3, .getfield 52, 1, 6, 0), (56, 3, .invokevirtual 98, 105, 1, 7), (59, 1, .aload_n 0, 0, 0, 0), (60, 3, .getfield 19, 1, 1, 0), (63, 3, .getfield 99, 3, 2, 0), (66, 1, .ireturn, 0, 0, 0)]
abbrev m_X11_house : Nat := 117
def zc_X11_fault : List zE := [(0, 1, .aload_n 0, 0, 0, 0), (1, 3, .getfield 10, 1, 0, 0), (4, 3, .invokevirtual 102, 68, 1, 2), (7, 1, .ireturn, 0, 0, 0)]
abbrev m_X11_fault : Nat := 118
def zc_X11_told : List zE := [(0, 1, .iload_n 1, 0, 0, 0), (1, 71, .tableswitch 197 0 13 #[71, 93, 101, 109, 117, 125, 133, 141, 149, 157, 165, 173, 181, 189], 0, 0, 0), (72, 1, .aload_n 0, 0, 0, 0), (73, 3, .getfield 19, 1, 1, 0), (76, 3, .getfield 105, 3, 0, 0), (79, 3, .ifCond .eq 13, 0, 0, 0), (82, 1, .aload_n 0, 0, 0, 0), (83, 3, .getfield 19, 1, 1, 0), (86, 3, .getfield 109, 3, 1, 0), (89, 3, .goto 4, 0, 0, 0), (92, 1, .iconst (-1), 0, 0, 0), (93, 1, .ireturn, 0, 0, 0), (94, 1, .aload_n 0, 0, 0, 0), (95, 3, .getfield 19, 1, 1, 0), (98, 3, .getfield 99, 3, 2, 0), (101, 1, .ireturn, 0, 0, 0), (102, 1, .aload_n 0, 0, 0, 0), (103, 3, .getfield 19, 1, 1, 0), (106, 3, .getfield 112, 3, 3, 0), (109, 1, .ireturn, 0, 0, 0), (110, 1, .aload_n 0, 0, 0, 0), (111, 3, .getfield 19, 1, 1, 0), (114, 3, .getfield 115, 3, 4, 0), (117, 1, .ireturn, 0, 0, 0), (118, 1, .aload_n 0, 0, 0, 0), (119, 3, .getfield 10, 1, 0, 0), (122, 3, .invokevirtual 76, 67, 1, 2), (125, 1, .ireturn, 0, 0, 0), (126, 1, .aload_n 0, 0, 0, 0), (127, 3, .getfield 28, 1, 2, 0), (130, 3, .getfield 118, 4, 1, 0), (133, 1, .ireturn, 0, 0, 0), (134, 1, .aload_n 0, 0, 0, 0), (135, 3, .getfield 28, 1, 2, 0), (138, 3, .getfield 121, 4, 2, 0), (141, 1, .ireturn, 0, 0, 0), (142, 1, .aload_n 0, 0, 0, 0), (143, 3, .getfield 28, 1, 2, 0), (146, 3, .invokevirtual 124, 47, 1, 4), (149, 1, .ireturn, 0, 0, 0), (150, 1, .aload_n 0, 0, 0, 0), (151, 3, .getfield 28, 1, 2, 0), (154, 3, .invokestatic 127, 88, 1, (-1)), (157, 1, .ireturn, 0, 0, 0), (158, 1, .aload_n 0, 0, 0, 0), (159, 3, .getfield 28, 1, 2, 0), (162, 3, .invokevirtual 133, 34, 1, 4), (165, 1, .ireturn, 0, 0, 0), (166, 1, .aload_n 0, 0, 0, 0), (167, 3, .getfield 28, 1, 2, 0), (170, 3, .invokestatic 136, 89, 1, (-1)), (173, 1, .ireturn, 0, 0, 0), (174, 1, .aload_n 0, 0, 0, 0), (175, 3, .getfield 52, 1, 6, 0), (178, 3, .invokevirtual 139, 103, 1, 7), (181, 1, .ireturn, 0, 0, 0), (182, 1, .aload_n 0, 0, 0, 0), (183, 3, .getfield 52, 1, 6, 0), (186, 3, .invokevirtual 142, 104, 1, 7), (189, 1, .ireturn, 0, 0, 0), (190, 1, .aload_n 0, 0, 0, 0), (191, 3, .getfield 38, 1, 4, 0), (194, 3, .invokevirtual 145, 62, 1, 5), (197, 1, .ireturn, 0, 0, 0), (198, 2, .ldc 71, 0, 0, (-1000000002)), (200, 1, .ireturn, 0, 0, 0)]
abbrev m_X11_told : Nat := 119
def zc_X11_room : List zE := [(0, 1, .aload_n 0, 0, 0, 0), (1, 3, .getfield 19, 1, 1, 0), (4, 1, .iload_n 1, 0, 0, 0), (5, 3, .invokevirtual 148, 11, 2, 3), (8, 3, .ifCond .ne 6, 0, 0, 0), (11, 2, .ldc 151, 0, 0, (-1000000001)), (13, 1, .ireturn, 0, 0, 0), (14, 1, .iload_n 2, 0, 0, 0), (15, 33, .tableswitch 86 0 4 #[33, 42, 51, 60, 69], 0, 0, 0), (48, 1, .aload_n 0, 0, 0, 0), (49, 3, .getfield 19, 1, 1, 0), (52, 1, .iload_n 1, 0, 0, 0), (53, 3, .invokevirtual 152, 16, 2, 3), (56, 1, .ireturn, 0, 0, 0), (57, 1, .aload_n 0, 0, 0, 0), (58, 3, .getfield 28, 1, 2, 0), (61, 1, .iload_n 1, 0, 0, 0), (62, 3, .invokevirtual 156, 33, 2, 4), (65, 1, .ireturn, 0, 0, 0), (66, 1, .aload_n 0, 0, 0, 0), (67, 3, .getfield 28, 1, 2, 0), (70, 1, .iload_n 1, 0, 0, 0), (71, 3, .invokestatic 159, 85, 2, (-1)), (74, 1, .ireturn, 0, 0, 0), (75, 1, .aload_n 0, 0, 0, 0), (76, 3, .getfield 28, 1, 2, 0), (79, 1, .iload_n 1, 0, 0, 0), (80, 3, .invokestatic 163, 86, 2, (-1)), (83, 1, .ireturn, 0, 0, 0), (84, 1, .aload_n 0, 0, 0, 0), (85, 3, .getfield 19, 1, 1, 0), (88, 1, .iload_n 1, 0, 0, 0), (89, 3, .invokevirtual 166, 15, 2, 3), (92, 3, .ifCond .eq 7, 0, 0, 0), (95, 1, .iconst 1, 0, 0, 0), (96, 3, .goto 4, 0, 0, 0), (99, 1, .iconst 0, 0, 0, 0), (100, 1, .ireturn, 0, 0, 0), (101, 2, .ldc 71, 0, 0, (-1000000002)), (103, 1, .ireturn, 0, 0, 0)]
abbrev m_X11_room : Nat := 120
def zc_X11_bar : List zE := [(0, 1, .aload_n 0, 0, 0, 0), (1, 3, .getfield 19, 1, 1, 0), (4, 1, .iload_n 1, 0, 0, 0), (5, 1, .iload_n 2, 0, 0, 0), (6, 3, .invokevirtual 169, 12, 3, 3), (9, 3, .ifCond .ne 6, 0, 0, 0), (12, 2, .ldc 151, 0, 0, (-1000000001)), (14, 1, .ireturn, 0, 0, 0), (15, 1, .iload_n 3, 0, 0, 0), (16, 28, .tableswitch 58 0 2 #[28, 38, 48], 0, 0, 0), (44, 1, .aload_n 0, 0, 0, 0), (45, 3, .getfield 19, 1, 1, 0), (48, 1, .iload_n 1, 0, 0, 0), (49, 1, .iload_n 2, 0, 0, 0), (50, 3, .invokevirtual 172, 17, 3, 3), (53, 1, .ireturn, 0, 0, 0), (54, 1, .aload_n 0, 0, 0, 0), (55, 3, .getfield 19, 1, 1, 0), (58, 1, .iload_n 1, 0, 0, 0), (59, 1, .iload_n 2, 0, 0, 0), (60, 3, .invokevirtual 176, 18, 3, 3), (63, 1, .ireturn, 0, 0, 0), (64, 1, .aload_n 0, 0, 0, 0), (65, 3, .getfield 28, 1, 2, 0), (68, 1, .iload_n 1, 0, 0, 0), (69, 1, .iload_n 2, 0, 0, 0), (70, 3, .invokevirtual 179, 37, 3, 4), (73, 1, .ireturn, 0, 0, 0), (74, 2, .ldc 71, 0, 0, (-1000000002)), (76, 1, .ireturn, 0, 0, 0)]
abbrev m_X11_bar : Nat := 121
def zc_X11_person : List zE := [(0, 1, .aload_n 0, 0, 0, 0), (1, 3, .getfield 19, 1, 1, 0), (4, 1, .iload_n 1, 0, 0, 0), (5, 3, .invokevirtual 182, 13, 2, 3), (8, 3, .ifCond .ne 6, 0, 0, 0), (11, 2, .ldc 151, 0, 0, (-1000000001)), (13, 1, .ireturn, 0, 0, 0), (14, 1, .iload_n 2, 0, 0, 0), (15, 29, .tableswitch 65 0 3 #[29, 38, 47, 56], 0, 0, 0), (44, 1, .aload_n 0, 0, 0, 0), (45, 3, .getfield 28, 1, 2, 0), (48, 1, .iload_n 1, 0, 0, 0), (49, 3, .invokevirtual 185, 39, 2, 4), (52, 1, .ireturn, 0, 0, 0), (53, 1, .aload_n 0, 0, 0, 0), (54, 3, .getfield 28, 1, 2, 0), (57, 1, .iload_n 1, 0, 0, 0), (58, 3, .invokevirtual 188, 40, 2, 4), (61, 1, .ireturn, 0, 0, 0), (62, 1, .aload_n 0, 0, 0, 0), (63, 3, .getfield 28, 1, 2, 0), (66, 1, .iload_n 1, 0, 0, 0), (67, 3, .invokevirtual 191, 41, 2, 4), (70, 1, .ireturn, 0, 0, 0), (71, 1, .aload_n 0, 0, 0, 0), (72, 3, .getfield 28, 1, 2, 0), (75, 1, .iload_n 1, 0, 0, 0), (76, 3, .invokevirtual 194, 42, 2, 4), (79, 1, .ireturn, 0, 0, 0), (80, 2, .ldc 71, 0, 0, (-1000000002)), (82, 1, .ireturn, 0, 0, 0)]
abbrev m_X11_person : Nat := 122
def zc_X11_wall : List zE := [(0, 1, .aload_n 0, 0, 0, 0), (1, 3, .getfield 19, 1, 1, 0), (4, 1, .iload_n 1, 0, 0, 0), (5, 3, .invokevirtual 197, 14, 2, 3), (8, 3, .ifCond .ne 6, 0, 0, 0), (11, 2, .ldc 151, 0, 0, (-1000000001)), (13, 1, .ireturn, 0, 0, 0), (14, 1, .iload_n 2, 0, 0, 0), (15, 1, .iconst 3, 0, 0, 0), (16, 3, .invokestatic 67, 153, 2, (-1)), (19, 3, .ifCond .eq 6, 0, 0, 0), (22, 2, .ldc 71, 0, 0, (-1000000002)), (24, 1, .ireturn, 0, 0, 0), (25, 1, .aload_n 0, 0, 0, 0), (26, 3, .getfield 19, 1, 1, 0), (29, 1, .iload_n 1, 0, 0, 0), (30, 1, .iload_n 2, 0, 0, 0), (31, 3, .invokevirtual 200, 20, 3, 3), (34, 1, .ireturn, 0, 0, 0)]
abbrev m_X11_wall : Nat := 123
def zc_X11_logged : List zE := [(0, 1, .iload_n 2, 0, 0, 0), (1, 1, .iconst 2, 0, 0, 0), (2, 3, .invokestatic 67, 153, 2, (-1)), (5, 3, .ifCond .eq 6, 0, 0, 0), (8, 2, .ldc 71, 0, 0, (-1000000002)), (10, 1, .ireturn, 0, 0, 0), (11, 1, .iload_n 1, 0, 0, 0), (12, 1, .aload_n 0, 0, 0, 0), (13, 3, .getfield 28, 1, 2, 0), (16, 3, .invokevirtual 124, 47, 1, 4), (19, 1, .iconst 1, 0, 0, 0), (20, 1, .isub, 0, 0, 0), (21, 3, .invokestatic 67, 153, 2, (-1)), (24, 3, .ifCond .eq 5, 0, 0, 0), (27, 1, .iconst (-1), 0, 0, 0), (28, 1, .ireturn, 0, 0, 0), (29, 1, .aload_n 0, 0, 0, 0), (30, 3, .getfield 28, 1, 2, 0), (33, 1, .iload_n 1, 0, 0, 0), (34, 1, .iload_n 2, 0, 0, 0), (35, 3, .invokevirtual 203, 48, 3, 4), (38, 1, .ireturn, 0, 0, 0)]
abbrev m_X11_logged : Nat := 124
def zc_X11_hour : List zE := [(0, 1, .aload_n 0, 0, 0, 0), (1, 1, .iload_n 1, 0, 0, 0), (2, 3, .invokevirtual 206, 155, 2, 1), (5, 1, .istore_n 2, 0, 0, 0), (6, 1, .iload_n 2, 0, 0, 0), (7, 3, .ifCond .eq 5, 0, 0, 0), (10, 1, .iload_n 2, 0, 0, 0), (11, 1, .ireturn, 0, 0, 0), (12, 1, .iconst 0, 0, 0, 0), (13, 1, .istore_n 3, 0, 0, 0), (14, 1, .iload_n 3, 0, 0, 0), (15, 1, .iload_n 1, 0, 0, 0), (16, 3, .if_icmp .ge 28, 0, 0, 0), (19, 1, .aload_n 0, 0, 0, 0), (20, 3, .getfield 38, 1, 4, 0), (23, 1, .aload_n 0, 0, 0, 0), (24, 3, .getfield 28, 1, 2, 0), (27, 3, .invokevirtual 209, 64, 2, 5), (30, 1, .aload_n 0, 0, 0, 0), (31, 3, .getfield 28, 1, 2, 0), (34, 3, .invokestatic 212, 55, 1, (-1)), (37, 1, .pop, 0, 0, 0), (38, 3, .iinc 3 1, 0, 0, 0), (41, 3, .goto (-27), 0, 0, 0), (44, 1, .aload_n 0, 0, 0, 0), (45, 3, .getfield 28, 1, 2, 0), (48, 3, .getfield 121, 4, 2, 0), (51, 1, .ireturn, 0, 0, 0)]
abbrev m_X11_hour : Nat := 125
def zc_X11_lift : List zE := [(0, 1, .aload_n 0, 0, 0, 0), (1, 1, .iload_n 1, 0, 0, 0), (2, 1, .iload_n 2, 0, 0, 0), (3, 1, .iconst 0, 0, 0, 0), (4, 3, .invokevirtual 217, 156, 4, 1), (7, 1, .ireturn, 0, 0, 0)]
abbrev m_X11_lift : Nat := 126
def zc_X11_paste : List zE := [(0, 1, .aload_n 0, 0, 0, 0), (1, 1, .iload_n 1, 0, 0, 0), (2, 1, .iload_n 2, 0, 0, 0), (3, 1, .iconst 1, 0, 0, 0), (4, 3, .invokevirtual 217, 156, 4, 1), (7, 1, .ireturn, 0, 0, 0)]
abbrev m_X11_paste : Nat := 127
def zc_X11_moveTo : List zE := [(0, 1, .aload_n 0, 0, 0, 0), (1, 3, .getfield 19, 1, 1, 0), (4, 1, .iload_n 1, 0, 0, 0), (5, 3, .invokevirtual 182, 13, 2, 3), (8, 3, .ifCond .eq 14, 0, 0, 0), (11, 1, .aload_n 0, 0, 0, 0), (12, 3, .getfield 19, 1, 1, 0), (15, 1, .iload_n 2, 0, 0, 0), (16, 3, .invokevirtual 148, 11, 2, 3), (19, 3, .ifCond .ne 6, 0, 0, 0), (22, 2, .ldc 151, 0, 0, (-1000000001)), (24, 1, .ireturn, 0, 0, 0), (25, 1, .aload_n 0, 0, 0, 0), (26, 3, .getfield 28, 1, 2, 0), (29, 1, .iload_n 1, 0, 0, 0), (30, 3, .invokevirtual 185, 39, 2, 4), (33, 1, .iload_n 2, 0, 0, 0), (34, 3, .if_icmp .ne 7, 0, 0, 0), (37, 1, .iconst (-1), 0, 0, 0), (38, 3, .goto 19, 0, 0, 0), (41, 1, .aload_n 0, 0, 0, 0), (42, 3, .getfield 28, 1, 2, 0), (45, 1, .iload_n 2, 0, 0, 0), (46, 1, .aload_n 0, 0, 0, 0), (47, 3, .getfield 28, 1, 2, 0), (50, 1, .iload_n 1, 0, 0, 0), (51, 3, .invokevirtual 194, 42, 2, 4), (54, 3, .invokestatic 221, 91, 3, (-1)), (57, 1, .istore_n 3, 0, 0, 0), (58, 1, .iload_n 3, 0, 0, 0), (59, 1, .iconst (-1), 0, 0, 0), (60, 3, .if_icmp .ne 6, 0, 0, 0), (63, 2, .ldc 225, 0, 0, (-1000000003)), (65, 1, .ireturn, 0, 0, 0), (66, 1, .aload_n 0, 0, 0, 0), (67, 3, .getfield 38, 1, 4, 0), (70, 1, .aload_n 0, 0, 0, 0), (71, 3, .getfield 28, 1, 2, 0), (74, 3, .invokevirtual 209, 64, 2, 5), (77, 1, .aload_n 0, 0, 0, 0), (78, 3, .getfield 28, 1, 2, 0), (81, 1, .iload_n 1, 0, 0, 0), (82, 1, .iload_n 2, 0, 0, 0), (83, 1, .iload_n 3, 0, 0, 0), (84, 3, .invokevirtual 226, 44, 4, 4), (87, 1, .iload_n 3, 0, 0, 0), (88, 1, .ireturn, 0, 0, 0)]
abbrev m_X11_moveTo : Nat := 128
def zc_X11_pace : List zE := [(0, 1, .aload_n 0, 0, 0, 0), (1, 3, .getfield 19, 1, 1, 0), (4, 1, .iload_n 1, 0, 0, 0), (5, 3, .invokevirtual 182, 13, 2, 3), (8, 3, .ifCond .ne 6, 0, 0, 0), (11, 2, .ldc 151, 0, 0, (-1000000001)), (13, 1, .ireturn, 0, 0, 0), (14, 1, .iload_n 2, 0, 0, 0), (15, 2, .bipush 9, 0, 0, 0), (17, 3, .invokestatic 67, 153, 2, (-1)), (20, 3, .ifCond .eq 6, 0, 0, 0), (23, 2, .ldc 71, 0, 0, (-1000000002)), (25, 1, .ireturn, 0, 0, 0), (26, 1, .aload_n 0, 0, 0, 0), (27, 3, .getfield 28, 1, 2, 0), (30, 1, .iload_n 1, 0, 0, 0), (31, 3, .invokevirtual 191, 41, 2, 4), (34, 1, .istore_n 3, 0, 0, 0), (35, 1, .aload_n 0, 0, 0, 0), (36, 3, .getfield 38, 1, 4, 0), (39, 1, .aload_n 0, 0, 0, 0), (40, 3, .getfield 28, 1, 2, 0), (43, 3, .invokevirtual 209, 64, 2, 5), (46, 1, .aload_n 0, 0, 0, 0), (47, 3, .getfield 28, 1, 2, 0), (50, 1, .iload_n 1, 0, 0, 0), (51, 1, .iload_n 2, 0, 0, 0), (52, 3, .invokevirtual 230, 45, 3, 4), (55, 1, .iload_n 3, 0, 0, 0), (56, 1, .ireturn, 0, 0, 0)]
abbrev m_X11_pace : Nat := 129
def zc_X11_drift : List zE := [(0, 1, .aload_n 0, 0, 0, 0), (1, 1, .iload_n 1, 0, 0, 0), (2, 3, .invokevirtual 206, 155, 2, 1), (5, 1, .istore_n 2, 0, 0, 0), (6, 1, .iload_n 2, 0, 0, 0), (7, 3, .ifCond .eq 5, 0, 0, 0), (10, 1, .iload_n 2, 0, 0, 0), (11, 1, .ireturn, 0, 0, 0), (12, 1, .iconst 0, 0, 0, 0), (13, 1, .istore_n 3, 0, 0, 0), (14, 1, .iload_n 3, 0, 0, 0), (15, 1, .iload_n 1, 0, 0, 0), (16, 3, .if_icmp .ge 32, 0, 0, 0), (19, 1, .aload_n 0, 0, 0, 0), (20, 3, .getfield 38, 1, 4, 0), (23, 1, .aload_n 0, 0, 0, 0), (24, 3, .getfield 28, 1, 2, 0), (27, 3, .invokevirtual 209, 64, 2, 5), (30, 1, .aload_n 0, 0, 0, 0), (31, 3, .invokevirtual 234, 159, 1, 1), (34, 1, .aload_n 0, 0, 0, 0), (35, 3, .getfield 28, 1, 2, 0), (38, 3, .invokestatic 212, 55, 1, (-1)), (41, 1, .pop, 0, 0, 0), (42, 3, .iinc 3 1, 0, 0, 0), (45, 3, .goto (-31), 0, 0, 0), (48, 1, .aload_n 0, 0, 0, 0), (49, 3, .getfield 28, 1, 2, 0), (52, 3, .getfield 121, 4, 2, 0), (55, 1, .ireturn, 0, 0, 0)]
abbrev m_X11_drift : Nat := 130
def zc_X11_undo : List zE := [(0, 1, .iload_n 1, 0, 0, 0), (1, 1, .iconst 1, 0, 0, 0), (2, 3, .if_icmp .lt 9, 0, 0, 0), (5, 1, .iload_n 1, 0, 0, 0), (6, 2, .bipush 30, 0, 0, 0), (8, 3, .if_icmp .le 6, 0, 0, 0), (11, 2, .ldc 71, 0, 0, (-1000000002)), (13, 1, .ireturn, 0, 0, 0), (14, 1, .iload_n 1, 0, 0, 0), (15, 1, .aload_n 0, 0, 0, 0), (16, 3, .getfield 38, 1, 4, 0), (19, 3, .invokevirtual 145, 62, 1, 5), (22, 3, .if_icmp .le 6, 0, 0, 0), (25, 2, .ldc 225, 0, 0, (-1000000003)), (27, 1, .ireturn, 0, 0, 0), (28, 1, .aload_n 0, 0, 0, 0), (29, 3, .getfield 38, 1, 4, 0), (32, 1, .iload_n 1, 0, 0, 0), (33, 1, .aload_n 0, 0, 0, 0), (34, 3, .getfield 28, 1, 2, 0), (37, 3, .invokevirtual 237, 65, 3, 5), (40, 1, .aload_n 0, 0, 0, 0), (41, 3, .getfield 28, 1, 2, 0), (44, 3, .getfield 118, 4, 1, 0), (47, 1, .ireturn, 0, 0, 0)]
abbrev m_X11_undo : Nat := 131
def zc_X11_where : List zE := [(0, 1, .aload_n 0, 0, 0, 0), (1, 3, .getfield 19, 1, 1, 0), (4, 1, .iload_n 1, 0, 0, 0), (5, 3, .invokevirtual 182, 13, 2, 3), (8, 3, .ifCond .ne 6, 0, 0, 0), (11, 2, .ldc 151, 0, 0, (-1000000001)), (13, 1, .ireturn, 0, 0, 0), (14, 1, .iload_n 2, 0, 0, 0), (15, 2, .bipush 99, 0, 0, 0), (17, 3, .invokestatic 67, 153, 2, (-1)), (20, 3, .ifCond .eq 6, 0, 0, 0), (23, 2, .ldc 71, 0, 0, (-1000000002)), (25, 1, .ireturn, 0, 0, 0), (26, 1, .aload_n 0, 0, 0, 0), (27, 1, .iload_n 2, 0, 0, 0), (28, 3, .invokevirtual 241, 157, 2, 1), (31, 1, .pop, 0, 0, 0), (32, 1, .aload_n 0, 0, 0, 0), (33, 3, .getfield 32, 1, 3, 0), (36, 1, .iload_n 1, 0, 0, 0), (37, 3, .invokevirtual 188, 40, 2, 4), (40, 1, .ireturn, 0, 0, 0)]
abbrev m_X11_where : Nat := 132
def zc_X11_meets : List zE := [(0, 1, .iload_n 1, 0, 0, 0), (1, 2, .bipush 99, 0, 0, 0), (3, 3, .invokestatic 67, 153, 2, (-1)), (6, 3, .ifCond .eq 6, 0, 0, 0), (9, 2, .ldc 71, 0, 0, (-1000000002)), (11, 1, .ireturn, 0, 0, 0), (12, 1, .aload_n 0, 0, 0, 0), (13, 1, .iload_n 1, 0, 0, 0), (14, 3, .invokevirtual 241, 157, 2, 1), (17, 1, .ireturn, 0, 0, 0)]
abbrev m_X11_meets : Nat := 133
def zc_X11_together : List zE := [(0, 1, .aload_n 0, 0, 0, 0), (1, 3, .getfield 19, 1, 1, 0), (4, 1, .iload_n 1, 0, 0, 0), (5, 3, .invokevirtual 182, 13, 2, 3), (8, 3, .ifCond .eq 19, 0, 0, 0), (11, 1, .aload_n 0, 0, 0, 0), (12, 3, .getfield 19, 1, 1, 0), (15, 1, .iload_n 2, 0, 0, 0), (16, 3, .invokevirtual 182, 13, 2, 3), (19, 3, .ifCond .eq 8, 0, 0, 0), (22, 1, .iload_n 1, 0, 0, 0), (23, 1, .iload_n 2, 0, 0, 0), (24, 3, .if_icmp .ne 6, 0, 0, 0), (27, 2, .ldc 151, 0, 0, (-1000000001)), (29, 1, .ireturn, 0, 0, 0), (30, 1, .aload_n 0, 0, 0, 0), (31, 3, .getfield 32, 1, 3, 0), (34, 1, .aload_n 0, 0, 0, 0), (35, 3, .getfield 28, 1, 2, 0), (38, 3, .invokevirtual 244, 32, 2, 4), (41, 1, .iconst 1, 0, 0, 0), (42, 1, .istore_n 3, 0, 0, 0), (43, 1, .iload_n 3, 0, 0, 0), (44, 3, .sipush 200, 0, 0, 0), (47, 3, .if_icmp .gt 31, 0, 0, 0), (50, 1, .aload_n 0, 0, 0, 0), (51, 3, .getfield 32, 1, 3, 0), (54, 3, .invokestatic 212, 55, 1, (-1)), (57, 1, .pop, 0, 0, 0), (58, 1, .aload_n 0, 0, 0, 0), (59, 3, .getfield 32, 1, 3, 0), (62, 1, .iload_n 1, 0, 0, 0), (63, 1, .iload_n 2, 0, 0, 0), (64, 3, .invokestatic 246, 56, 3, (-1)), (67, 3, .ifCond .eq 5, 0, 0, 0), (70, 1, .iload_n 3, 0, 0, 0), (71, 1, .ireturn, 0, 0, 0), (72, 3, .iinc 3 1, 0, 0, 0), (75, 3, .goto (-32), 0, 0, 0), (78, 1, .iconst (-1), 0, 0, 0), (79, 1, .ireturn, 0, 0, 0)]
abbrev m_X11_together : Nat := 134
def zc_X11_canon : List zE := [(0, 1, .aload_n 0, 0, 0, 0), (1, 1, .iload_n 1, 0, 0, 0), (2, 1, .iload_n 2, 0, 0, 0), (3, 3, .invokevirtual 250, 154, 3, 1), (6, 3, .ifCond .ne 6, 0, 0, 0), (9, 2, .ldc 151, 0, 0, (-1000000001)), (11, 1, .ireturn, 0, 0, 0), (12, 1, .iload_n 3, 0, 0, 0), (13, 2, .bipush 11, 0, 0, 0), (15, 3, .invokestatic 67, 153, 2, (-1)), (18, 3, .ifCond .eq 6, 0, 0, 0), (21, 2, .ldc 71, 0, 0, (-1000000002)), (23, 1, .ireturn, 0, 0, 0), (24, 1, .aload_n 0, 0, 0, 0), (25, 3, .getfield 28, 1, 2, 0), (28, 1, .iload_n 1, 0, 0, 0), (29, 1, .iload_n 2, 0, 0, 0), (30, 1, .iload_n 3, 0, 0, 0), (31, 3, .invokestatic 253, 6, 4, (-1)), (34, 1, .ireturn, 0, 0, 0)]
abbrev m_X11_canon : Nat := 135
def zc_X11_bestCanon : List zE := [(0, 1, .aload_n 0, 0, 0, 0), (1, 1, .iload_n 1, 0, 0, 0), (2, 1, .iload_n 2, 0, 0, 0), (3, 3, .invokevirtual 250, 154, 3, 1), (6, 3, .ifCond .ne 6, 0, 0, 0), (9, 2, .ldc 151, 0, 0, (-1000000001)), (11, 1, .ireturn, 0, 0, 0), (12, 1, .iload_n 3, 0, 0, 0), (13, 1, .iconst 1, 0, 0, 0), (14, 3, .invokestatic 67, 153, 2, (-1)), (17, 3, .ifCond .eq 6, 0, 0, 0), (20, 2, .ldc 71, 0, 0, (-1000000002)), (22, 1, .ireturn, 0, 0, 0), (23, 1, .aload_n 0, 0, 0, 0), (24, 3, .getfield 28, 1, 2, 0), (27, 1, .iload_n 1, 0, 0, 0), (28, 1, .iload_n 2, 0, 0, 0), (29, 3, .invokestatic 259, 7, 3, (-1)), (32, 2, .istore 4, 0, 0, 0), (34, 1, .iload_n 3, 0, 0, 0), (35, 3, .ifCond .ne 8, 0, 0, 0), (38, 2, .iload 4, 0, 0, 0), (40, 3, .goto 14, 0, 0, 0), (43, 1, .aload_n 0, 0, 0, 0), (44, 3, .getfield 28, 1, 2, 0), (47, 1, .iload_n 1, 0, 0, 0), (48, 1, .iload_n 2, 0, 0, 0), (49, 2, .iload 4, 0, 0, 0), (51, 3, .invokestatic 253, 6, 4, (-1)), (54, 1, .ireturn, 0, 0, 0)]
abbrev m_X11_bestCanon : Nat := 136
def zc_X11_match : List zE := [(0, 1, .aload_n 0, 0, 0, 0), (1, 1, .iload_n 1, 0, 0, 0), (2, 1, .iload_n 2, 0, 0, 0), (3, 3, .invokevirtual 250, 154, 3, 1), (6, 3, .ifCond .ne 6, 0, 0, 0), (9, 2, .ldc 151, 0, 0, (-1000000001)), (11, 1, .ireturn, 0, 0, 0), (12, 1, .iload_n 3, 0, 0, 0), (13, 2, .bipush 11, 0, 0, 0), (15, 3, .invokestatic 67, 153, 2, (-1)), (18, 3, .ifCond .ne 12, 0, 0, 0), (21, 2, .iload 4, 0, 0, 0), (23, 1, .iconst 1, 0, 0, 0), (24, 3, .invokestatic 67, 153, 2, (-1)), (27, 3, .ifCond .eq 6, 0, 0, 0), (30, 2, .ldc 71, 0, 0, (-1000000002)), (32, 1, .ireturn, 0, 0, 0), (33, 1, .aload_n 0, 0, 0, 0), (34, 3, .getfield 28, 1, 2, 0), (37, 1, .iload_n 1, 0, 0, 0), (38, 1, .iload_n 2, 0, 0, 0), (39, 1, .iload_n 3, 0, 0, 0), (40, 3, .invokestatic 262, 8, 4, (-1)), (43, 2, .istore 5, 0, 0, 0), (45, 2, .iload 4, 0, 0, 0), (47, 1, .iconst 1, 0, 0, 0), (48, 3, .if_icmp .eq 9, 0, 0, 0), (51, 2, .iload 5, 0, 0, 0), (53, 1, .iconst (-1), 0, 0, 0), (54, 3, .if_icmp .ne 8, 0, 0, 0), (57, 2, .iload 5, 0, 0, 0), (59, 3, .goto 8, 0, 0, 0), (62, 2, .iload 5, 0, 0, 0), (64, 3, .invokestatic 265, 1, 1, (-1)), (67, 1, .ireturn, 0, 0, 0)]
abbrev m_X11_match : Nat := 137
def zc_X11_join : List zE := [(0, 1, .aload_n 0, 0, 0, 0), (1, 1, .iload_n 1, 0, 0, 0), (2, 1, .iload_n 2, 0, 0, 0), (3, 3, .invokevirtual 250, 154, 3, 1), (6, 3, .ifCond .ne 6, 0, 0, 0), (9, 2, .ldc 151, 0, 0, (-1000000001)), (11, 1, .ireturn, 0, 0, 0), (12, 1, .aload_n 0, 0, 0, 0), (13, 3, .getfield 28, 1, 2, 0), (16, 1, .iload_n 1, 0, 0, 0), (17, 1, .iload_n 2, 0, 0, 0), (18, 3, .invokestatic 270, 92, 3, (-1)), (21, 1, .ireturn, 0, 0, 0)]
abbrev m_X11_join : Nat := 138
def zc_X11_shortest : List zE := [(0, 1, .iload_n 1, 0, 0, 0), (1, 1, .iconst 1, 0, 0, 0), (2, 3, .invokestatic 67, 153, 2, (-1)), (5, 3, .ifCond .eq 6, 0, 0, 0), (8, 2, .ldc 71, 0, 0, (-1000000002)), (10, 1, .ireturn, 0, 0, 0), (11, 1, .aload_n 0, 0, 0, 0), (12, 3, .getfield 19, 1, 1, 0), (15, 3, .getfield 99, 3, 2, 0), (18, 3, .ifCond .ne 5, 0, 0, 0), (21, 1, .iconst (-1), 0, 0, 0), (22, 1, .ireturn, 0, 0, 0), (23, 1, .aload_n 0, 0, 0, 0), (24, 3, .getfield 59, 1, 7, 0), (27, 1, .aload_n 0, 0, 0, 0), (28, 3, .getfield 28, 1, 2, 0), (31, 3, .invokevirtual 273, 49, 2, 8), (34, 1, .iload_n 1, 0, 0, 0), (35, 3, .ifCond .ne 13, 0, 0, 0), (38, 1, .aload_n 0, 0, 0, 0), (39, 3, .getfield 59, 1, 7, 0), (42, 3, .invokevirtual 276, 50, 1, 8), (45, 3, .goto 10, 0, 0, 0), (48, 1, .aload_n 0, 0, 0, 0), (49, 3, .getfield 59, 1, 7, 0), (52, 3, .invokevirtual 279, 51, 1, 8), (55, 1, .ireturn, 0, 0, 0)]
abbrev m_X11_shortest : Nat := 139
def zc_X11_nearest : List zE := [(0, 1, .aload_n 0, 0, 0, 0), (1, 3, .getfield 19, 1, 1, 0), (4, 1, .iload_n 1, 0, 0, 0), (5, 3, .invokevirtual 148, 11, 2, 3), (8, 3, .ifCond .ne 6, 0, 0, 0), (11, 2, .ldc 151, 0, 0, (-1000000001)), (13, 1, .ireturn, 0, 0, 0), (14, 1, .aload_n 0, 0, 0, 0), (15, 3, .getfield 28, 1, 2, 0), (18, 1, .iload_n 1, 0, 0, 0), (19, 3, .invokestatic 282, 94, 2, (-1)), (22, 1, .ireturn, 0, 0, 0)]
abbrev m_X11_nearest : Nat := 140
def zc_X11_modulation : List zE := [(0, 1, .aload_n 0, 0, 0, 0), (1, 3, .getfield 19, 1, 1, 0), (4, 1, .iload_n 1, 0, 0, 0), (5, 3, .invokevirtual 148, 11, 2, 3), (8, 3, .ifCond .eq 14, 0, 0, 0), (11, 1, .aload_n 0, 0, 0, 0), (12, 3, .getfield 19, 1, 1, 0), (15, 1, .iload_n 2, 0, 0, 0), (16, 3, .invokevirtual 148, 11, 2, 3), (19, 3, .ifCond .ne 6, 0, 0, 0), (22, 2, .ldc 151, 0, 0, (-1000000001)), (24, 1, .ireturn, 0, 0, 0), (25, 1, .aload_n 0, 0, 0, 0), (26, 3, .getfield 28, 1, 2, 0), (29, 1, .iload_n 1, 0, 0, 0), (30, 1, .iload_n 2, 0, 0, 0), (31, 3, .invokestatic 285, 96, 3, (-1)), (34, 1, .ireturn, 0, 0, 0)]
abbrev m_X11_modulation : Nat := 141
def zc_X11_sounds : List zE := [(0, 1, .iload_n 1, 0, 0, 0), (1, 2, .bipush 9, 0, 0, 0), (3, 3, .invokestatic 67, 153, 2, (-1)), (6, 3, .ifCond .eq 6, 0, 0, 0), (9, 2, .ldc 71, 0, 0, (-1000000002)), (11, 1, .ireturn, 0, 0, 0), (12, 1, .iconst 0, 0, 0, 0), (13, 1, .istore_n 2, 0, 0, 0), (14, 1, .iconst 0, 0, 0, 0), (15, 1, .istore_n 3, 0, 0, 0), (16, 1, .iload_n 3, 0, 0, 0), (17, 1, .aload_n 0, 0, 0, 0), (18, 3, .getfield 19, 1, 1, 0), (21, 3, .getfield 112, 3, 3, 0), (24, 3, .if_icmp .ge 27, 0, 0, 0), (27, 1, .aload_n 0, 0, 0, 0), (28, 3, .getfield 28, 1, 2, 0), (31, 1, .iload_n 3, 0, 0, 0), (32, 3, .invokevirtual 194, 42, 2, 4), (35, 1, .iload_n 1, 0, 0, 0), (36, 3, .if_icmp .ne 9, 0, 0, 0), (39, 1, .iload_n 2, 0, 0, 0), (40, 1, .iconst 1, 0, 0, 0), (41, 1, .iload_n 3, 0, 0, 0), (42, 1, .ishl, 0, 0, 0), (43, 1, .ior, 0, 0, 0), (44, 1, .istore_n 2, 0, 0, 0), (45, 3, .iinc 3 1, 0, 0, 0), (48, 3, .goto (-32), 0, 0, 0), (51, 1, .iload_n 2, 0, 0, 0), (52, 1, .ireturn, 0, 0, 0)]
abbrev m_X11_sounds : Nat := 142
def zc_X11_dry : List zE := [(0, 1, .iload_n 1, 0, 0, 0), (1, 2, .bipush 60, 0, 0, 0), (3, 3, .invokestatic 67, 153, 2, (-1)), (6, 3, .ifCond .ne 12, 0, 0, 0), (9, 1, .iload_n 2, 0, 0, 0), (10, 2, .bipush 100, 0, 0, 0), (12, 3, .invokestatic 67, 153, 2, (-1)), (15, 3, .ifCond .eq 6, 0, 0, 0), (18, 2, .ldc 71, 0, 0, (-1000000002)), (20, 1, .ireturn, 0, 0, 0), (21, 3, .ldc2_w 288, 0, 0, 1000000000), (24, 1, .lstore_n 3, 0, 0, 0), (25, 1, .iconst 0, 0, 0, 0), (26, 2, .istore 5, 0, 0, 0), (28, 2, .iload 5, 0, 0, 0), (30, 1, .iload_n 1, 0, 0, 0), (31, 3, .if_icmp .ge 18, 0, 0, 0), (34, 1, .lload_n 3, 0, 0, 0), (35, 1, .iload_n 2, 0, 0, 0), (36, 1, .i2l, 0, 0, 0), (37, 1, .lmul, 0, 0, 0), (38, 3, .ldc2_w 290, 0, 0, 100), (41, 1, .ldiv, 0, 0, 0), (42, 1, .lstore_n 3, 0, 0, 0), (43, 3, .iinc 5 1, 0, 0, 0), (46, 3, .goto (-18), 0, 0, 0), (49, 1, .lload_n 3, 0, 0, 0), (50, 1, .l2i, 0, 0, 0), (51, 1, .ireturn, 0, 0, 0)]
abbrev m_X11_dry : Nat := 143
def zc_X11_see : List zE := [(0, 1, .iload_n 1, 0, 0, 0), (1, 2, .bipush 11, 0, 0, 0), (3, 3, .invokestatic 67, 153, 2, (-1)), (6, 3, .ifCond .ne 12, 0, 0, 0), (9, 1, .iload_n 2, 0, 0, 0), (10, 2, .bipush 9, 0, 0, 0), (12, 3, .invokestatic 67, 153, 2, (-1)), (15, 3, .ifCond .eq 6, 0, 0, 0), (18, 2, .ldc 71, 0, 0, (-1000000002)), (20, 1, .ireturn, 0, 0, 0), (21, 1, .aload_n 0, 0, 0, 0), (22, 3, .getfield 52, 1, 6, 0), (25, 1, .iload_n 1, 0, 0, 0), (26, 1, .iload_n 2, 0, 0, 0), (27, 3, .invokevirtual 292, 106, 3, 7), (30, 3, .ifCond .eq 13, 0, 0, 0), (33, 1, .aload_n 0, 0, 0, 0), (34, 3, .getfield 52, 1, 6, 0), (37, 3, .invokevirtual 139, 103, 1, 7), (40, 3, .goto 5, 0, 0, 0), (43, 2, .ldc 80, 0, 0, (-1000000004)), (45, 1, .ireturn, 0, 0, 0)]
abbrev m_X11_see : Nat := 144
def zc_X11_places : List zE := [(0, 1, .iload_n 1, 0, 0, 0), (1, 1, .iconst 2, 0, 0, 0), (2, 3, .invokestatic 67, 153, 2, (-1)), (5, 3, .ifCond .eq 6, 0, 0, 0), (8, 2, .ldc 71, 0, 0, (-1000000002)), (10, 1, .ireturn, 0, 0, 0), (11, 1, .aload_n 0, 0, 0, 0), (12, 3, .getfield 52, 1, 6, 0), (15, 1, .aload_n 0, 0, 0, 0), (16, 3, .getfield 28, 1, 2, 0), (19, 3, .invokevirtual 295, 109, 2, 7), (22, 1, .iload_n 1, 0, 0, 0), (23, 3, .ifCond .ne 11, 0, 0, 0), (26, 1, .aload_n 0, 0, 0, 0), (27, 3, .getfield 52, 1, 6, 0), (30, 3, .invokevirtual 298, 110, 1, 7), (33, 1, .ireturn, 0, 0, 0), (34, 1, .iload_n 1, 0, 0, 0), (35, 1, .iconst 1, 0, 0, 0), (36, 3, .if_icmp .ne 13, 0, 0, 0), (39, 1, .aload_n 0, 0, 0, 0), (40, 3, .getfield 52, 1, 6, 0), (43, 3, .invokevirtual 301, 111, 1, 7), (46, 3, .goto 10, 0, 0, 0), (49, 1, .aload_n 0, 0, 0, 0), (50, 3, .getfield 52, 1, 6, 0), (53, 3, .invokevirtual 304, 112, 1, 7), (56, 1, .ireturn, 0, 0, 0)]
abbrev m_X11_places : Nat := 145
def zc_X11_lookAt : List zE := [(0, 1, .aload_n 0, 0, 0, 0), (1, 3, .getfield 52, 1, 6, 0), (4, 1, .aload_n 0, 0, 0, 0), (5, 3, .getfield 28, 1, 2, 0), (8, 3, .invokevirtual 295, 109, 2, 7), (11, 1, .aload_n 0, 0, 0, 0), (12, 3, .getfield 52, 1, 6, 0), (15, 1, .aload_n 0, 0, 0, 0), (16, 3, .getfield 28, 1, 2, 0), (19, 3, .invokevirtual 307, 113, 2, 7), (22, 1, .ireturn, 0, 0, 0)]
abbrev m_X11_lookAt : Nat := 146
def zc_X11_write : List zE := [(0, 1, .aload_n 0, 0, 0, 0), (1, 3, .getfield 19, 1, 1, 0), (4, 1, .iload_n 1, 0, 0, 0), (5, 1, .iload_n 2, 0, 0, 0), (6, 3, .invokevirtual 169, 12, 3, 3), (9, 3, .ifCond .ne 6, 0, 0, 0), (12, 2, .ldc 151, 0, 0, (-1000000001)), (14, 1, .ireturn, 0, 0, 0), (15, 1, .iload_n 3, 0, 0, 0), (16, 2, .bipush 9, 0, 0, 0), (18, 3, .invokestatic 67, 153, 2, (-1)), (21, 3, .ifCond .eq 6, 0, 0, 0), (24, 2, .ldc 71, 0, 0, (-1000000002)), (26, 1, .ireturn, 0, 0, 0), (27, 1, .aload_n 0, 0, 0, 0), (28, 3, .getfield 52, 1, 6, 0), (31, 1, .iload_n 1, 0, 0, 0), (32, 1, .iload_n 2, 0, 0, 0), (33, 1, .iload_n 3, 0, 0, 0), (34, 3, .invokevirtual 310, 107, 4, 7), (37, 3, .ifCond .eq 13, 0, 0, 0), (40, 1, .aload_n 0, 0, 0, 0), (41, 3, .getfield 52, 1, 6, 0), (44, 3, .invokevirtual 142, 104, 1, 7), (47, 3, .goto 5, 0, 0, 0), (50, 2, .ldc 80, 0, 0, (-1000000004)), (52, 1, .ireturn, 0, 0, 0)]
abbrev m_X11_write : Nat := 147
def zc_X11_judge : List zE := [(0, 1, .aload_n 0, 0, 0, 0), (1, 3, .getfield 52, 1, 6, 0), (4, 1, .aload_n 0, 0, 0, 0), (5, 3, .getfield 28, 1, 2, 0), (8, 3, .invokevirtual 314, 108, 2, 7), (11, 1, .ireturn, 0, 0, 0)]
abbrev m_X11_judge : Nat := 148
def zc_X11_tear : List zE := [(0, 1, .aload_n 0, 0, 0, 0), (1, 3, .getfield 52, 1, 6, 0), (4, 3, .invokevirtual 139, 103, 1, 7), (7, 1, .aload_n 0, 0, 0, 0), (8, 3, .getfield 52, 1, 6, 0), (11, 3, .invokevirtual 142, 104, 1, 7), (14, 1, .iadd, 0, 0, 0), (15, 1, .istore_n 1, 0, 0, 0), (16, 1, .aload_n 0, 0, 0, 0), (17, 3, .getfield 52, 1, 6, 0), (20, 3, .invokevirtual 98, 105, 1, 7), (23, 1, .iload_n 1, 0, 0, 0), (24, 1, .ireturn, 0, 0, 0)]
abbrev m_X11_tear : Nat := 149
def zc_X11_seed : List zE := [(0, 1, .iload_n 1, 0, 0, 0), (1, 3, .ifCond .ge 6, 0, 0, 0), (4, 2, .ldc 71, 0, 0, (-1000000002)), (6, 1, .ireturn, 0, 0, 0), (7, 1, .aload_n 0, 0, 0, 0), (8, 3, .getfield 63, 1, 8, 0), (11, 1, .istore_n 2, 0, 0, 0), (12, 1, .aload_n 0, 0, 0, 0), (13, 1, .iload_n 1, 0, 0, 0), (14, 3, .putfield 63, 1, 8, 0), (17, 1, .iload_n 2, 0, 0, 0), (18, 1, .ireturn, 0, 0, 0)]
abbrev m_X11_seed : Nat := 150
def zc_X11_keep : List zE := [(0, 1, .iload_n 1, 0, 0, 0), (1, 1, .iconst 1, 0, 0, 0), (2, 3, .invokestatic 67, 153, 2, (-1)), (5, 3, .ifCond .eq 6, 0, 0, 0), (8, 2, .ldc 151, 0, 0, (-1000000001)), (10, 1, .ireturn, 0, 0, 0), (11, 1, .aload_n 0, 0, 0, 0), (12, 3, .getfield 45, 1, 5, 0), (15, 1, .iload_n 1, 0, 0, 0), (16, 1, .aload_n 0, 0, 0, 0), (17, 3, .getfield 28, 1, 2, 0), (20, 1, .aload_n 0, 0, 0, 0), (21, 3, .getfield 63, 1, 8, 0), (24, 3, .invokevirtual 317, 28, 4, 6), (27, 1, .aload_n 0, 0, 0, 0), (28, 3, .getfield 38, 1, 4, 0), (31, 3, .invokevirtual 94, 63, 1, 5), (34, 1, .iconst 1, 0, 0, 0), (35, 1, .ireturn, 0, 0, 0)]
abbrev m_X11_keep : Nat := 151
def zc_X11_goBack : List zE := [(0, 1, .iload_n 1, 0, 0, 0), (1, 1, .iconst 1, 0, 0, 0), (2, 3, .invokestatic 67, 153, 2, (-1)), (5, 3, .ifCond .eq 6, 0, 0, 0), (8, 2, .ldc 151, 0, 0, (-1000000001)), (10, 1, .ireturn, 0, 0, 0), (11, 1, .aload_n 0, 0, 0, 0), (12, 3, .getfield 45, 1, 5, 0), (15, 1, .iload_n 1, 0, 0, 0), (16, 3, .invokevirtual 321, 27, 2, 6), (19, 3, .ifCond .ne 6, 0, 0, 0), (22, 2, .ldc 225, 0, 0, (-1000000003)), (24, 1, .ireturn, 0, 0, 0), (25, 1, .aload_n 0, 0, 0, 0), (26, 3, .getfield 45, 1, 5, 0), (29, 1, .iload_n 1, 0, 0, 0), (30, 1, .aload_n 0, 0, 0, 0), (31, 3, .getfield 28, 1, 2, 0), (34, 3, .invokevirtual 324, 29, 3, 6), (37, 1, .aload_n 0, 0, 0, 0), (38, 1, .aload_n 0, 0, 0, 0), (39, 3, .getfield 45, 1, 5, 0), (42, 1, .iload_n 1, 0, 0, 0), (43, 3, .invokevirtual 327, 30, 2, 6), (46, 3, .putfield 63, 1, 8, 0), (49, 1, .aload_n 0, 0, 0, 0), (50, 3, .getfield 38, 1, 4, 0), (53, 3, .invokevirtual 94, 63, 1, 5), (56, 1, .iconst 1, 0, 0, 0), (57, 1, .ireturn, 0, 0, 0)]
abbrev m_X11_goBack : Nat := 152
def zc_X11_beyond : List zE := [(0, 1, .iload_n 0, 0, 0, 0), (1, 3, .ifCond .lt 8, 0, 0, 0), (4, 1, .iload_n 0, 0, 0, 0), (5, 1, .iload_n 1, 0, 0, 0), (6, 3, .if_icmp .le 7, 0, 0, 0), (9, 1, .iconst 1, 0, 0, 0), (10, 3, .goto 4, 0, 0, 0), (13, 1, .iconst 0, 0, 0, 0), (14, 1, .ireturn, 0, 0, 0)]
abbrev m_X11_beyond : Nat := 153
def zc_X11_areTwoRooms : List zE := [(0, 1, .aload_n 0, 0, 0, 0), (1, 3, .getfield 19, 1, 1, 0), (4, 1, .iload_n 1, 0, 0, 0), (5, 3, .invokevirtual 148, 11, 2, 3), (8, 3, .ifCond .eq 23, 0, 0, 0), (11, 1, .aload_n 0, 0, 0, 0), (12, 3, .getfield 19, 1, 1, 0), (15, 1, .iload_n 2, 0, 0, 0), (16, 3, .invokevirtual 148, 11, 2, 3), (19, 3, .ifCond .eq 12, 0, 0, 0), (22, 1, .iload_n 1, 0, 0, 0), (23, 1, .iload_n 2, 0, 0, 0), (24, 3, .if_icmp .eq 7, 0, 0, 0), (27, 1, .iconst 1, 0, 0, 0), (28, 3, .goto 4, 0, 0, 0), (31, 1, .iconst 0, 0, 0, 0), (32, 1, .ireturn, 0, 0, 0)]
abbrev m_X11_areTwoRooms : Nat := 154
def zc_X11_refusalOfHours : List zE := [(0, 1, .iload_n 1, 0, 0, 0), (1, 1, .iconst 1, 0, 0, 0), (2, 3, .if_icmp .lt 9, 0, 0, 0), (5, 1, .iload_n 1, 0, 0, 0), (6, 2, .bipush 30, 0, 0, 0), (8, 3, .if_icmp .le 6, 0, 0, 0), (11, 2, .ldc 71, 0, 0, (-1000000002)), (13, 1, .ireturn, 0, 0, 0), (14, 1, .aload_n 0, 0, 0, 0), (15, 3, .getfield 19, 1, 1, 0), (18, 3, .getfield 105, 3, 0, 0), (21, 3, .ifCond .ne 6, 0, 0, 0), (24, 2, .ldc 225, 0, 0, (-1000000003)), (26, 1, .ireturn, 0, 0, 0), (27, 1, .aload_n 0, 0, 0, 0), (28, 3, .getfield 28, 1, 2, 0), (31, 3, .getfield 118, 4, 1, 0), (34, 3, .ldc_w 330, 0, 0, 90000), (37, 3, .if_icmp .le 8, 0, 0, 0), (40, 2, .ldc 80, 0, 0, (-1000000004)), (42, 3, .goto 4, 0, 0, 0), (45, 1, .iconst 0, 0, 0, 0), (46, 1, .ireturn, 0, 0, 0)]
abbrev m_X11_refusalOfHours : Nat := 155
def zc_X11_turnByHand : List zE := [(0, 1, .aload_n 0, 0, 0, 0), (1, 3, .getfield 19, 1, 1, 0), (4, 1, .iload_n 1, 0, 0, 0), (5, 1, .iload_n 2, 0, 0, 0), (6, 3, .invokevirtual 169, 12, 3, 3), (9, 3, .ifCond .ne 6, 0, 0, 0), (12, 2, .ldc 151, 0, 0, (-1000000001)), (14, 1, .ireturn, 0, 0, 0), (15, 1, .aload_n 0, 0, 0, 0), (16, 3, .getfield 28, 1, 2, 0), (19, 1, .iload_n 1, 0, 0, 0), (20, 1, .iload_n 2, 0, 0, 0), (21, 3, .invokevirtual 331, 35, 3, 4), (24, 1, .iload_n 3, 0, 0, 0), (25, 3, .if_icmp .eq 6, 0, 0, 0), (28, 2, .ldc 225, 0, 0, (-1000000003)), (30, 1, .ireturn, 0, 0, 0), (31, 1, .aload_n 0, 0, 0, 0), (32, 3, .getfield 38, 1, 4, 0), (35, 1, .aload_n 0, 0, 0, 0), (36, 3, .getfield 28, 1, 2, 0), (39, 3, .invokevirtual 209, 64, 2, 5), (42, 1, .aload_n 0, 0, 0, 0), (43, 3, .getfield 28, 1, 2, 0), (46, 1, .iload_n 1, 0, 0, 0), (47, 1, .iload_n 2, 0, 0, 0), (48, 3, .invokevirtual 334, 36, 3, 4), (51, 1, .aload_n 0, 0, 0, 0), (52, 3, .getfield 28, 1, 2, 0), (55, 1, .iload_n 1, 0, 0, 0), (56, 1, .iload_n 2, 0, 0, 0), (57, 3, .invokevirtual 179, 37, 3, 4), (60, 1, .ireturn, 0, 0, 0)]
abbrev m_X11_turnByHand : Nat := 156
def zc_X11_meetingsTried : List zE := [(0, 1, .aload_n 0, 0, 0, 0), (1, 3, .getfield 32, 1, 3, 0), (4, 1, .aload_n 0, 0, 0, 0), (5, 3, .getfield 28, 1, 2, 0), (8, 3, .invokevirtual 244, 32, 2, 4), (11, 1, .iconst 0, 0, 0, 0), (12, 1, .istore_n 2, 0, 0, 0), (13, 1, .iconst 0, 0, 0, 0), (14, 1, .istore_n 3, 0, 0, 0), (15, 1, .iload_n 3, 0, 0, 0), (16, 1, .iload_n 1, 0, 0, 0), (17, 3, .if_icmp .ge 19, 0, 0, 0), (20, 1, .iload_n 2, 0, 0, 0), (21, 1, .aload_n 0, 0, 0, 0), (22, 3, .getfield 32, 1, 3, 0), (25, 3, .invokestatic 212, 55, 1, (-1)), (28, 1, .iadd, 0, 0, 0), (29, 1, .istore_n 2, 0, 0, 0), (30, 3, .iinc 3 1, 0, 0, 0), (33, 3, .goto (-18), 0, 0, 0), (36, 1, .iload_n 2, 0, 0, 0), (37, 1, .ireturn, 0, 0, 0)]
abbrev m_X11_meetingsTried : Nat := 157
def zc_X11_draw : List zE := [(0, 1, .aload_n 0, 0, 0, 0), (1, 1, .aload_n 0, 0, 0, 0), (2, 3, .getfield 63, 1, 8, 0), (5, 1, .i2l, 0, 0, 0), (6, 3, .ldc2_w 337, 0, 0, 1103515245), (9, 1, .lmul, 0, 0, 0), (10, 3, .ldc2_w 339, 0, 0, 12345), (13, 1, .ladd, 0, 0, 0), (14, 3, .ldc2_w 341, 0, 0, 2147483647), (17, 1, .land, 0, 0, 0), (18, 1, .l2i, 0, 0, 0), (19, 3, .putfield 63, 1, 8, 0), (22, 1, .aload_n 0, 0, 0, 0), (23, 3, .getfield 63, 1, 8, 0), (26, 3, .ldc_w 343, 0, 0, 65536), (29, 1, .idiv, 0, 0, 0), (30, 1, .iload_n 1, 0, 0, 0), (31, 3, .invokestatic 344, 101, 2, (-1)), (34, 1, .ireturn, 0, 0, 0)]
abbrev m_X11_draw : Nat := 158
def zc_X11_deedByDraws : List zE := [(0, 1, .aload_n 0, 0, 0, 0), (1, 3, .getfield 19, 1, 1, 0), (4, 3, .getfield 99, 3, 2, 0), (7, 3, .ifCond .ne 4, 0, 0, 0), (10, 1, .return_, 0, 0, 0), (11, 1, .aload_n 0, 0, 0, 0), (12, 1, .iconst 4, 0, 0, 0), (13, 3, .invokevirtual 349, 158, 2, 1), (16, 1, .istore_n 1, 0, 0, 0), (17, 1, .iload_n 1, 0, 0, 0), (18, 3, .ifCond .ne 38, 0, 0, 0), (21, 1, .aload_n 0, 0, 0, 0), (22, 1, .aload_n 0, 0, 0, 0), (23, 3, .getfield 19, 1, 1, 0), (26, 3, .getfield 99, 3, 2, 0), (29, 3, .invokevirtual 349, 158, 2, 1), (32, 1, .istore_n 2, 0, 0, 0), (33, 1, .aload_n 0, 0, 0, 0), (34, 3, .getfield 28, 1, 2, 0), (37, 1, .iload_n 2, 0, 0, 0), (38, 1, .aload_n 0, 0, 0, 0), (39, 1, .aload_n 0, 0, 0, 0), (40, 3, .getfield 19, 1, 1, 0), (43, 1, .iload_n 2, 0, 0, 0), (44, 3, .invokevirtual 152, 16, 2, 3), (47, 3, .invokevirtual 349, 158, 2, 1), (50, 3, .invokevirtual 334, 36, 3, 4), (53, 3, .goto 44, 0, 0, 0), (56, 1, .iload_n 1, 0, 0, 0), (57, 1, .iconst 1, 0, 0, 0), (58, 3, .if_icmp .ne 39, 0, 0, 0), (61, 1, .aload_n 0, 0, 0, 0), (62, 3, .getfield 19, 1, 1, 0), (65, 3, .getfield 112, 3, 3, 0), (68, 3, .ifCond .le 29, 0, 0, 0), (71, 1, .aload_n 0, 0, 0, 0), (72, 1, .aload_n 0, 0, 0, 0), (73, 3, .getfield 19, 1, 1, 0), (76, 3, .getfield 112, 3, 3, 0), (79, 3, .invokevirtual 349, 158, 2, 1), (82, 1, .istore_n 2, 0, 0, 0), (83, 1, .aload_n 0, 0, 0, 0), (84, 3, .getfield 28, 1, 2, 0), (87, 1, .iload_n 2, 0, 0, 0), (88, 1, .aload_n 0, 0, 0, 0), (89, 2, .bipush 10, 0, 0, 0), (91, 3, .invokevirtual 349, 158, 2, 1), (94, 3, .invokevirtual 230, 45, 3, 4), (97, 1, .return_, 0, 0, 0)]
abbrev m_X11_deedByDraws : Nat := 159
def zc_X12_in : List zE := [(0, 1, .lload_n 0, 0, 0, 0), (1, 1, .lload_n 2, 0, 0, 0), (2, 1, .lcmp, 0, 0, 0), (3, 3, .ifCond .lt 14, 0, 0, 0), (6, 1, .lload_n 0, 0, 0, 0), (7, 2, .lload 4, 0, 0, 0), (9, 1, .lcmp, 0, 0, 0), (10, 3, .ifCond .gt 7, 0, 0, 0), (13, 1, .iconst 1, 0, 0, 0), (14, 3, .goto 4, 0, 0, 0), (17, 1, .iconst 0, 0, 0, 0), (18, 1, .ireturn, 0, 0, 0)]
abbrev m_X12_in : Nat := 160
def zc_X12_has : List zE := [(0, 1, .iload_n 0, 0, 0, 0), (1, 1, .iload_n 1, 0, 0, 0), (2, 1, .ishr, 0, 0, 0), (3, 1, .iconst 1, 0, 0, 0), (4, 1, .iand, 0, 0, 0), (5, 1, .iconst 1, 0, 0, 0), (6, 3, .if_icmp .ne 7, 0, 0, 0), (9, 1, .iconst 1, 0, 0, 0), (10, 3, .goto 4, 0, 0, 0), (13, 1, .iconst 0, 0, 0, 0), (14, 1, .ireturn, 0, 0, 0)]
abbrev m_X12_has : Nat := 161
def zc_X12_bits : List zE := [(0, 1, .iconst 0, 0, 0, 0), (1, 1, .istore_n 1, 0, 0, 0), (2, 1, .iload_n 0, 0, 0, 0), (3, 1, .istore_n 2, 0, 0, 0), (4, 1, .iload_n 2, 0, 0, 0), (5, 3, .ifCond .eq 15, 0, 0, 0), (8, 3, .iinc 1 1, 0, 0, 0), (11, 1, .iload_n 2, 0, 0, 0), (12, 1, .iload_n 2, 0, 0, 0), (13, 1, .iconst 1, 0, 0, 0), (14, 1, .isub, 0, 0, 0), (15, 1, .iand, 0, 0, 0), (16, 1, .istore_n 2, 0, 0, 0), (17, 3, .goto (-13), 0, 0, 0), (20, 1, .iload_n 1, 0, 0, 0), (21, 1, .ireturn, 0, 0, 0)]
abbrev m_X12_bits : Nat := 162
def zc_X12_lesser : List zE := [(0, 1, .iload_n 0, 0, 0, 0), (1, 1, .iload_n 1, 0, 0, 0), (2, 3, .if_icmp .ge 7, 0, 0, 0), (5, 1, .iload_n 0, 0, 0, 0), (6, 3, .goto 4, 0, 0, 0), (9, 1, .iload_n 1, 0, 0, 0), (10, 1, .ireturn, 0, 0, 0)]
abbrev m_X12_lesser : Nat := 163
def zc_X12_copies : List zE := [(0, 1, .iconst 0, 0, 0, 0), (1, 2, .istore 5, 0, 0, 0), (3, 2, .iload 5, 0, 0, 0), (5, 2, .iload 4, 0, 0, 0), (7, 3, .if_icmp .ge 21, 0, 0, 0), (10, 1, .aload_n 2, 0, 0, 0), (11, 1, .iload_n 3, 0, 0, 0), (12, 2, .iload 5, 0, 0, 0), (14, 1, .iadd, 0, 0, 0), (15, 1, .aload_n 0, 0, 0, 0), (16, 1, .iload_n 1, 0, 0, 0), (17, 2, .iload 5, 0, 0, 0), (19, 1, .iadd, 0, 0, 0), (20, 1, .iaload, 0, 0, 0), (21, 1, .iastore, 0, 0, 0), (22, 3, .iinc 5 1, 0, 0, 0), (25, 3, .goto (-22), 0, 0, 0), (28, 1, .return_, 0, 0, 0)]
abbrev m_X12_copies : Nat := 164
def zc_X12_begins : List zE := [(0, 1, .iconst 0, 0, 0, 0), (1, 1, .istore_n 1, 0, 0, 0), (2, 1, .iload_n 1, 0, 0, 0), (3, 2, .bipush 44, 0, 0, 0), (5, 3, .if_icmp .ge 16, 0, 0, 0), (8, 1, .aload_n 0, 0, 0, 0), (9, 3, .getfield 16, 9, 2, 0), (12, 1, .iload_n 1, 0, 0, 0), (13, 1, .iconst 0, 0, 0, 0), (14, 1, .iastore, 0, 0, 0), (15, 3, .iinc 1 1, 0, 0, 0), (18, 3, .goto (-16), 0, 0, 0), (21, 1, .aload_n 0, 0, 0, 0), (22, 3, .getfield 7, 9, 0, 0), (25, 3, .sipush 160, 0, 0, 0), (28, 1, .aload_n 0, 0, 0, 0), (29, 3, .getfield 16, 9, 2, 0), (32, 2, .bipush 6, 0, 0, 0), (34, 1, .iconst 5, 0, 0, 0), (35, 3, .invokestatic 54, 164, 5, (-1)), (38, 1, .aload_n 0, 0, 0, 0), (39, 3, .getfield 7, 9, 0, 0), (42, 3, .sipush 165, 0, 0, 0), (45, 1, .aload_n 0, 0, 0, 0), (46, 3, .getfield 16, 9, 2, 0), (49, 2, .bipush 11, 0, 0, 0), (51, 1, .iconst 5, 0, 0, 0), (52, 3, .invokestatic 54, 164, 5, (-1)), (55, 1, .aload_n 0, 0, 0, 0), (56, 3, .getfield 7, 9, 0, 0), (59, 3, .sipush 170, 0, 0, 0), (62, 1, .aload_n 0, 0, 0, 0), (63, 3, .getfield 16, 9, 2, 0), (66, 2, .bipush 16, 0, 0, 0), (68, 1, .iconst 5, 0, 0, 0), (69, 3, .invokestatic 54, 164, 5, (-1)), (72, 1, .aload_n 0, 0, 0, 0), (73, 1, .iconst 0, 0, 0, 0), (74, 3, .putfield 58, 9, 5, 0), (77, 1, .aload_n 0, 0, 0, 0), (78, 1, .iconst 0, 0, 0, 0), (79, 3, .putfield 61, 9, 13, 0), (82, 1, .aload_n 0, 0, 0, 0), (83, 1, .iconst 0, 0, 0, 0), (84, 3, .putfield 64, 9, 15, 0), (87, 1, .aload_n 0, 0, 0, 0), (88, 3, .getfield 28, 9, 7, 0), (91, 1, .iconst 0, 0, 0, 0), (92, 1, .iconst 0, 0, 0, 0), (93, 1, .bastore, 0, 0, 0), (94, 1, .aload_n 0, 0, 0, 0), (95, 3, .getfield 28, 9, 7, 0), (98, 1, .iconst 1, 0, 0, 0), (99, 1, .iconst 0, 0, 0, 0), (100, 1, .bastore, 0, 0, 0), (101, 1, .return_, 0, 0, 0)]
abbrev m_X12_begins : Nat := 165
def zc_X12_feed : List zE := [(0, 1, .iload_n 1, 0, 0, 0), (1, 1, .i2l, 0, 0, 0), (2, 1, .lconst 0, 0, 0, 0), (3, 3, .ldc2_w 67, 0, 0, 255), (6, 3, .invokestatic 69, 160, 3, (-1)), (9, 3, .ifCond .ne 6, 0, 0, 0), (12, 2, .ldc 73, 0, 0, (-1000000002)), (14, 1, .ireturn, 0, 0, 0), (15, 1, .aload_n 0, 0, 0, 0), (16, 3, .getfield 74, 9, 10, 0), (19, 3, .sipush 240, 0, 0, 0), (22, 3, .if_icmp .ne 6, 0, 0, 0), (25, 2, .ldc 77, 0, 0, (-1000000004)), (27, 1, .ireturn, 0, 0, 0), (28, 1, .aload_n 0, 0, 0, 0), (29, 3, .getfield 32, 9, 9, 0), (32, 1, .aload_n 0, 0, 0, 0), (33, 3, .getfield 74, 9, 10, 0), (36, 1, .iload_n 1, 0, 0, 0), (37, 1, .iastore, 0, 0, 0), (38, 1, .aload_n 0, 0, 0, 0), (39, 1, .dup, 0, 0, 0), (40, 3, .getfield 74, 9, 10, 0), (43, 1, .iconst 1, 0, 0, 0), (44, 1, .iadd, 0, 0, 0), (45, 3, .putfield 74, 9, 10, 0), (48, 1, .aload_n 0, 0, 0, 0), (49, 3, .getfield 74, 9, 10, 0), (52, 1, .ireturn, 0, 0, 0)]
abbrev m_X12_feed : Nat := 166
def zc_X12_here : List zE := [(0, 1, .aload_n 0, 0, 0, 0), (1, 3, .getfield 78, 9, 16, 0), (4, 1, .aload_n 0, 0, 0, 0), (5, 3, .getfield 74, 9, 10, 0), (8, 3, .if_icmp .ge 15, 0, 0, 0), (11, 1, .aload_n 0, 0, 0, 0), (12, 3, .getfield 32, 9, 9, 0), (15, 1, .aload_n 0, 0, 0, 0), (16, 3, .getfield 78, 9, 16, 0), (19, 1, .iaload, 0, 0, 0), (20, 3, .goto 4, 0, 0, 0), (23, 1, .iconst (-1), 0, 0, 0), (24, 1, .ireturn, 0, 0, 0)]
abbrev m_X12_here : Nat := 167
def zc_X12_step : List zE := [(0, 1, .aload_n 0, 0, 0, 0), (1, 3, .invokevirtual 81, 167, 1, 9), (4, 2, .bipush 32, 0, 0, 0), (6, 3, .if_icmp .ne 16, 0, 0, 0), (9, 1, .aload_n 0, 0, 0, 0), (10, 1, .dup, 0, 0, 0), (11, 3, .getfield 78, 9, 16, 0), (14, 1, .iconst 1, 0, 0, 0), (15, 1, .iadd, 0, 0, 0), (16, 3, .putfield 78, 9, 16, 0), (19, 3, .goto (-19), 0, 0, 0), (22, 1, .aload_n 0, 0, 0, 0), (23, 1, .aload_n 0, 0, 0, 0), (24, 3, .getfield 78, 9, 16, 0), (27, 3, .putfield 85, 9, 17, 0), (30, 1, .aload_n 0, 0, 0, 0), (31, 1, .aload_n 0, 0, 0, 0), (32, 3, .invokevirtual 81, 167, 1, 9), (35, 3, .putfield 88, 9, 18, 0), (38, 1, .aload_n 0, 0, 0, 0), (39, 1, .iconst 0, 0, 0, 0), (40, 3, .putfield 91, 9, 19, 0), (43, 1, .aload_n 0, 0, 0, 0), (44, 1, .iconst 0, 0, 0, 0), (45, 3, .putfield 94, 9, 20, 0), (48, 1, .aload_n 0, 0, 0, 0), (49, 3, .getfield 88, 9, 18, 0), (52, 1, .i2l, 0, 0, 0), (53, 3, .ldc2_w 97, 0, 0, 48), (56, 3, .ldc2_w 99, 0, 0, 57), (59, 3, .invokestatic 69, 160, 3, (-1)), (62, 3, .ifCond .ne 25, 0, 0, 0), (65, 1, .aload_n 0, 0, 0, 0), (66, 1, .dup, 0, 0, 0), (67, 3, .getfield 78, 9, 16, 0), (70, 1, .aload_n 0, 0, 0, 0), (71, 3, .getfield 88, 9, 18, 0), (74, 3, .ifCond .ge 7, 0, 0, 0), (77, 1, .iconst 0, 0, 0, 0), (78, 3, .goto 4, 0, 0, 0), (81, 1, .iconst 1, 0, 0, 0), (82, 1, .iadd, 0, 0, 0), (83, 3, .putfield 78, 9, 16, 0), (86, 1, .return_, 0, 0, 0), (87, 1, .aload_n 0, 0, 0, 0), (88, 2, .bipush 48, 0, 0, 0), (90, 3, .putfield 88, 9, 18, 0), (93, 1, .aload_n 0, 0, 0, 0), (94, 3, .invokevirtual 81, 167, 1, 9), (97, 1, .i2l, 0, 0, 0), (98, 3, .ldc2_w 97, 0, 0, 48), (101, 3, .ldc2_w 99, 0, 0, 57), (104, 3, .invokestatic 69, 160, 3, (-1)), (107, 3, .ifCond .eq 60, 0, 0, 0), (110, 1, .aload_n 0, 0, 0, 0), (111, 1, .aload_n 0, 0, 0, 0), (112, 3, .getfield 91, 9, 19, 0), (115, 1, .iconst 3, 0, 0, 0), (116, 3, .if_icmp .ge 21, 0, 0, 0), (119, 2, .bipush 10, 0, 0, 0), (121, 1, .aload_n 0, 0, 0, 0), (122, 3, .getfield 94, 9, 20, 0), (125, 1, .imul, 0, 0, 0), (126, 1, .aload_n 0, 0, 0, 0), (127, 3, .invokevirtual 81, 167, 1, 9), (130, 1, .iadd, 0, 0, 0), (131, 2, .bipush 48, 0, 0, 0), (133, 1, .isub, 0, 0, 0), (134, 3, .goto 7, 0, 0, 0), (137, 1, .aload_n 0, 0, 0, 0), (138, 3, .getfield 94, 9, 20, 0), (141, 3, .putfield 94, 9, 20, 0), (144, 1, .aload_n 0, 0, 0, 0), (145, 1, .dup, 0, 0, 0), (146, 3, .getfield 91, 9, 19, 0), (149, 1, .iconst 1, 0, 0, 0), (150, 1, .iadd, 0, 0, 0), (151, 3, .putfield 91, 9, 19, 0), (154, 1, .aload_n 0, 0, 0, 0), (155, 1, .dup, 0, 0, 0), (156, 3, .getfield 78, 9, 16, 0), (159, 1, .iconst 1, 0, 0, 0), (160, 1, .iadd, 0, 0, 0), (161, 3, .putfield 78, 9, 16, 0), (164, 3, .goto (-71), 0, 0, 0), (167, 1, .return_, 0, 0, 0)]
abbrev m_X12_step : Nat := 168
def zc_X12_fails : List zE := [(0, 1, .aload_n 0, 0, 0, 0), (1, 1, .iload_n 1, 0, 0, 0), (2, 3, .putfield 101, 9, 21, 0), (5, 1, .iconst 0, 0, 0, 0), (6, 1, .ireturn, 0, 0, 0)]
abbrev m_X12_fails : Nat := 169
def zc_X12_number : List zE := [(0, 1, .aload_n 0, 0, 0, 0), (1, 3, .invokevirtual 104, 168, 1, 9), (4, 1, .aload_n 0, 0, 0, 0), (5, 3, .getfield 88, 9, 18, 0), (8, 2, .bipush 48, 0, 0, 0), (10, 3, .if_icmp .eq 9, 0, 0, 0), (13, 1, .aload_n 0, 0, 0, 0), (14, 1, .iconst 1, 0, 0, 0), (15, 3, .invokevirtual 107, 169, 2, 9), (18, 1, .ireturn, 0, 0, 0), (19, 1, .aload_n 0, 0, 0, 0), (20, 3, .getfield 91, 9, 19, 0), (23, 1, .iconst 3, 0, 0, 0), (24, 3, .if_icmp .gt 18, 0, 0, 0), (27, 1, .aload_n 0, 0, 0, 0), (28, 3, .getfield 94, 9, 20, 0), (31, 1, .i2l, 0, 0, 0), (32, 1, .iload_n 2, 0, 0, 0), (33, 1, .i2l, 0, 0, 0), (34, 1, .iload_n 3, 0, 0, 0), (35, 1, .i2l, 0, 0, 0), (36, 3, .invokestatic 69, 160, 3, (-1)), (39, 3, .ifCond .ne 9, 0, 0, 0), (42, 1, .aload_n 0, 0, 0, 0), (43, 1, .iconst 2, 0, 0, 0), (44, 3, .invokevirtual 107, 169, 2, 9), (47, 1, .ireturn, 0, 0, 0), (48, 1, .aload_n 0, 0, 0, 0), (49, 3, .getfield 13, 9, 1, 0), (52, 1, .iload_n 1, 0, 0, 0), (53, 1, .aload_n 0, 0, 0, 0), (54, 3, .getfield 94, 9, 20, 0), (57, 1, .iastore, 0, 0, 0), (58, 1, .iconst 1, 0, 0, 0), (59, 1, .ireturn, 0, 0, 0)]
abbrev m_X12_number : Nat := 170
def zc_X12_ends : List zE := [(0, 1, .aload_n 0, 0, 0, 0), (1, 3, .invokevirtual 104, 168, 1, 9), (4, 1, .aload_n 0, 0, 0, 0), (5, 3, .getfield 88, 9, 18, 0), (8, 2, .bipush 59, 0, 0, 0), (10, 3, .if_icmp .eq 11, 0, 0, 0), (13, 1, .aload_n 0, 0, 0, 0), (14, 1, .iconst 1, 0, 0, 0), (15, 3, .invokevirtual 107, 169, 2, 9), (18, 3, .ifCond .eq 7, 0, 0, 0), (21, 1, .iconst 1, 0, 0, 0), (22, 3, .goto 4, 0, 0, 0), (25, 1, .iconst 0, 0, 0, 0), (26, 1, .ireturn, 0, 0, 0)]
abbrev m_X12_ends : Nat := 171
def zc_X12_row : List zE := [(0, 1, .iconst 0, 0, 0, 0), (1, 2, .istore 4, 0, 0, 0), (3, 1, .iconst 1, 0, 0, 0), (4, 2, .istore 5, 0, 0, 0), (6, 2, .iload 5, 0, 0, 0), (8, 3, .ifCond .eq 59, 0, 0, 0), (11, 1, .aload_n 0, 0, 0, 0), (12, 1, .iload_n 1, 0, 0, 0), (13, 2, .iload 4, 0, 0, 0), (15, 1, .iadd, 0, 0, 0), (16, 1, .iconst 0, 0, 0, 0), (17, 2, .bipush 9, 0, 0, 0), (19, 3, .invokevirtual 111, 170, 4, 9), (22, 3, .ifCond .ne 5, 0, 0, 0), (25, 1, .iconst 0, 0, 0, 0), (26, 1, .ireturn, 0, 0, 0), (27, 3, .iinc 4 1, 0, 0, 0), (30, 1, .aload_n 0, 0, 0, 0), (31, 3, .invokevirtual 104, 168, 1, 9), (34, 1, .aload_n 0, 0, 0, 0), (35, 3, .getfield 88, 9, 18, 0), (38, 2, .bipush 44, 0, 0, 0), (40, 3, .if_icmp .ne 7, 0, 0, 0), (43, 1, .iconst 1, 0, 0, 0), (44, 3, .goto 4, 0, 0, 0), (47, 1, .iconst 0, 0, 0, 0), (48, 2, .istore 5, 0, 0, 0), (50, 2, .iload 5, 0, 0, 0), (52, 3, .ifCond .eq (-46), 0, 0, 0), (55, 2, .iload 4, 0, 0, 0), (57, 1, .iload_n 3, 0, 0, 0), (58, 3, .if_icmp .ne (-52), 0, 0, 0), (61, 1, .aload_n 0, 0, 0, 0), (62, 1, .iconst 1, 0, 0, 0), (63, 3, .invokevirtual 107, 169, 2, 9), (66, 1, .ireturn, 0, 0, 0), (67, 1, .aload_n 0, 0, 0, 0), (68, 2, .iload 4, 0, 0, 0), (70, 3, .putfield 115, 9, 22, 0), (73, 1, .aload_n 0, 0, 0, 0), (74, 3, .getfield 88, 9, 18, 0), (77, 2, .bipush 59, 0, 0, 0), (79, 3, .if_icmp .ne 9, 0, 0, 0), (82, 2, .iload 4, 0, 0, 0), (84, 1, .iload_n 2, 0, 0, 0), (85, 3, .if_icmp .ge 11, 0, 0, 0), (88, 1, .aload_n 0, 0, 0, 0), (89, 1, .iconst 1, 0, 0, 0), (90, 3, .invokevirtual 107, 169, 2, 9), (93, 3, .ifCond .eq 7, 0, 0, 0), (96, 1, .iconst 1, 0, 0, 0), (97, 3, .goto 4, 0, 0, 0), (100, 1, .iconst 0, 0, 0, 0), (101, 1, .ireturn, 0, 0, 0)]
abbrev m_X12_row : Nat := 172
def zc_X12_readsRoom : List zE := [(0, 1, .aload_n 0, 0, 0, 0), (1, 3, .getfield 13, 9, 1, 0), (4, 1, .iconst 1, 0, 0, 0), (5, 1, .iaload, 0, 0, 0), (6, 1, .istore_n 1, 0, 0, 0), (7, 1, .iload_n 1, 0, 0, 0), (8, 2, .bipush 6, 0, 0, 0), (10, 3, .if_icmp .ne 9, 0, 0, 0), (13, 1, .aload_n 0, 0, 0, 0), (14, 1, .iconst 3, 0, 0, 0), (15, 3, .invokevirtual 107, 169, 2, 9), (18, 1, .ireturn, 0, 0, 0), (19, 1, .aload_n 0, 0, 0, 0), (20, 2, .bipush 16, 0, 0, 0), (22, 2, .bipush 12, 0, 0, 0), (24, 1, .iload_n 1, 0, 0, 0), (25, 1, .imul, 0, 0, 0), (26, 1, .iadd, 0, 0, 0), (27, 1, .iconst 1, 0, 0, 0), (28, 2, .bipush 12, 0, 0, 0), (30, 3, .invokevirtual 118, 172, 4, 9), (33, 3, .ifCond .ne 5, 0, 0, 0), (36, 1, .iconst 0, 0, 0, 0), (37, 1, .ireturn, 0, 0, 0), (38, 1, .aload_n 0, 0, 0, 0), (39, 3, .getfield 13, 9, 1, 0), (42, 1, .iconst 4, 0, 0, 0), (43, 1, .iload_n 1, 0, 0, 0), (44, 1, .iadd, 0, 0, 0), (45, 1, .aload_n 0, 0, 0, 0), (46, 3, .getfield 115, 9, 22, 0), (49, 1, .iastore, 0, 0, 0), (50, 1, .aload_n 0, 0, 0, 0), (51, 3, .getfield 13, 9, 1, 0), (54, 1, .iconst 1, 0, 0, 0), (55, 1, .dup2, 0, 0, 0), (56, 1, .iaload, 0, 0, 0), (57, 1, .iconst 1, 0, 0, 0), (58, 1, .iadd, 0, 0, 0), (59, 1, .iastore, 0, 0, 0), (60, 1, .iconst 1, 0, 0, 0), (61, 1, .ireturn, 0, 0, 0)]
abbrev m_X12_readsRoom : Nat := 173
def zc_X12_readsUnder : List zE := [(0, 1, .aload_n 0, 0, 0, 0), (1, 3, .sipush 199, 0, 0, 0), (4, 1, .iconst 0, 0, 0, 0), (5, 1, .aload_n 0, 0, 0, 0), (6, 3, .getfield 13, 9, 1, 0), (9, 1, .iconst 1, 0, 0, 0), (10, 1, .iaload, 0, 0, 0), (11, 1, .iconst 1, 0, 0, 0), (12, 1, .isub, 0, 0, 0), (13, 3, .invokevirtual 111, 170, 4, 9), (16, 3, .ifCond .ne 5, 0, 0, 0), (19, 1, .iconst 0, 0, 0, 0), (20, 1, .ireturn, 0, 0, 0), (21, 1, .aload_n 0, 0, 0, 0), (22, 3, .getfield 94, 9, 20, 0), (25, 1, .istore_n 1, 0, 0, 0), (26, 1, .aload_n 0, 0, 0, 0), (27, 3, .getfield 13, 9, 1, 0), (30, 2, .bipush 10, 0, 0, 0), (32, 1, .iload_n 1, 0, 0, 0), (33, 1, .iadd, 0, 0, 0), (34, 1, .iaload, 0, 0, 0), (35, 1, .iconst 1, 0, 0, 0), (36, 3, .if_icmp .ne 9, 0, 0, 0), (39, 1, .aload_n 0, 0, 0, 0), (40, 1, .iconst 4, 0, 0, 0), (41, 3, .invokevirtual 107, 169, 2, 9), (44, 1, .ireturn, 0, 0, 0), (45, 1, .aload_n 0, 0, 0, 0), (46, 3, .getfield 13, 9, 1, 0), (49, 2, .bipush 10, 0, 0, 0), (51, 1, .iload_n 1, 0, 0, 0), (52, 1, .iadd, 0, 0, 0), (53, 1, .iconst 1, 0, 0, 0), (54, 1, .iastore, 0, 0, 0), (55, 1, .aload_n 0, 0, 0, 0), (56, 2, .bipush 88, 0, 0, 0), (58, 2, .bipush 12, 0, 0, 0), (60, 1, .iload_n 1, 0, 0, 0), (61, 1, .imul, 0, 0, 0), (62, 1, .iadd, 0, 0, 0), (63, 1, .aload_n 0, 0, 0, 0), (64, 3, .getfield 13, 9, 1, 0), (67, 1, .iconst 4, 0, 0, 0), (68, 1, .iload_n 1, 0, 0, 0), (69, 1, .iadd, 0, 0, 0), (70, 1, .iaload, 0, 0, 0), (71, 1, .aload_n 0, 0, 0, 0), (72, 3, .getfield 13, 9, 1, 0), (75, 1, .iconst 4, 0, 0, 0), (76, 1, .iload_n 1, 0, 0, 0), (77, 1, .iadd, 0, 0, 0), (78, 1, .iaload, 0, 0, 0), (79, 3, .invokevirtual 118, 172, 4, 9), (82, 1, .ireturn, 0, 0, 0)]
abbrev m_X12_readsUnder : Nat := 174
def zc_X12_readsPerson : List zE := [(0, 1, .aload_n 0, 0, 0, 0), (1, 3, .getfield 13, 9, 1, 0), (4, 1, .iconst 2, 0, 0, 0), (5, 1, .iaload, 0, 0, 0), (6, 1, .istore_n 1, 0, 0, 0), (7, 1, .iload_n 1, 0, 0, 0), (8, 1, .iconst 5, 0, 0, 0), (9, 3, .if_icmp .ne 9, 0, 0, 0), (12, 1, .aload_n 0, 0, 0, 0), (13, 1, .iconst 3, 0, 0, 0), (14, 3, .invokevirtual 107, 169, 2, 9), (17, 1, .ireturn, 0, 0, 0), (18, 1, .aload_n 0, 0, 0, 0), (19, 3, .sipush 160, 0, 0, 0), (22, 1, .iload_n 1, 0, 0, 0), (23, 1, .iadd, 0, 0, 0), (24, 1, .iconst 0, 0, 0, 0), (25, 1, .aload_n 0, 0, 0, 0), (26, 3, .getfield 13, 9, 1, 0), (29, 1, .iconst 1, 0, 0, 0), (30, 1, .iaload, 0, 0, 0), (31, 1, .iconst 1, 0, 0, 0), (32, 1, .isub, 0, 0, 0), (33, 3, .invokevirtual 111, 170, 4, 9), (36, 3, .ifCond .eq 35, 0, 0, 0), (39, 1, .aload_n 0, 0, 0, 0), (40, 3, .sipush 165, 0, 0, 0), (43, 1, .iload_n 1, 0, 0, 0), (44, 1, .iadd, 0, 0, 0), (45, 1, .iconst 0, 0, 0, 0), (46, 1, .aload_n 0, 0, 0, 0), (47, 3, .getfield 13, 9, 1, 0), (50, 1, .iconst 4, 0, 0, 0), (51, 1, .aload_n 0, 0, 0, 0), (52, 3, .getfield 13, 9, 1, 0), (55, 3, .sipush 160, 0, 0, 0), (58, 1, .iload_n 1, 0, 0, 0), (59, 1, .iadd, 0, 0, 0), (60, 1, .iaload, 0, 0, 0), (61, 1, .iadd, 0, 0, 0), (62, 1, .iaload, 0, 0, 0), (63, 1, .iconst 1, 0, 0, 0), (64, 1, .isub, 0, 0, 0), (65, 3, .invokevirtual 111, 170, 4, 9), (68, 3, .ifCond .ne 5, 0, 0, 0), (71, 1, .iconst 0, 0, 0, 0), (72, 1, .ireturn, 0, 0, 0), (73, 1, .aload_n 0, 0, 0, 0), (74, 3, .getfield 13, 9, 1, 0), (77, 1, .iconst 2, 0, 0, 0), (78, 1, .dup2, 0, 0, 0), (79, 1, .iaload, 0, 0, 0), (80, 1, .iconst 1, 0, 0, 0), (81, 1, .iadd, 0, 0, 0), (82, 1, .iastore, 0, 0, 0), (83, 1, .aload_n 0, 0, 0, 0), (84, 3, .sipush 170, 0, 0, 0), (87, 1, .iload_n 1, 0, 0, 0), (88, 1, .iadd, 0, 0, 0), (89, 1, .iconst 0, 0, 0, 0), (90, 2, .bipush 9, 0, 0, 0), (92, 3, .invokevirtual 111, 170, 4, 9), (95, 3, .ifCond .eq 14, 0, 0, 0), (98, 1, .aload_n 0, 0, 0, 0), (99, 3, .invokevirtual 121, 171, 1, 9), (102, 3, .ifCond .eq 7, 0, 0, 0), (105, 1, .iconst 1, 0, 0, 0), (106, 3, .goto 4, 0, 0, 0), (109, 1, .iconst 0, 0, 0, 0), (110, 1, .ireturn, 0, 0, 0)]
abbrev m_X12_readsPerson : Nat := 175
def zc_X12_readsWall : List zE := [(0, 1, .aload_n 0, 0, 0, 0), (1, 3, .getfield 13, 9, 1, 0), (4, 1, .iconst 3, 0, 0, 0), (5, 1, .iaload, 0, 0, 0), (6, 1, .istore_n 1, 0, 0, 0), (7, 1, .iload_n 1, 0, 0, 0), (8, 2, .bipush 6, 0, 0, 0), (10, 3, .if_icmp .ne 9, 0, 0, 0), (13, 1, .aload_n 0, 0, 0, 0), (14, 1, .iconst 3, 0, 0, 0), (15, 3, .invokevirtual 107, 169, 2, 9), (18, 1, .ireturn, 0, 0, 0), (19, 1, .aload_n 0, 0, 0, 0), (20, 3, .sipush 175, 0, 0, 0), (23, 1, .iload_n 1, 0, 0, 0), (24, 1, .iadd, 0, 0, 0), (25, 1, .iconst 0, 0, 0, 0), (26, 1, .aload_n 0, 0, 0, 0), (27, 3, .getfield 13, 9, 1, 0), (30, 1, .iconst 1, 0, 0, 0), (31, 1, .iaload, 0, 0, 0), (32, 1, .iconst 1, 0, 0, 0), (33, 1, .isub, 0, 0, 0), (34, 3, .invokevirtual 111, 170, 4, 9), (37, 3, .ifCond .eq 56, 0, 0, 0), (40, 1, .aload_n 0, 0, 0, 0), (41, 3, .sipush 181, 0, 0, 0), (44, 1, .iload_n 1, 0, 0, 0), (45, 1, .iadd, 0, 0, 0), (46, 1, .iconst 0, 0, 0, 0), (47, 1, .aload_n 0, 0, 0, 0), (48, 3, .getfield 13, 9, 1, 0), (51, 1, .iconst 4, 0, 0, 0), (52, 1, .aload_n 0, 0, 0, 0), (53, 3, .getfield 13, 9, 1, 0), (56, 3, .sipush 175, 0, 0, 0), (59, 1, .iload_n 1, 0, 0, 0), (60, 1, .iadd, 0, 0, 0), (61, 1, .iaload, 0, 0, 0), (62, 1, .iadd, 0, 0, 0), (63, 1, .iaload, 0, 0, 0), (64, 1, .iconst 1, 0, 0, 0), (65, 1, .isub, 0, 0, 0), (66, 3, .invokevirtual 111, 170, 4, 9), (69, 3, .ifCond .eq 24, 0, 0, 0), (72, 1, .aload_n 0, 0, 0, 0), (73, 3, .sipush 187, 0, 0, 0), (76, 1, .iload_n 1, 0, 0, 0), (77, 1, .iadd, 0, 0, 0), (78, 1, .iconst 0, 0, 0, 0), (79, 1, .aload_n 0, 0, 0, 0), (80, 3, .getfield 13, 9, 1, 0), (83, 1, .iconst 1, 0, 0, 0), (84, 1, .iaload, 0, 0, 0), (85, 1, .iconst 1, 0, 0, 0), (86, 1, .isub, 0, 0, 0), (87, 3, .invokevirtual 111, 170, 4, 9), (90, 3, .ifCond .ne 5, 0, 0, 0), (93, 1, .iconst 0, 0, 0, 0), (94, 1, .ireturn, 0, 0, 0), (95, 1, .aload_n 0, 0, 0, 0), (96, 3, .getfield 13, 9, 1, 0), (99, 3, .sipush 187, 0, 0, 0), (102, 1, .iload_n 1, 0, 0, 0), (103, 1, .iadd, 0, 0, 0), (104, 1, .iaload, 0, 0, 0), (105, 1, .aload_n 0, 0, 0, 0), (106, 3, .getfield 13, 9, 1, 0), (109, 3, .sipush 175, 0, 0, 0), (112, 1, .iload_n 1, 0, 0, 0), (113, 1, .iadd, 0, 0, 0), (114, 1, .iaload, 0, 0, 0), (115, 3, .if_icmp .ne 9, 0, 0, 0), (118, 1, .aload_n 0, 0, 0, 0), (119, 1, .iconst 4, 0, 0, 0), (120, 3, .invokevirtual 107, 169, 2, 9), (123, 1, .ireturn, 0, 0, 0), (124, 1, .aload_n 0, 0, 0, 0), (125, 3, .getfield 13, 9, 1, 0), (128, 1, .iconst 3, 0, 0, 0), (129, 1, .dup2, 0, 0, 0), (130, 1, .iaload, 0, 0, 0), (131, 1, .iconst 1, 0, 0, 0), (132, 1, .iadd, 0, 0, 0), (133, 1, .iastore, 0, 0, 0), (134, 1, .aload_n 0, 0, 0, 0), (135, 3, .sipush 193, 0, 0, 0), (138, 1, .iload_n 1, 0, 0, 0), (139, 1, .iadd, 0, 0, 0), (140, 1, .iconst 0, 0, 0, 0), (141, 1, .aload_n 0, 0, 0, 0), (142, 3, .getfield 13, 9, 1, 0), (145, 1, .iconst 4, 0, 0, 0), (146, 1, .aload_n 0, 0, 0, 0), (147, 3, .getfield 13, 9, 1, 0), (150, 3, .sipush 187, 0, 0, 0), (153, 1, .iload_n 1, 0, 0, 0), (154, 1, .iadd, 0, 0, 0), (155, 1, .iaload, 0, 0, 0), (156, 1, .iadd, 0, 0, 0), (157, 1, .iaload, 0, 0, 0), (158, 1, .iconst 1, 0, 0, 0), (159, 1, .isub, 0, 0, 0), (160, 3, .invokevirtual 111, 170, 4, 9), (163, 3, .ifCond .eq 14, 0, 0, 0), (166, 1, .aload_n 0, 0, 0, 0), (167, 3, .invokevirtual 121, 171, 1, 9), (170, 3, .ifCond .eq 7, 0, 0, 0), (173, 1, .iconst 1, 0, 0, 0), (174, 3, .goto 4, 0, 0, 0), (177, 1, .iconst 0, 0, 0, 0), (178, 1, .ireturn, 0, 0, 0)]
abbrev m_X12_readsWall : Nat := 176
def zc_X12_readsClause : List zE := [(0, 1, .aload_n 0, 0, 0, 0), (1, 3, .getfield 88, 9, 18, 0), (4, 2, .bipush 100, 0, 0, 0), (6, 3, .if_icmp .ne 39, 0, 0, 0), (9, 1, .iload_n 1, 0, 0, 0), (10, 3, .ifCond .eq 29, 0, 0, 0), (13, 1, .aload_n 0, 0, 0, 0), (14, 1, .iconst 0, 0, 0, 0), (15, 1, .iconst 0, 0, 0, 0), (16, 2, .bipush 99, 0, 0, 0), (18, 3, .invokevirtual 111, 170, 4, 9), (21, 3, .ifCond .eq 14, 0, 0, 0), (24, 1, .aload_n 0, 0, 0, 0), (25, 3, .invokevirtual 121, 171, 1, 9), (28, 3, .ifCond .eq 7, 0, 0, 0), (31, 1, .iconst 1, 0, 0, 0), (32, 3, .goto 12, 0, 0, 0), (35, 1, .iconst 0, 0, 0, 0), (36, 3, .goto 8, 0, 0, 0), (39, 1, .aload_n 0, 0, 0, 0), (40, 1, .iconst 3, 0, 0, 0), (41, 3, .invokevirtual 107, 169, 2, 9), (44, 1, .ireturn, 0, 0, 0), (45, 1, .iload_n 1, 0, 0, 0), (46, 3, .ifCond .eq 9, 0, 0, 0), (49, 1, .aload_n 0, 0, 0, 0), (50, 1, .iconst 1, 0, 0, 0), (51, 3, .invokevirtual 107, 169, 2, 9), (54, 1, .ireturn, 0, 0, 0), (55, 1, .aload_n 0, 0, 0, 0), (56, 3, .getfield 88, 9, 18, 0), (59, 45, .tableswitch 65 112 119 #[55, 65, 45, 65, 65, 50, 65, 60], 0, 0, 0), (104, 1, .aload_n 0, 0, 0, 0), (105, 3, .invokevirtual 125, 173, 1, 9), (108, 1, .ireturn, 0, 0, 0), (109, 1, .aload_n 0, 0, 0, 0), (110, 3, .invokevirtual 128, 174, 1, 9), (113, 1, .ireturn, 0, 0, 0), (114, 1, .aload_n 0, 0, 0, 0), (115, 3, .invokevirtual 131, 175, 1, 9), (118, 1, .ireturn, 0, 0, 0), (119, 1, .aload_n 0, 0, 0, 0), (120, 3, .invokevirtual 134, 176, 1, 9), (123, 1, .ireturn, 0, 0, 0), (124, 1, .aload_n 0, 0, 0, 0), (125, 1, .iconst 1, 0, 0, 0), (126, 3, .invokevirtual 107, 169, 2, 9), (129, 1, .ireturn, 0, 0, 0)]
abbrev m_X12_readsClause : Nat := 177
def zc_X12_house : List zE := [(0, 1, .iconst 0, 0, 0, 0), (1, 1, .istore_n 1, 0, 0, 0), (2, 1, .iload_n 1, 0, 0, 0), (3, 3, .sipush 200, 0, 0, 0), (6, 3, .if_icmp .ge 16, 0, 0, 0), (9, 1, .aload_n 0, 0, 0, 0), (10, 3, .getfield 13, 9, 1, 0), (13, 1, .iload_n 1, 0, 0, 0), (14, 1, .iconst 0, 0, 0, 0), (15, 1, .iastore, 0, 0, 0), (16, 3, .iinc 1 1, 0, 0, 0), (19, 3, .goto (-17), 0, 0, 0), (22, 1, .aload_n 0, 0, 0, 0), (23, 1, .iconst 0, 0, 0, 0), (24, 3, .putfield 78, 9, 16, 0), (27, 1, .aload_n 0, 0, 0, 0), (28, 1, .iconst (-1), 0, 0, 0), (29, 3, .putfield 35, 9, 11, 0), (32, 1, .iconst 1, 0, 0, 0), (33, 1, .istore_n 1, 0, 0, 0), (34, 1, .iconst 0, 0, 0, 0), (35, 1, .istore_n 2, 0, 0, 0), (36, 1, .aload_n 0, 0, 0, 0), (37, 3, .invokevirtual 104, 168, 1, 9), (40, 1, .aload_n 0, 0, 0, 0), (41, 3, .getfield 88, 9, 18, 0), (44, 3, .ifCond .lt 35, 0, 0, 0), (47, 1, .iload_n 1, 0, 0, 0), (48, 3, .ifCond .eq 31, 0, 0, 0), (51, 1, .aload_n 0, 0, 0, 0), (52, 1, .iload_n 2, 0, 0, 0), (53, 3, .ifCond .ne 7, 0, 0, 0), (56, 1, .iconst 1, 0, 0, 0), (57, 3, .goto 4, 0, 0, 0), (60, 1, .iconst 0, 0, 0, 0), (61, 3, .invokevirtual 137, 177, 2, 9), (64, 1, .istore_n 1, 0, 0, 0), (65, 3, .iinc 2 1, 0, 0, 0), (68, 1, .iload_n 1, 0, 0, 0), (69, 3, .ifCond .eq (-29), 0, 0, 0), (72, 1, .aload_n 0, 0, 0, 0), (73, 3, .invokevirtual 104, 168, 1, 9), (76, 3, .goto (-36), 0, 0, 0), (79, 1, .aload_n 0, 0, 0, 0), (80, 1, .iconst 0, 0, 0, 0), (81, 3, .putfield 74, 9, 10, 0), (84, 1, .iload_n 1, 0, 0, 0), (85, 3, .ifCond .ne 19, 0, 0, 0), (88, 1, .aload_n 0, 0, 0, 0), (89, 1, .aload_n 0, 0, 0, 0), (90, 3, .getfield 85, 9, 17, 0), (93, 3, .putfield 35, 9, 11, 0), (96, 2, .bipush (-10), 0, 0, 0), (98, 1, .aload_n 0, 0, 0, 0), (99, 3, .getfield 101, 9, 21, 0), (102, 1, .isub, 0, 0, 0), (103, 1, .ireturn, 0, 0, 0), (104, 1, .aload_n 0, 0, 0, 0), (105, 3, .getfield 13, 9, 1, 0), (108, 3, .sipush 199, 0, 0, 0), (111, 1, .iload_n 2, 0, 0, 0), (112, 3, .ifCond .le 7, 0, 0, 0), (115, 1, .iconst 1, 0, 0, 0), (116, 3, .goto 4, 0, 0, 0), (119, 1, .iconst 0, 0, 0, 0), (120, 1, .iastore, 0, 0, 0), (121, 1, .aload_n 0, 0, 0, 0), (122, 3, .getfield 13, 9, 1, 0), (125, 1, .iconst 0, 0, 0, 0), (126, 1, .aload_n 0, 0, 0, 0), (127, 3, .getfield 7, 9, 0, 0), (130, 1, .iconst 0, 0, 0, 0), (131, 3, .sipush 200, 0, 0, 0), (134, 3, .invokestatic 54, 164, 5, (-1)), (137, 1, .aload_n 0, 0, 0, 0), (138, 3, .invokevirtual 141, 165, 1, 9), (141, 1, .aload_n 0, 0, 0, 0), (142, 3, .getfield 7, 9, 0, 0), (145, 1, .iconst 1, 0, 0, 0), (146, 1, .iaload, 0, 0, 0), (147, 1, .ireturn, 0, 0, 0)]
abbrev m_X12_house : Nat := 178
def zc_X12_fault : List zE := [(0, 1, .aload_n 0, 0, 0, 0), (1, 3, .getfield 35, 9, 11, 0), (4, 1, .ireturn, 0, 0, 0)]
abbrev m_X12_fault : Nat := 179
def zc_X12_isRoom : List zE := [(0, 1, .iload_n 1, 0, 0, 0), (1, 1, .i2l, 0, 0, 0), (2, 1, .lconst 0, 0, 0, 0), (3, 1, .aload_n 0, 0, 0, 0), (4, 3, .getfield 7, 9, 0, 0), (7, 1, .iconst 1, 0, 0, 0), (8, 1, .iaload, 0, 0, 0), (9, 1, .iconst 1, 0, 0, 0), (10, 1, .isub, 0, 0, 0), (11, 1, .i2l, 0, 0, 0), (12, 3, .invokestatic 69, 160, 3, (-1)), (15, 1, .ireturn, 0, 0, 0)]
abbrev m_X12_isRoom : Nat := 180
def zc_X12_isBar : List zE := [(0, 1, .aload_n 0, 0, 0, 0), (1, 1, .iload_n 1, 0, 0, 0), (2, 3, .invokevirtual 144, 180, 2, 9), (5, 3, .ifCond .eq 27, 0, 0, 0), (8, 1, .iload_n 2, 0, 0, 0), (9, 1, .i2l, 0, 0, 0), (10, 1, .lconst 0, 0, 0, 0), (11, 1, .aload_n 0, 0, 0, 0), (12, 3, .getfield 7, 9, 0, 0), (15, 1, .iconst 4, 0, 0, 0), (16, 1, .iload_n 1, 0, 0, 0), (17, 1, .iadd, 0, 0, 0), (18, 1, .iaload, 0, 0, 0), (19, 1, .iconst 1, 0, 0, 0), (20, 1, .isub, 0, 0, 0), (21, 1, .i2l, 0, 0, 0), (22, 3, .invokestatic 69, 160, 3, (-1)), (25, 3, .ifCond .eq 7, 0, 0, 0), (28, 1, .iconst 1, 0, 0, 0), (29, 3, .goto 4, 0, 0, 0), (32, 1, .iconst 0, 0, 0, 0), (33, 1, .ireturn, 0, 0, 0)]
abbrev m_X12_isBar : Nat := 181
def zc_X12_isPerson : List zE := [(0, 1, .iload_n 1, 0, 0, 0), (1, 1, .i2l, 0, 0, 0), (2, 1, .lconst 0, 0, 0, 0), (3, 1, .aload_n 0, 0, 0, 0), (4, 3, .getfield 7, 9, 0, 0), (7, 1, .iconst 2, 0, 0, 0), (8, 1, .iaload, 0, 0, 0), (9, 1, .iconst 1, 0, 0, 0), (10, 1, .isub, 0, 0, 0), (11, 1, .i2l, 0, 0, 0), (12, 3, .invokestatic 69, 160, 3, (-1)), (15, 1, .ireturn, 0, 0, 0)]
abbrev m_X12_isPerson : Nat := 182
def zc_X12_areTwo : List zE := [(0, 1, .aload_n 0, 0, 0, 0), (1, 1, .iload_n 1, 0, 0, 0), (2, 3, .invokevirtual 144, 180, 2, 9), (5, 3, .ifCond .eq 20, 0, 0, 0), (8, 1, .aload_n 0, 0, 0, 0), (9, 1, .iload_n 2, 0, 0, 0), (10, 3, .invokevirtual 144, 180, 2, 9), (13, 3, .ifCond .eq 12, 0, 0, 0), (16, 1, .iload_n 1, 0, 0, 0), (17, 1, .iload_n 2, 0, 0, 0), (18, 3, .if_icmp .eq 7, 0, 0, 0), (21, 1, .iconst 1, 0, 0, 0), (22, 3, .goto 4, 0, 0, 0), (25, 1, .iconst 0, 0, 0, 0), (26, 1, .ireturn, 0, 0, 0)]
abbrev m_X12_areTwo : Nat := 183
def zc_X12_turned : List zE := [(0, 1, .aload_n 0, 0, 0, 0), (1, 3, .getfield 7, 9, 0, 0), (4, 1, .iload_n 3, 0, 0, 0), (5, 3, .ifCond .eq 8, 0, 0, 0), (8, 2, .bipush 88, 0, 0, 0), (10, 3, .goto 5, 0, 0, 0), (13, 2, .bipush 16, 0, 0, 0), (15, 2, .bipush 12, 0, 0, 0), (17, 1, .iload_n 1, 0, 0, 0), (18, 1, .imul, 0, 0, 0), (19, 1, .iadd, 0, 0, 0), (20, 1, .iload_n 2, 0, 0, 0), (21, 1, .iadd, 0, 0, 0), (22, 1, .iaload, 0, 0, 0), (23, 1, .ireturn, 0, 0, 0)]
abbrev m_X12_turned : Nat := 184
def zc_X12_readsOn : List zE := [(0, 1, .aload_n 0, 0, 0, 0), (1, 1, .iload_n 2, 0, 0, 0), (2, 1, .iload_n 3, 0, 0, 0), (3, 1, .aload_n 1, 0, 0, 0), (4, 1, .iconst 0, 0, 0, 0), (5, 1, .iload_n 2, 0, 0, 0), (6, 1, .iadd, 0, 0, 0), (7, 1, .iaload, 0, 0, 0), (8, 1, .iload_n 3, 0, 0, 0), (9, 3, .invokestatic 147, 161, 2, (-1)), (12, 3, .invokevirtual 151, 184, 4, 9), (15, 1, .ireturn, 0, 0, 0)]
abbrev m_X12_readsOn : Nat := 185
def zc_X12_reads : List zE := [(0, 1, .aload_n 0, 0, 0, 0), (1, 1, .aload_n 0, 0, 0, 0), (2, 3, .getfield 16, 9, 2, 0), (5, 1, .iload_n 1, 0, 0, 0), (6, 1, .iload_n 2, 0, 0, 0), (7, 3, .invokevirtual 155, 185, 4, 9), (10, 1, .ireturn, 0, 0, 0)]
abbrev m_X12_reads : Nat := 186
def zc_X12_open : List zE := [(0, 1, .iconst 0, 0, 0, 0), (1, 1, .istore_n 1, 0, 0, 0), (2, 1, .iconst 0, 0, 0, 0), (3, 1, .istore_n 2, 0, 0, 0), (4, 1, .iload_n 2, 0, 0, 0), (5, 1, .aload_n 0, 0, 0, 0), (6, 3, .getfield 7, 9, 0, 0), (9, 1, .iconst 1, 0, 0, 0), (10, 1, .iaload, 0, 0, 0), (11, 3, .if_icmp .ge 43, 0, 0, 0), (14, 1, .iload_n 1, 0, 0, 0), (15, 1, .aload_n 0, 0, 0, 0), (16, 1, .iload_n 2, 0, 0, 0), (17, 1, .aload_n 0, 0, 0, 0), (18, 3, .getfield 7, 9, 0, 0), (21, 1, .iconst 4, 0, 0, 0), (22, 1, .iload_n 2, 0, 0, 0), (23, 1, .iadd, 0, 0, 0), (24, 1, .iaload, 0, 0, 0), (25, 1, .iconst 1, 0, 0, 0), (26, 1, .isub, 0, 0, 0), (27, 3, .invokevirtual 159, 186, 3, 9), (30, 1, .aload_n 0, 0, 0, 0), (31, 1, .iload_n 2, 0, 0, 0), (32, 1, .iconst 0, 0, 0, 0), (33, 3, .invokevirtual 159, 186, 3, 9), (36, 3, .if_icmp .ne 7, 0, 0, 0), (39, 1, .iconst 0, 0, 0, 0), (40, 3, .goto 6, 0, 0, 0), (43, 1, .iconst 1, 0, 0, 0), (44, 1, .iload_n 2, 0, 0, 0), (45, 1, .ishl, 0, 0, 0), (46, 1, .ior, 0, 0, 0), (47, 1, .istore_n 1, 0, 0, 0), (48, 3, .iinc 2 1, 0, 0, 0), (51, 3, .goto (-47), 0, 0, 0), (54, 1, .iload_n 1, 0, 0, 0), (55, 1, .ireturn, 0, 0, 0)]
abbrev m_X12_open : Nat := 187
def zc_X12_liftedInAll : List zE := [(0, 1, .iconst 0, 0, 0, 0), (1, 1, .istore_n 1, 0, 0, 0), (2, 1, .iconst 0, 0, 0, 0), (3, 1, .istore_n 2, 0, 0, 0), (4, 1, .iload_n 2, 0, 0, 0), (5, 2, .bipush 6, 0, 0, 0), (7, 3, .if_icmp .ge 23, 0, 0, 0), (10, 1, .iload_n 1, 0, 0, 0), (11, 1, .aload_n 0, 0, 0, 0), (12, 3, .getfield 16, 9, 2, 0), (15, 1, .iconst 0, 0, 0, 0), (16, 1, .iload_n 2, 0, 0, 0), (17, 1, .iadd, 0, 0, 0), (18, 1, .iaload, 0, 0, 0), (19, 3, .invokestatic 163, 162, 1, (-1)), (22, 1, .iadd, 0, 0, 0), (23, 1, .istore_n 1, 0, 0, 0), (24, 3, .iinc 2 1, 0, 0, 0), (27, 3, .goto (-23), 0, 0, 0), (30, 1, .iload_n 1, 0, 0, 0), (31, 1, .ireturn, 0, 0, 0)]
abbrev m_X12_liftedInAll : Nat := 188
def zc_X12_mostRead : List zE := [(0, 1, .iconst 0, 0, 0, 0), (1, 1, .istore_n 1, 0, 0, 0), (2, 1, .iload_n 1, 0, 0, 0), (3, 2, .bipush 10, 0, 0, 0), (5, 3, .if_icmp .ge 16, 0, 0, 0), (8, 1, .aload_n 0, 0, 0, 0), (9, 3, .getfield 45, 9, 23, 0), (12, 1, .iload_n 1, 0, 0, 0), (13, 1, .iconst 0, 0, 0, 0), (14, 1, .iastore, 0, 0, 0), (15, 3, .iinc 1 1, 0, 0, 0), (18, 3, .goto (-16), 0, 0, 0), (21, 1, .iconst 0, 0, 0, 0), (22, 1, .istore_n 1, 0, 0, 0), (23, 1, .iload_n 1, 0, 0, 0), (24, 1, .aload_n 0, 0, 0, 0), (25, 3, .getfield 7, 9, 0, 0), (28, 1, .iconst 1, 0, 0, 0), (29, 1, .iaload, 0, 0, 0), (30, 3, .if_icmp .ge 44, 0, 0, 0), (33, 1, .iconst 0, 0, 0, 0), (34, 1, .istore_n 2, 0, 0, 0), (35, 1, .iload_n 2, 0, 0, 0), (36, 1, .aload_n 0, 0, 0, 0), (37, 3, .getfield 7, 9, 0, 0), (40, 1, .iconst 4, 0, 0, 0), (41, 1, .iload_n 1, 0, 0, 0), (42, 1, .iadd, 0, 0, 0), (43, 1, .iaload, 0, 0, 0), (44, 3, .if_icmp .ge 24, 0, 0, 0), (47, 1, .aload_n 0, 0, 0, 0), (48, 3, .getfield 45, 9, 23, 0), (51, 1, .aload_n 0, 0, 0, 0), (52, 1, .iload_n 1, 0, 0, 0), (53, 1, .iload_n 2, 0, 0, 0), (54, 3, .invokevirtual 159, 186, 3, 9), (57, 1, .dup2, 0, 0, 0), (58, 1, .iaload, 0, 0, 0), (59, 1, .iconst 1, 0, 0, 0), (60, 1, .iadd, 0, 0, 0), (61, 1, .iastore, 0, 0, 0), (62, 3, .iinc 2 1, 0, 0, 0), (65, 3, .goto (-30), 0, 0, 0), (68, 3, .iinc 1 1, 0, 0, 0), (71, 3, .goto (-48), 0, 0, 0), (74, 1, .iconst (-1), 0, 0, 0), (75, 1, .istore_n 1, 0, 0, 0), (76, 1, .iconst 1, 0, 0, 0), (77, 1, .istore_n 2, 0, 0, 0), (78, 1, .iload_n 2, 0, 0, 0), (79, 2, .bipush 10, 0, 0, 0), (81, 3, .if_icmp .ge 44, 0, 0, 0), (84, 1, .aload_n 0, 0, 0, 0), (85, 3, .getfield 45, 9, 23, 0), (88, 1, .iload_n 2, 0, 0, 0), (89, 1, .iaload, 0, 0, 0), (90, 3, .ifCond .le 27, 0, 0, 0), (93, 1, .iload_n 1, 0, 0, 0), (94, 1, .iconst (-1), 0, 0, 0), (95, 3, .if_icmp .eq 18, 0, 0, 0), (98, 1, .aload_n 0, 0, 0, 0), (99, 3, .getfield 45, 9, 23, 0), (102, 1, .iload_n 2, 0, 0, 0), (103, 1, .iaload, 0, 0, 0), (104, 1, .aload_n 0, 0, 0, 0), (105, 3, .getfield 45, 9, 23, 0), (108, 1, .iload_n 1, 0, 0, 0), (109, 1, .iaload, 0, 0, 0), (110, 3, .if_icmp .le 7, 0, 0, 0), (113, 1, .iload_n 2, 0, 0, 0), (114, 3, .goto 4, 0, 0, 0), (117, 1, .iload_n 1, 0, 0, 0), (118, 1, .istore_n 1, 0, 0, 0), (119, 3, .iinc 2 1, 0, 0, 0), (122, 3, .goto (-44), 0, 0, 0), (125, 1, .iload_n 1, 0, 0, 0), (126, 1, .ireturn, 0, 0, 0)]
abbrev m_X12_mostRead : Nat := 189
def zc_X12_key : List zE := [(0, 1, .iconst 0, 0, 0, 0), (1, 1, .istore_n 2, 0, 0, 0), (2, 1, .iconst 0, 0, 0, 0), (3, 1, .istore_n 3, 0, 0, 0), (4, 1, .iload_n 3, 0, 0, 0), (5, 1, .aload_n 0, 0, 0, 0), (6, 3, .getfield 7, 9, 0, 0), (9, 1, .iconst 4, 0, 0, 0), (10, 1, .iload_n 1, 0, 0, 0), (11, 1, .iadd, 0, 0, 0), (12, 1, .iaload, 0, 0, 0), (13, 3, .if_icmp .ge 18, 0, 0, 0), (16, 1, .iload_n 2, 0, 0, 0), (17, 1, .aload_n 0, 0, 0, 0), (18, 1, .iload_n 1, 0, 0, 0), (19, 1, .iload_n 3, 0, 0, 0), (20, 3, .invokevirtual 159, 186, 3, 9), (23, 1, .iadd, 0, 0, 0), (24, 1, .istore_n 2, 0, 0, 0), (25, 3, .iinc 3 1, 0, 0, 0), (28, 3, .goto (-24), 0, 0, 0), (31, 1, .iload_n 2, 0, 0, 0), (32, 2, .bipush 12, 0, 0, 0), (34, 1, .irem, 0, 0, 0), (35, 1, .ireturn, 0, 0, 0)]
abbrev m_X12_key : Nat := 190
def zc_X12_repeat : List zE := [(0, 1, .aload_n 0, 0, 0, 0), (1, 3, .getfield 7, 9, 0, 0), (4, 1, .iconst 4, 0, 0, 0), (5, 1, .iload_n 1, 0, 0, 0), (6, 1, .iadd, 0, 0, 0), (7, 1, .iaload, 0, 0, 0), (8, 1, .istore_n 2, 0, 0, 0), (9, 1, .iconst 1, 0, 0, 0), (10, 1, .istore_n 3, 0, 0, 0), (11, 1, .iload_n 3, 0, 0, 0), (12, 1, .iload_n 2, 0, 0, 0), (13, 3, .if_icmp .ge 67, 0, 0, 0), (16, 1, .iconst 1, 0, 0, 0), (17, 2, .istore 4, 0, 0, 0), (19, 1, .iconst 0, 0, 0, 0), (20, 2, .istore 5, 0, 0, 0), (22, 2, .iload 5, 0, 0, 0), (24, 1, .iload_n 2, 0, 0, 0), (25, 3, .if_icmp .ge 42, 0, 0, 0), (28, 2, .iload 4, 0, 0, 0), (30, 3, .ifCond .eq 28, 0, 0, 0), (33, 1, .aload_n 0, 0, 0, 0), (34, 1, .iload_n 1, 0, 0, 0), (35, 2, .iload 5, 0, 0, 0), (37, 3, .invokevirtual 159, 186, 3, 9), (40, 1, .aload_n 0, 0, 0, 0), (41, 1, .iload_n 1, 0, 0, 0), (42, 2, .iload 5, 0, 0, 0), (44, 1, .iload_n 3, 0, 0, 0), (45, 1, .iadd, 0, 0, 0), (46, 1, .iload_n 2, 0, 0, 0), (47, 1, .irem, 0, 0, 0), (48, 3, .invokevirtual 159, 186, 3, 9), (51, 3, .if_icmp .ne 7, 0, 0, 0), (54, 1, .iconst 1, 0, 0, 0), (55, 3, .goto 4, 0, 0, 0), (58, 1, .iconst 0, 0, 0, 0), (59, 2, .istore 4, 0, 0, 0), (61, 3, .iinc 5 1, 0, 0, 0), (64, 3, .goto (-42), 0, 0, 0), (67, 2, .iload 4, 0, 0, 0), (69, 3, .ifCond .eq 5, 0, 0, 0), (72, 1, .iload_n 3, 0, 0, 0), (73, 1, .ireturn, 0, 0, 0), (74, 3, .iinc 3 1, 0, 0, 0), (77, 3, .goto (-66), 0, 0, 0), (80, 1, .iload_n 2, 0, 0, 0), (81, 1, .ireturn, 0, 0, 0)]
abbrev m_X12_repeat : Nat := 191
def zc_X12_told : List zE := [(0, 1, .iload_n 1, 0, 0, 0), (1, 71, .tableswitch 159 0 13 #[71, 93, 93, 93, 100, 105, 113, 121, 129, 134, 139, 144, 149, 154], 0, 0, 0), (72, 1, .aload_n 0, 0, 0, 0), (73, 3, .getfield 7, 9, 0, 0), (76, 3, .sipush 199, 0, 0, 0), (79, 1, .iaload, 0, 0, 0), (80, 3, .ifCond .ne 7, 0, 0, 0), (83, 1, .iconst (-1), 0, 0, 0), (84, 3, .goto 9, 0, 0, 0), (87, 1, .aload_n 0, 0, 0, 0), (88, 3, .getfield 7, 9, 0, 0), (91, 1, .iconst 0, 0, 0, 0), (92, 1, .iaload, 0, 0, 0), (93, 1, .ireturn, 0, 0, 0), (94, 1, .aload_n 0, 0, 0, 0), (95, 3, .getfield 7, 9, 0, 0), (98, 1, .iload_n 1, 0, 0, 0), (99, 1, .iaload, 0, 0, 0), (100, 1, .ireturn, 0, 0, 0), (101, 1, .aload_n 0, 0, 0, 0), (102, 3, .getfield 74, 9, 10, 0), (105, 1, .ireturn, 0, 0, 0), (106, 1, .aload_n 0, 0, 0, 0), (107, 3, .getfield 16, 9, 2, 0), (110, 2, .bipush 22, 0, 0, 0), (112, 1, .iaload, 0, 0, 0), (113, 1, .ireturn, 0, 0, 0), (114, 1, .aload_n 0, 0, 0, 0), (115, 3, .getfield 16, 9, 2, 0), (118, 2, .bipush 21, 0, 0, 0), (120, 1, .iaload, 0, 0, 0), (121, 1, .ireturn, 0, 0, 0), (122, 1, .aload_n 0, 0, 0, 0), (123, 3, .getfield 16, 9, 2, 0), (126, 2, .bipush 23, 0, 0, 0), (128, 1, .iaload, 0, 0, 0), (129, 1, .ireturn, 0, 0, 0), (130, 1, .aload_n 0, 0, 0, 0), (131, 3, .invokevirtual 167, 187, 1, 9), (134, 1, .ireturn, 0, 0, 0), (135, 1, .aload_n 0, 0, 0, 0), (136, 3, .invokevirtual 170, 188, 1, 9), (139, 1, .ireturn, 0, 0, 0), (140, 1, .aload_n 0, 0, 0, 0), (141, 3, .invokevirtual 173, 189, 1, 9), (144, 1, .ireturn, 0, 0, 0), (145, 1, .aload_n 0, 0, 0, 0), (146, 3, .getfield 61, 9, 13, 0), (149, 1, .ireturn, 0, 0, 0), (150, 1, .aload_n 0, 0, 0, 0), (151, 3, .getfield 64, 9, 15, 0), (154, 1, .ireturn, 0, 0, 0), (155, 1, .aload_n 0, 0, 0, 0), (156, 3, .getfield 58, 9, 5, 0), (159, 1, .ireturn, 0, 0, 0), (160, 2, .ldc 73, 0, 0, (-1000000002)), (162, 1, .ireturn, 0, 0, 0)]
abbrev m_X12_told : Nat := 192
def zc_X12_room : List zE := [(0, 1, .aload_n 0, 0, 0, 0), (1, 1, .iload_n 1, 0, 0, 0), (2, 3, .invokevirtual 144, 180, 2, 9), (5, 3, .ifCond .ne 6, 0, 0, 0), (8, 2, .ldc 176, 0, 0, (-1000000001)), (10, 1, .ireturn, 0, 0, 0), (11, 1, .iload_n 2, 0, 0, 0), (12, 36, .tableswitch 76 0 4 #[36, 45, 54, 60, 66], 0, 0, 0), (48, 1, .aload_n 0, 0, 0, 0), (49, 3, .getfield 7, 9, 0, 0), (52, 1, .iconst 4, 0, 0, 0), (53, 1, .iload_n 1, 0, 0, 0), (54, 1, .iadd, 0, 0, 0), (55, 1, .iaload, 0, 0, 0), (56, 1, .ireturn, 0, 0, 0), (57, 1, .aload_n 0, 0, 0, 0), (58, 3, .getfield 16, 9, 2, 0), (61, 1, .iconst 0, 0, 0, 0), (62, 1, .iload_n 1, 0, 0, 0), (63, 1, .iadd, 0, 0, 0), (64, 1, .iaload, 0, 0, 0), (65, 1, .ireturn, 0, 0, 0), (66, 1, .aload_n 0, 0, 0, 0), (67, 1, .iload_n 1, 0, 0, 0), (68, 3, .invokevirtual 177, 190, 2, 9), (71, 1, .ireturn, 0, 0, 0), (72, 1, .aload_n 0, 0, 0, 0), (73, 1, .iload_n 1, 0, 0, 0), (74, 3, .invokevirtual 180, 191, 2, 9), (77, 1, .ireturn, 0, 0, 0), (78, 1, .aload_n 0, 0, 0, 0), (79, 3, .getfield 7, 9, 0, 0), (82, 2, .bipush 10, 0, 0, 0), (84, 1, .iload_n 1, 0, 0, 0), (85, 1, .iadd, 0, 0, 0), (86, 1, .iaload, 0, 0, 0), (87, 1, .ireturn, 0, 0, 0), (88, 2, .ldc 73, 0, 0, (-1000000002)), (90, 1, .ireturn, 0, 0, 0)]
abbrev m_X12_room : Nat := 193
def zc_X12_bar : List zE := [(0, 1, .aload_n 0, 0, 0, 0), (1, 1, .iload_n 1, 0, 0, 0), (2, 1, .iload_n 2, 0, 0, 0), (3, 3, .invokevirtual 183, 181, 3, 9), (6, 3, .ifCond .ne 6, 0, 0, 0), (9, 2, .ldc 176, 0, 0, (-1000000001)), (11, 1, .ireturn, 0, 0, 0), (12, 1, .iload_n 3, 0, 0, 0), (13, 1, .i2l, 0, 0, 0), (14, 1, .lconst 0, 0, 0, 0), (15, 3, .ldc2_w 186, 0, 0, 2), (18, 3, .invokestatic 69, 160, 3, (-1)), (21, 3, .ifCond .ne 6, 0, 0, 0), (24, 2, .ldc 73, 0, 0, (-1000000002)), (26, 1, .ireturn, 0, 0, 0), (27, 1, .iload_n 3, 0, 0, 0), (28, 1, .iconst 2, 0, 0, 0), (29, 3, .if_icmp .ne 12, 0, 0, 0), (32, 1, .aload_n 0, 0, 0, 0), (33, 1, .iload_n 1, 0, 0, 0), (34, 1, .iload_n 2, 0, 0, 0), (35, 3, .invokevirtual 159, 186, 3, 9), (38, 3, .goto 19, 0, 0, 0), (41, 1, .aload_n 0, 0, 0, 0), (42, 1, .iload_n 1, 0, 0, 0), (43, 1, .iload_n 2, 0, 0, 0), (44, 1, .iload_n 3, 0, 0, 0), (45, 1, .iconst 1, 0, 0, 0), (46, 3, .if_icmp .ne 7, 0, 0, 0), (49, 1, .iconst 1, 0, 0, 0), (50, 3, .goto 4, 0, 0, 0), (53, 1, .iconst 0, 0, 0, 0), (54, 3, .invokevirtual 151, 184, 4, 9), (57, 1, .ireturn, 0, 0, 0)]
abbrev m_X12_bar : Nat := 194
def zc_X12_person : List zE := [(0, 1, .aload_n 0, 0, 0, 0), (1, 1, .iload_n 1, 0, 0, 0), (2, 3, .invokevirtual 188, 182, 2, 9), (5, 3, .ifCond .ne 6, 0, 0, 0), (8, 2, .ldc 176, 0, 0, (-1000000001)), (10, 1, .ireturn, 0, 0, 0), (11, 1, .iload_n 2, 0, 0, 0), (12, 1, .i2l, 0, 0, 0), (13, 1, .lconst 0, 0, 0, 0), (14, 3, .ldc2_w 191, 0, 0, 3), (17, 3, .invokestatic 69, 160, 3, (-1)), (20, 3, .ifCond .ne 6, 0, 0, 0), (23, 2, .ldc 73, 0, 0, (-1000000002)), (25, 1, .ireturn, 0, 0, 0), (26, 1, .iload_n 2, 0, 0, 0), (27, 1, .iconst 3, 0, 0, 0), (28, 3, .if_icmp .ge 19, 0, 0, 0), (31, 1, .aload_n 0, 0, 0, 0), (32, 3, .getfield 16, 9, 2, 0), (35, 2, .bipush 6, 0, 0, 0), (37, 1, .iconst 5, 0, 0, 0), (38, 1, .iload_n 2, 0, 0, 0), (39, 1, .imul, 0, 0, 0), (40, 1, .iadd, 0, 0, 0), (41, 1, .iload_n 1, 0, 0, 0), (42, 1, .iadd, 0, 0, 0), (43, 1, .iaload, 0, 0, 0), (44, 3, .goto 25, 0, 0, 0), (47, 1, .aload_n 0, 0, 0, 0), (48, 1, .aload_n 0, 0, 0, 0), (49, 3, .getfield 16, 9, 2, 0), (52, 2, .bipush 6, 0, 0, 0), (54, 1, .iload_n 1, 0, 0, 0), (55, 1, .iadd, 0, 0, 0), (56, 1, .iaload, 0, 0, 0), (57, 1, .aload_n 0, 0, 0, 0), (58, 3, .getfield 16, 9, 2, 0), (61, 2, .bipush 11, 0, 0, 0), (63, 1, .iload_n 1, 0, 0, 0), (64, 1, .iadd, 0, 0, 0), (65, 1, .iaload, 0, 0, 0), (66, 3, .invokevirtual 159, 186, 3, 9), (69, 1, .ireturn, 0, 0, 0)]
abbrev m_X12_person : Nat := 195
def zc_X12_wall : List zE := [(0, 1, .iload_n 1, 0, 0, 0), (1, 1, .i2l, 0, 0, 0), (2, 1, .lconst 0, 0, 0, 0), (3, 1, .aload_n 0, 0, 0, 0), (4, 3, .getfield 7, 9, 0, 0), (7, 1, .iconst 3, 0, 0, 0), (8, 1, .iaload, 0, 0, 0), (9, 1, .iconst 1, 0, 0, 0), (10, 1, .isub, 0, 0, 0), (11, 1, .i2l, 0, 0, 0), (12, 3, .invokestatic 69, 160, 3, (-1)), (15, 3, .ifCond .ne 6, 0, 0, 0), (18, 2, .ldc 176, 0, 0, (-1000000001)), (20, 1, .ireturn, 0, 0, 0), (21, 1, .iload_n 2, 0, 0, 0), (22, 1, .i2l, 0, 0, 0), (23, 1, .lconst 0, 0, 0, 0), (24, 3, .ldc2_w 191, 0, 0, 3), (27, 3, .invokestatic 69, 160, 3, (-1)), (30, 3, .ifCond .eq 21, 0, 0, 0), (33, 1, .aload_n 0, 0, 0, 0), (34, 3, .getfield 7, 9, 0, 0), (37, 3, .sipush 175, 0, 0, 0), (40, 2, .bipush 6, 0, 0, 0), (42, 1, .iload_n 2, 0, 0, 0), (43, 1, .imul, 0, 0, 0), (44, 1, .iadd, 0, 0, 0), (45, 1, .iload_n 1, 0, 0, 0), (46, 1, .iadd, 0, 0, 0), (47, 1, .iaload, 0, 0, 0), (48, 3, .goto 5, 0, 0, 0), (51, 2, .ldc 73, 0, 0, (-1000000002)), (53, 1, .ireturn, 0, 0, 0)]
abbrev m_X12_wall : Nat := 196
def zc_X12_logged : List zE := [(0, 1, .iload_n 2, 0, 0, 0), (1, 1, .i2l, 0, 0, 0), (2, 1, .lconst 0, 0, 0, 0), (3, 3, .ldc2_w 186, 0, 0, 2), (6, 3, .invokestatic 69, 160, 3, (-1)), (9, 3, .ifCond .ne 6, 0, 0, 0), (12, 2, .ldc 73, 0, 0, (-1000000002)), (14, 1, .ireturn, 0, 0, 0), (15, 1, .iload_n 1, 0, 0, 0), (16, 1, .i2l, 0, 0, 0), (17, 1, .lconst 0, 0, 0, 0), (18, 1, .aload_n 0, 0, 0, 0), (19, 3, .getfield 16, 9, 2, 0), (22, 2, .bipush 23, 0, 0, 0), (24, 1, .iaload, 0, 0, 0), (25, 1, .iconst 1, 0, 0, 0), (26, 1, .isub, 0, 0, 0), (27, 1, .i2l, 0, 0, 0), (28, 3, .invokestatic 69, 160, 3, (-1)), (31, 3, .ifCond .ne 5, 0, 0, 0), (34, 1, .iconst (-1), 0, 0, 0), (35, 1, .ireturn, 0, 0, 0), (36, 1, .aload_n 0, 0, 0, 0), (37, 3, .getfield 16, 9, 2, 0), (40, 2, .bipush 24, 0, 0, 0), (42, 1, .aload_n 0, 0, 0, 0), (43, 3, .getfield 16, 9, 2, 0), (46, 2, .bipush 23, 0, 0, 0), (48, 1, .iaload, 0, 0, 0), (49, 1, .iadd, 0, 0, 0), (50, 1, .iconst 1, 0, 0, 0), (51, 1, .isub, 0, 0, 0), (52, 1, .iload_n 1, 0, 0, 0), (53, 1, .isub, 0, 0, 0), (54, 1, .iaload, 0, 0, 0), (55, 1, .istore_n 3, 0, 0, 0), (56, 1, .iload_n 2, 0, 0, 0), (57, 3, .ifCond .ne 10, 0, 0, 0), (60, 1, .iload_n 3, 0, 0, 0), (61, 2, .bipush 100, 0, 0, 0), (63, 1, .idiv, 0, 0, 0), (64, 3, .goto 22, 0, 0, 0), (67, 1, .iload_n 2, 0, 0, 0), (68, 1, .iconst 1, 0, 0, 0), (69, 3, .if_icmp .ne 13, 0, 0, 0), (72, 1, .iload_n 3, 0, 0, 0), (73, 2, .bipush 10, 0, 0, 0), (75, 1, .idiv, 0, 0, 0), (76, 2, .bipush 10, 0, 0, 0), (78, 1, .irem, 0, 0, 0), (79, 3, .goto 7, 0, 0, 0), (82, 1, .iload_n 3, 0, 0, 0), (83, 2, .bipush 10, 0, 0, 0), (85, 1, .irem, 0, 0, 0), (86, 1, .ireturn, 0, 0, 0)]
abbrev m_X12_logged : Nat := 197
def zc_X12_walks : List zE := [(0, 1, .aload_n 1, 0, 0, 0), (1, 2, .bipush 6, 0, 0, 0), (3, 1, .iload_n 2, 0, 0, 0), (4, 1, .iadd, 0, 0, 0), (5, 1, .iaload, 0, 0, 0), (6, 1, .istore_n 3, 0, 0, 0), (7, 1, .iconst 0, 0, 0, 0), (8, 2, .istore 4, 0, 0, 0), (10, 2, .iload 4, 0, 0, 0), (12, 1, .aload_n 1, 0, 0, 0), (13, 2, .bipush 16, 0, 0, 0), (15, 1, .iload_n 2, 0, 0, 0), (16, 1, .iadd, 0, 0, 0), (17, 1, .iaload, 0, 0, 0), (18, 3, .if_icmp .ge 48, 0, 0, 0), (21, 1, .aload_n 1, 0, 0, 0), (22, 2, .bipush 11, 0, 0, 0), (24, 1, .iload_n 2, 0, 0, 0), (25, 1, .iadd, 0, 0, 0), (26, 1, .aload_n 1, 0, 0, 0), (27, 2, .bipush 11, 0, 0, 0), (29, 1, .iload_n 2, 0, 0, 0), (30, 1, .iadd, 0, 0, 0), (31, 1, .iaload, 0, 0, 0), (32, 1, .iconst 1, 0, 0, 0), (33, 1, .iadd, 0, 0, 0), (34, 1, .aload_n 0, 0, 0, 0), (35, 3, .getfield 7, 9, 0, 0), (38, 1, .iconst 4, 0, 0, 0), (39, 1, .iload_n 3, 0, 0, 0), (40, 1, .iadd, 0, 0, 0), (41, 1, .iaload, 0, 0, 0), (42, 1, .irem, 0, 0, 0), (43, 1, .iastore, 0, 0, 0), (44, 1, .aload_n 0, 0, 0, 0), (45, 1, .aload_n 1, 0, 0, 0), (46, 1, .iload_n 3, 0, 0, 0), (47, 1, .aload_n 1, 0, 0, 0), (48, 2, .bipush 11, 0, 0, 0), (50, 1, .iload_n 2, 0, 0, 0), (51, 1, .iadd, 0, 0, 0), (52, 1, .iaload, 0, 0, 0), (53, 3, .invokevirtual 155, 185, 4, 9), (56, 3, .ifCond .ne 4, 0, 0, 0), (59, 1, .return_, 0, 0, 0), (60, 3, .iinc 4 1, 0, 0, 0), (63, 3, .goto (-53), 0, 0, 0), (66, 1, .return_, 0, 0, 0)]
abbrev m_X12_walks : Nat := 198
def zc_X12_logs : List zE := [(0, 1, .aload_n 0, 0, 0, 0), (1, 2, .bipush 21, 0, 0, 0), (3, 2, .ldc 193, 0, 0, 999999), (5, 1, .aload_n 0, 0, 0, 0), (6, 2, .bipush 21, 0, 0, 0), (8, 1, .iaload, 0, 0, 0), (9, 1, .iconst 1, 0, 0, 0), (10, 1, .iadd, 0, 0, 0), (11, 3, .invokestatic 194, 163, 2, (-1)), (14, 1, .iastore, 0, 0, 0), (15, 1, .aload_n 0, 0, 0, 0), (16, 2, .bipush 23, 0, 0, 0), (18, 1, .iaload, 0, 0, 0), (19, 2, .bipush 20, 0, 0, 0), (21, 3, .if_icmp .ne 39, 0, 0, 0), (24, 1, .iconst 0, 0, 0, 0), (25, 1, .istore_n 2, 0, 0, 0), (26, 1, .iload_n 2, 0, 0, 0), (27, 2, .bipush 19, 0, 0, 0), (29, 3, .if_icmp .ge 23, 0, 0, 0), (32, 1, .aload_n 0, 0, 0, 0), (33, 2, .bipush 24, 0, 0, 0), (35, 1, .iload_n 2, 0, 0, 0), (36, 1, .iadd, 0, 0, 0), (37, 1, .aload_n 0, 0, 0, 0), (38, 2, .bipush 24, 0, 0, 0), (40, 1, .iload_n 2, 0, 0, 0), (41, 1, .iadd, 0, 0, 0), (42, 1, .iconst 1, 0, 0, 0), (43, 1, .iadd, 0, 0, 0), (44, 1, .iaload, 0, 0, 0), (45, 1, .iastore, 0, 0, 0), (46, 3, .iinc 2 1, 0, 0, 0), (49, 3, .goto (-23), 0, 0, 0), (52, 1, .aload_n 0, 0, 0, 0), (53, 2, .bipush 23, 0, 0, 0), (55, 1, .dup2, 0, 0, 0), (56, 1, .iaload, 0, 0, 0), (57, 1, .iconst 1, 0, 0, 0), (58, 1, .isub, 0, 0, 0), (59, 1, .iastore, 0, 0, 0), (60, 1, .aload_n 0, 0, 0, 0), (61, 2, .bipush 24, 0, 0, 0), (63, 1, .aload_n 0, 0, 0, 0), (64, 2, .bipush 23, 0, 0, 0), (66, 1, .iaload, 0, 0, 0), (67, 1, .iadd, 0, 0, 0), (68, 1, .iload_n 1, 0, 0, 0), (69, 1, .iastore, 0, 0, 0), (70, 1, .aload_n 0, 0, 0, 0), (71, 2, .bipush 23, 0, 0, 0), (73, 1, .dup2, 0, 0, 0), (74, 1, .iaload, 0, 0, 0), (75, 1, .iconst 1, 0, 0, 0), (76, 1, .iadd, 0, 0, 0), (77, 1, .iastore, 0, 0, 0), (78, 1, .return_, 0, 0, 0)]
abbrev m_X12_logs : Nat := 199
def zc_X12_isAt : List zE := [(0, 1, .aload_n 1, 0, 0, 0), (1, 2, .bipush 6, 0, 0, 0), (3, 1, .iload_n 2, 0, 0, 0), (4, 1, .iadd, 0, 0, 0), (5, 1, .iaload, 0, 0, 0), (6, 1, .iload_n 3, 0, 0, 0), (7, 3, .if_icmp .ne 18, 0, 0, 0), (10, 1, .aload_n 1, 0, 0, 0), (11, 2, .bipush 11, 0, 0, 0), (13, 1, .iload_n 2, 0, 0, 0), (14, 1, .iadd, 0, 0, 0), (15, 1, .iaload, 0, 0, 0), (16, 2, .iload 4, 0, 0, 0), (18, 3, .if_icmp .ne 7, 0, 0, 0), (21, 1, .iconst 1, 0, 0, 0), (22, 3, .goto 4, 0, 0, 0), (25, 1, .iconst 0, 0, 0, 0), (26, 1, .ireturn, 0, 0, 0)]
abbrev m_X12_isAt : Nat := 200
def zc_X12_meetings : List zE := [(0, 1, .iconst 0, 0, 0, 0), (1, 1, .istore_n 3, 0, 0, 0), (2, 1, .aload_n 0, 0, 0, 0), (3, 1, .iconst 0, 0, 0, 0), (4, 3, .putfield 197, 9, 24, 0), (7, 1, .iconst 0, 0, 0, 0), (8, 2, .istore 4, 0, 0, 0), (10, 2, .iload 4, 0, 0, 0), (12, 1, .aload_n 0, 0, 0, 0), (13, 3, .getfield 7, 9, 0, 0), (16, 1, .iconst 3, 0, 0, 0), (17, 1, .iaload, 0, 0, 0), (18, 3, .if_icmp .ge 174, 0, 0, 0), (21, 1, .iconst 0, 0, 0, 0), (22, 2, .istore 5, 0, 0, 0), (24, 2, .iload 5, 0, 0, 0), (26, 1, .aload_n 0, 0, 0, 0), (27, 3, .getfield 7, 9, 0, 0), (30, 1, .iconst 2, 0, 0, 0), (31, 1, .iaload, 0, 0, 0), (32, 3, .if_icmp .ge 154, 0, 0, 0), (35, 1, .iconst 0, 0, 0, 0), (36, 2, .istore 6, 0, 0, 0), (38, 2, .iload 6, 0, 0, 0), (40, 1, .aload_n 0, 0, 0, 0), (41, 3, .getfield 7, 9, 0, 0), (44, 1, .iconst 2, 0, 0, 0), (45, 1, .iaload, 0, 0, 0), (46, 3, .if_icmp .ge 134, 0, 0, 0), (49, 1, .aload_n 0, 0, 0, 0), (50, 1, .aload_n 1, 0, 0, 0), (51, 2, .iload 5, 0, 0, 0), (53, 1, .aload_n 0, 0, 0, 0), (54, 3, .getfield 7, 9, 0, 0), (57, 3, .sipush 175, 0, 0, 0), (60, 2, .iload 4, 0, 0, 0), (62, 1, .iadd, 0, 0, 0), (63, 1, .iaload, 0, 0, 0), (64, 1, .aload_n 0, 0, 0, 0), (65, 3, .getfield 7, 9, 0, 0), (68, 3, .sipush 181, 0, 0, 0), (71, 2, .iload 4, 0, 0, 0), (73, 1, .iadd, 0, 0, 0), (74, 1, .iaload, 0, 0, 0), (75, 3, .invokevirtual 201, 200, 5, 9), (78, 3, .ifCond .eq 96, 0, 0, 0), (81, 1, .aload_n 0, 0, 0, 0), (82, 1, .aload_n 1, 0, 0, 0), (83, 2, .iload 6, 0, 0, 0), (85, 1, .aload_n 0, 0, 0, 0), (86, 3, .getfield 7, 9, 0, 0), (89, 3, .sipush 187, 0, 0, 0), (92, 2, .iload 4, 0, 0, 0), (94, 1, .iadd, 0, 0, 0), (95, 1, .iaload, 0, 0, 0), (96, 1, .aload_n 0, 0, 0, 0), (97, 3, .getfield 7, 9, 0, 0), (100, 3, .sipush 193, 0, 0, 0), (103, 2, .iload 4, 0, 0, 0), (105, 1, .iadd, 0, 0, 0), (106, 1, .iaload, 0, 0, 0), (107, 3, .invokevirtual 201, 200, 5, 9), (110, 3, .ifCond .eq 64, 0, 0, 0), (113, 1, .aload_n 1, 0, 0, 0), (114, 2, .bipush 100, 0, 0, 0), (116, 2, .iload 4, 0, 0, 0), (118, 1, .imul, 0, 0, 0), (119, 2, .bipush 10, 0, 0, 0), (121, 2, .iload 5, 0, 0, 0), (123, 1, .imul, 0, 0, 0), (124, 1, .iadd, 0, 0, 0), (125, 2, .iload 6, 0, 0, 0), (127, 1, .iadd, 0, 0, 0), (128, 3, .invokestatic 205, 199, 2, (-1)), (131, 3, .iinc 3 1, 0, 0, 0), (134, 1, .aload_n 0, 0, 0, 0), (135, 1, .aload_n 0, 0, 0, 0), (136, 3, .getfield 197, 9, 24, 0), (139, 3, .ifCond .ne 27, 0, 0, 0), (142, 2, .bipush 10, 0, 0, 0), (144, 2, .iload 5, 0, 0, 0), (146, 1, .imul, 0, 0, 0), (147, 2, .iload 6, 0, 0, 0), (149, 1, .iadd, 0, 0, 0), (150, 1, .iload_n 2, 0, 0, 0), (151, 3, .if_icmp .eq 15, 0, 0, 0), (154, 2, .bipush 10, 0, 0, 0), (156, 2, .iload 6, 0, 0, 0), (158, 1, .imul, 0, 0, 0), (159, 2, .iload 5, 0, 0, 0), (161, 1, .iadd, 0, 0, 0), (162, 1, .iload_n 2, 0, 0, 0), (163, 3, .if_icmp .ne 7, 0, 0, 0), (166, 1, .iconst 1, 0, 0, 0), (167, 3, .goto 4, 0, 0, 0), (170, 1, .iconst 0, 0, 0, 0), (171, 3, .putfield 197, 9, 24, 0), (174, 3, .iinc 6 1, 0, 0, 0), (177, 3, .goto (-139), 0, 0, 0), (180, 3, .iinc 5 1, 0, 0, 0), (183, 3, .goto (-159), 0, 0, 0), (186, 3, .iinc 4 1, 0, 0, 0), (189, 3, .goto (-179), 0, 0, 0), (192, 1, .iload_n 3, 0, 0, 0), (193, 1, .ireturn, 0, 0, 0)]
abbrev m_X12_meetings : Nat := 201
def zc_X12_hourGoes : List zE := [(0, 1, .iconst 0, 0, 0, 0), (1, 1, .istore_n 3, 0, 0, 0), (2, 1, .iload_n 3, 0, 0, 0), (3, 1, .aload_n 0, 0, 0, 0), (4, 3, .getfield 7, 9, 0, 0), (7, 1, .iconst 2, 0, 0, 0), (8, 1, .iaload, 0, 0, 0), (9, 3, .if_icmp .ge 15, 0, 0, 0), (12, 1, .aload_n 0, 0, 0, 0), (13, 1, .aload_n 1, 0, 0, 0), (14, 1, .iload_n 3, 0, 0, 0), (15, 3, .invokevirtual 209, 198, 3, 9), (18, 3, .iinc 3 1, 0, 0, 0), (21, 3, .goto (-19), 0, 0, 0), (24, 1, .aload_n 0, 0, 0, 0), (25, 1, .aload_n 1, 0, 0, 0), (26, 1, .iload_n 2, 0, 0, 0), (27, 3, .invokevirtual 212, 201, 3, 9), (30, 1, .istore_n 3, 0, 0, 0), (31, 1, .aload_n 1, 0, 0, 0), (32, 2, .bipush 22, 0, 0, 0), (34, 1, .dup2, 0, 0, 0), (35, 1, .iaload, 0, 0, 0), (36, 1, .iconst 1, 0, 0, 0), (37, 1, .iadd, 0, 0, 0), (38, 1, .iastore, 0, 0, 0), (39, 1, .aload_n 0, 0, 0, 0), (40, 3, .getfield 7, 9, 0, 0), (43, 1, .iconst 0, 0, 0, 0), (44, 1, .iaload, 0, 0, 0), (45, 3, .ifCond .eq 82, 0, 0, 0), (48, 1, .aload_n 1, 0, 0, 0), (49, 2, .bipush 22, 0, 0, 0), (51, 1, .iaload, 0, 0, 0), (52, 1, .aload_n 0, 0, 0, 0), (53, 3, .getfield 7, 9, 0, 0), (56, 1, .iconst 0, 0, 0, 0), (57, 1, .iaload, 0, 0, 0), (58, 1, .irem, 0, 0, 0), (59, 3, .ifCond .ne 68, 0, 0, 0), (62, 1, .aload_n 0, 0, 0, 0), (63, 3, .getfield 7, 9, 0, 0), (66, 1, .iconst 1, 0, 0, 0), (67, 1, .iaload, 0, 0, 0), (68, 3, .ifCond .le 59, 0, 0, 0), (71, 1, .aload_n 1, 0, 0, 0), (72, 2, .bipush 22, 0, 0, 0), (74, 1, .iaload, 0, 0, 0), (75, 1, .aload_n 0, 0, 0, 0), (76, 3, .getfield 7, 9, 0, 0), (79, 1, .iconst 0, 0, 0, 0), (80, 1, .iaload, 0, 0, 0), (81, 1, .idiv, 0, 0, 0), (82, 1, .iconst 1, 0, 0, 0), (83, 1, .isub, 0, 0, 0), (84, 2, .istore 4, 0, 0, 0), (86, 2, .iload 4, 0, 0, 0), (88, 1, .aload_n 0, 0, 0, 0), (89, 3, .getfield 7, 9, 0, 0), (92, 1, .iconst 1, 0, 0, 0), (93, 1, .iaload, 0, 0, 0), (94, 1, .irem, 0, 0, 0), (95, 2, .istore 5, 0, 0, 0), (97, 1, .aload_n 1, 0, 0, 0), (98, 1, .iconst 0, 0, 0, 0), (99, 2, .iload 5, 0, 0, 0), (101, 1, .iadd, 0, 0, 0), (102, 1, .dup2, 0, 0, 0), (103, 1, .iaload, 0, 0, 0), (104, 1, .iconst 1, 0, 0, 0), (105, 2, .iload 4, 0, 0, 0), (107, 1, .aload_n 0, 0, 0, 0), (108, 3, .getfield 7, 9, 0, 0), (111, 1, .iconst 1, 0, 0, 0), (112, 1, .iaload, 0, 0, 0), (113, 1, .idiv, 0, 0, 0), (114, 1, .aload_n 0, 0, 0, 0), (115, 3, .getfield 7, 9, 0, 0), (118, 1, .iconst 4, 0, 0, 0), (119, 2, .iload 5, 0, 0, 0), (121, 1, .iadd, 0, 0, 0), (122, 1, .iaload, 0, 0, 0), (123, 1, .irem, 0, 0, 0), (124, 1, .ishl, 0, 0, 0), (125, 1, .ior, 0, 0, 0), (126, 1, .iastore, 0, 0, 0), (127, 1, .iload_n 3, 0, 0, 0), (128, 1, .ireturn, 0, 0, 0)]
abbrev m_X12_hourGoes : Nat := 202
def zc_X12_remember : List zE := [(0, 1, .aload_n 0, 0, 0, 0), (1, 3, .getfield 58, 9, 5, 0), (4, 2, .bipush 30, 0, 0, 0), (6, 3, .if_icmp .ne 43, 0, 0, 0), (9, 1, .iconst 0, 0, 0, 0), (10, 1, .istore_n 1, 0, 0, 0), (11, 1, .iload_n 1, 0, 0, 0), (12, 3, .sipush 1276, 0, 0, 0), (15, 3, .if_icmp .ge 24, 0, 0, 0), (18, 1, .aload_n 0, 0, 0, 0), (19, 3, .getfield 22, 9, 4, 0), (22, 1, .iload_n 1, 0, 0, 0), (23, 1, .aload_n 0, 0, 0, 0), (24, 3, .getfield 22, 9, 4, 0), (27, 1, .iload_n 1, 0, 0, 0), (28, 2, .bipush 44, 0, 0, 0), (30, 1, .iadd, 0, 0, 0), (31, 1, .iaload, 0, 0, 0), (32, 1, .iastore, 0, 0, 0), (33, 3, .iinc 1 1, 0, 0, 0), (36, 3, .goto (-25), 0, 0, 0), (39, 1, .aload_n 0, 0, 0, 0), (40, 1, .dup, 0, 0, 0), (41, 3, .getfield 58, 9, 5, 0), (44, 1, .iconst 1, 0, 0, 0), (45, 1, .isub, 0, 0, 0), (46, 3, .putfield 58, 9, 5, 0), (49, 1, .aload_n 0, 0, 0, 0), (50, 3, .getfield 16, 9, 2, 0), (53, 1, .iconst 0, 0, 0, 0), (54, 1, .aload_n 0, 0, 0, 0), (55, 3, .getfield 22, 9, 4, 0), (58, 2, .bipush 44, 0, 0, 0), (60, 1, .aload_n 0, 0, 0, 0), (61, 3, .getfield 58, 9, 5, 0), (64, 1, .imul, 0, 0, 0), (65, 2, .bipush 44, 0, 0, 0), (67, 3, .invokestatic 54, 164, 5, (-1)), (70, 1, .aload_n 0, 0, 0, 0), (71, 1, .dup, 0, 0, 0), (72, 3, .getfield 58, 9, 5, 0), (75, 1, .iconst 1, 0, 0, 0), (76, 1, .iadd, 0, 0, 0), (77, 3, .putfield 58, 9, 5, 0), (80, 1, .return_, 0, 0, 0)]
abbrev m_X12_remember : Nat := 203
def zc_X12_refuses : List zE := [(0, 1, .iload_n 1, 0, 0, 0), (1, 1, .i2l, 0, 0, 0), (2, 1, .lconst 1, 0, 0, 0), (3, 3, .ldc2_w 216, 0, 0, 30), (6, 3, .invokestatic 69, 160, 3, (-1)), (9, 3, .ifCond .ne 6, 0, 0, 0), (12, 2, .ldc 73, 0, 0, (-1000000002)), (14, 1, .ireturn, 0, 0, 0), (15, 1, .aload_n 0, 0, 0, 0), (16, 3, .getfield 7, 9, 0, 0), (19, 3, .sipush 199, 0, 0, 0), (22, 1, .iaload, 0, 0, 0), (23, 3, .ifCond .ne 8, 0, 0, 0), (26, 2, .ldc 218, 0, 0, (-1000000003)), (28, 3, .goto 21, 0, 0, 0), (31, 1, .aload_n 0, 0, 0, 0), (32, 3, .getfield 16, 9, 2, 0), (35, 2, .bipush 22, 0, 0, 0), (37, 1, .iaload, 0, 0, 0), (38, 2, .ldc 219, 0, 0, 90000), (40, 3, .if_icmp .le 8, 0, 0, 0), (43, 2, .ldc 77, 0, 0, (-1000000004)), (45, 3, .goto 4, 0, 0, 0), (48, 1, .iconst 0, 0, 0, 0), (49, 1, .ireturn, 0, 0, 0)]
abbrev m_X12_refuses : Nat := 204
def zc_X12_hour : List zE := [(0, 1, .aload_n 0, 0, 0, 0), (1, 1, .iload_n 1, 0, 0, 0), (2, 3, .invokevirtual 220, 204, 2, 9), (5, 1, .istore_n 2, 0, 0, 0), (6, 1, .iload_n 2, 0, 0, 0), (7, 3, .ifCond .eq 5, 0, 0, 0), (10, 1, .iload_n 2, 0, 0, 0), (11, 1, .ireturn, 0, 0, 0), (12, 1, .iconst 0, 0, 0, 0), (13, 1, .istore_n 3, 0, 0, 0), (14, 1, .iload_n 3, 0, 0, 0), (15, 1, .iload_n 1, 0, 0, 0), (16, 3, .if_icmp .ge 24, 0, 0, 0), (19, 1, .aload_n 0, 0, 0, 0), (20, 3, .invokevirtual 223, 203, 1, 9), (23, 1, .aload_n 0, 0, 0, 0), (24, 1, .aload_n 0, 0, 0, 0), (25, 3, .getfield 16, 9, 2, 0), (28, 1, .iconst (-1), 0, 0, 0), (29, 3, .invokevirtual 226, 202, 3, 9), (32, 2, .istore 4, 0, 0, 0), (34, 3, .iinc 3 1, 0, 0, 0), (37, 3, .goto (-23), 0, 0, 0), (40, 1, .aload_n 0, 0, 0, 0), (41, 3, .getfield 16, 9, 2, 0), (44, 2, .bipush 21, 0, 0, 0), (46, 1, .iaload, 0, 0, 0), (47, 1, .ireturn, 0, 0, 0)]
abbrev m_X12_hour : Nat := 205
def zc_X12_lift : List zE := [(0, 1, .aload_n 0, 0, 0, 0), (1, 1, .iload_n 1, 0, 0, 0), (2, 1, .iload_n 2, 0, 0, 0), (3, 3, .invokevirtual 183, 181, 3, 9), (6, 3, .ifCond .ne 6, 0, 0, 0), (9, 2, .ldc 176, 0, 0, (-1000000001)), (11, 1, .ireturn, 0, 0, 0), (12, 1, .aload_n 0, 0, 0, 0), (13, 3, .getfield 16, 9, 2, 0), (16, 1, .iconst 0, 0, 0, 0), (17, 1, .iload_n 1, 0, 0, 0), (18, 1, .iadd, 0, 0, 0), (19, 1, .iaload, 0, 0, 0), (20, 1, .iload_n 2, 0, 0, 0), (21, 3, .invokestatic 147, 161, 2, (-1)), (24, 3, .ifCond .eq 6, 0, 0, 0), (27, 2, .ldc 218, 0, 0, (-1000000003)), (29, 1, .ireturn, 0, 0, 0), (30, 1, .aload_n 0, 0, 0, 0), (31, 3, .invokevirtual 223, 203, 1, 9), (34, 1, .aload_n 0, 0, 0, 0), (35, 3, .getfield 16, 9, 2, 0), (38, 1, .iconst 0, 0, 0, 0), (39, 1, .iload_n 1, 0, 0, 0), (40, 1, .iadd, 0, 0, 0), (41, 1, .dup2, 0, 0, 0), (42, 1, .iaload, 0, 0, 0), (43, 1, .iconst 1, 0, 0, 0), (44, 1, .iload_n 2, 0, 0, 0), (45, 1, .ishl, 0, 0, 0), (46, 1, .ior, 0, 0, 0), (47, 1, .iastore, 0, 0, 0), (48, 1, .aload_n 0, 0, 0, 0), (49, 1, .iload_n 1, 0, 0, 0), (50, 1, .iload_n 2, 0, 0, 0), (51, 3, .invokevirtual 159, 186, 3, 9), (54, 1, .ireturn, 0, 0, 0)]
abbrev m_X12_lift : Nat := 206
def zc_X12_paste : List zE := [(0, 1, .aload_n 0, 0, 0, 0), (1, 1, .iload_n 1, 0, 0, 0), (2, 1, .iload_n 2, 0, 0, 0), (3, 3, .invokevirtual 183, 181, 3, 9), (6, 3, .ifCond .ne 6, 0, 0, 0), (9, 2, .ldc 176, 0, 0, (-1000000001)), (11, 1, .ireturn, 0, 0, 0), (12, 1, .aload_n 0, 0, 0, 0), (13, 3, .getfield 16, 9, 2, 0), (16, 1, .iconst 0, 0, 0, 0), (17, 1, .iload_n 1, 0, 0, 0), (18, 1, .iadd, 0, 0, 0), (19, 1, .iaload, 0, 0, 0), (20, 1, .iload_n 2, 0, 0, 0), (21, 3, .invokestatic 147, 161, 2, (-1)), (24, 3, .ifCond .ne 6, 0, 0, 0), (27, 2, .ldc 218, 0, 0, (-1000000003)), (29, 1, .ireturn, 0, 0, 0), (30, 1, .aload_n 0, 0, 0, 0), (31, 3, .invokevirtual 223, 203, 1, 9), (34, 1, .aload_n 0, 0, 0, 0), (35, 3, .getfield 16, 9, 2, 0), (38, 1, .iconst 0, 0, 0, 0), (39, 1, .iload_n 1, 0, 0, 0), (40, 1, .iadd, 0, 0, 0), (41, 1, .dup2, 0, 0, 0), (42, 1, .iaload, 0, 0, 0), (43, 1, .iconst 1, 0, 0, 0), (44, 1, .iload_n 2, 0, 0, 0), (45, 1, .ishl, 0, 0, 0), (46, 1, .iconst (-1), 0, 0, 0), (47, 1, .ixor, 0, 0, 0), (48, 1, .iand, 0, 0, 0), (49, 1, .iastore, 0, 0, 0), (50, 1, .aload_n 0, 0, 0, 0), (51, 1, .iload_n 1, 0, 0, 0), (52, 1, .iload_n 2, 0, 0, 0), (53, 3, .invokevirtual 159, 186, 3, 9), (56, 1, .ireturn, 0, 0, 0)]
abbrev m_X12_paste : Nat := 207
def zc_X12_moveTo : List zE := [(0, 1, .aload_n 0, 0, 0, 0), (1, 1, .iload_n 1, 0, 0, 0), (2, 3, .invokevirtual 188, 182, 2, 9), (5, 3, .ifCond .eq 11, 0, 0, 0), (8, 1, .aload_n 0, 0, 0, 0), (9, 1, .iload_n 2, 0, 0, 0), (10, 3, .invokevirtual 144, 180, 2, 9), (13, 3, .ifCond .ne 6, 0, 0, 0), (16, 2, .ldc 176, 0, 0, (-1000000001)), (18, 1, .ireturn, 0, 0, 0), (19, 1, .aload_n 0, 0, 0, 0), (20, 1, .aload_n 0, 0, 0, 0), (21, 3, .getfield 16, 9, 2, 0), (24, 2, .bipush 6, 0, 0, 0), (26, 1, .iload_n 1, 0, 0, 0), (27, 1, .iadd, 0, 0, 0), (28, 1, .iaload, 0, 0, 0), (29, 1, .aload_n 0, 0, 0, 0), (30, 3, .getfield 16, 9, 2, 0), (33, 2, .bipush 11, 0, 0, 0), (35, 1, .iload_n 1, 0, 0, 0), (36, 1, .iadd, 0, 0, 0), (37, 1, .iaload, 0, 0, 0), (38, 3, .invokevirtual 159, 186, 3, 9), (41, 1, .istore_n 3, 0, 0, 0), (42, 1, .iconst 0, 0, 0, 0), (43, 2, .istore 4, 0, 0, 0), (45, 2, .iload 4, 0, 0, 0), (47, 1, .aload_n 0, 0, 0, 0), (48, 3, .getfield 7, 9, 0, 0), (51, 1, .iconst 4, 0, 0, 0), (52, 1, .iload_n 2, 0, 0, 0), (53, 1, .iadd, 0, 0, 0), (54, 1, .iaload, 0, 0, 0), (55, 3, .if_icmp .ge 61, 0, 0, 0), (58, 1, .aload_n 0, 0, 0, 0), (59, 3, .getfield 16, 9, 2, 0), (62, 2, .bipush 6, 0, 0, 0), (64, 1, .iload_n 1, 0, 0, 0), (65, 1, .iadd, 0, 0, 0), (66, 1, .iaload, 0, 0, 0), (67, 1, .iload_n 2, 0, 0, 0), (68, 3, .if_icmp .eq 48, 0, 0, 0), (71, 1, .aload_n 0, 0, 0, 0), (72, 1, .iload_n 2, 0, 0, 0), (73, 2, .iload 4, 0, 0, 0), (75, 3, .invokevirtual 159, 186, 3, 9), (78, 1, .iload_n 3, 0, 0, 0), (79, 3, .if_icmp .ne 31, 0, 0, 0), (82, 1, .aload_n 0, 0, 0, 0), (83, 3, .invokevirtual 223, 203, 1, 9), (86, 1, .aload_n 0, 0, 0, 0), (87, 3, .getfield 16, 9, 2, 0), (90, 2, .bipush 6, 0, 0, 0), (92, 1, .iload_n 1, 0, 0, 0), (93, 1, .iadd, 0, 0, 0), (94, 1, .iload_n 2, 0, 0, 0), (95, 1, .iastore, 0, 0, 0), (96, 1, .aload_n 0, 0, 0, 0), (97, 3, .getfield 16, 9, 2, 0), (100, 2, .bipush 11, 0, 0, 0), (102, 1, .iload_n 1, 0, 0, 0), (103, 1, .iadd, 0, 0, 0), (104, 2, .iload 4, 0, 0, 0), (106, 1, .iastore, 0, 0, 0), (107, 2, .iload 4, 0, 0, 0), (109, 1, .ireturn, 0, 0, 0), (110, 3, .iinc 4 1, 0, 0, 0), (113, 3, .goto (-68), 0, 0, 0), (116, 2, .ldc 218, 0, 0, (-1000000003)), (118, 1, .ireturn, 0, 0, 0)]
abbrev m_X12_moveTo : Nat := 208
def zc_X12_pace : List zE := [(0, 1, .aload_n 0, 0, 0, 0), (1, 1, .iload_n 1, 0, 0, 0), (2, 3, .invokevirtual 188, 182, 2, 9), (5, 3, .ifCond .ne 6, 0, 0, 0), (8, 2, .ldc 176, 0, 0, (-1000000001)), (10, 1, .ireturn, 0, 0, 0), (11, 1, .iload_n 2, 0, 0, 0), (12, 1, .i2l, 0, 0, 0), (13, 1, .lconst 0, 0, 0, 0), (14, 3, .ldc2_w 229, 0, 0, 9), (17, 3, .invokestatic 69, 160, 3, (-1)), (20, 3, .ifCond .ne 6, 0, 0, 0), (23, 2, .ldc 73, 0, 0, (-1000000002)), (25, 1, .ireturn, 0, 0, 0), (26, 1, .aload_n 0, 0, 0, 0), (27, 3, .invokevirtual 223, 203, 1, 9), (30, 1, .aload_n 0, 0, 0, 0), (31, 3, .getfield 16, 9, 2, 0), (34, 2, .bipush 16, 0, 0, 0), (36, 1, .iload_n 1, 0, 0, 0), (37, 1, .iadd, 0, 0, 0), (38, 1, .iaload, 0, 0, 0), (39, 1, .istore_n 3, 0, 0, 0), (40, 1, .aload_n 0, 0, 0, 0), (41, 3, .getfield 16, 9, 2, 0), (44, 2, .bipush 16, 0, 0, 0), (46, 1, .iload_n 1, 0, 0, 0), (47, 1, .iadd, 0, 0, 0), (48, 1, .iload_n 2, 0, 0, 0), (49, 1, .iastore, 0, 0, 0), (50, 1, .iload_n 3, 0, 0, 0), (51, 1, .ireturn, 0, 0, 0)]
abbrev m_X12_pace : Nat := 209
def zc_X12_draw : List zE := [(0, 1, .aload_n 0, 0, 0, 0), (1, 1, .aload_n 0, 0, 0, 0), (2, 3, .getfield 231, 9, 8, 0), (5, 3, .ldc2_w 235, 0, 0, 1103515245), (8, 1, .lmul, 0, 0, 0), (9, 3, .ldc2_w 237, 0, 0, 12345), (12, 1, .ladd, 0, 0, 0), (13, 3, .ldc2_w 239, 0, 0, 2147483648), (16, 1, .lrem, 0, 0, 0), (17, 3, .putfield 231, 9, 8, 0), (20, 1, .aload_n 0, 0, 0, 0), (21, 3, .getfield 231, 9, 8, 0), (24, 3, .ldc2_w 241, 0, 0, 65536), (27, 1, .ldiv, 0, 0, 0), (28, 1, .iload_n 1, 0, 0, 0), (29, 1, .i2l, 0, 0, 0), (30, 1, .lrem, 0, 0, 0), (31, 1, .l2i, 0, 0, 0), (32, 1, .ireturn, 0, 0, 0)]
abbrev m_X12_draw : Nat := 210
def zc_X12_draws : List zE := [(0, 1, .aload_n 0, 0, 0, 0), (1, 1, .iconst 4, 0, 0, 0), (2, 3, .invokevirtual 243, 210, 2, 9), (5, 1, .istore_n 1, 0, 0, 0), (6, 1, .iload_n 1, 0, 0, 0), (7, 3, .ifCond .ne 42, 0, 0, 0), (10, 1, .aload_n 0, 0, 0, 0), (11, 1, .aload_n 0, 0, 0, 0), (12, 3, .getfield 7, 9, 0, 0), (15, 1, .iconst 1, 0, 0, 0), (16, 1, .iaload, 0, 0, 0), (17, 3, .invokevirtual 243, 210, 2, 9), (20, 1, .istore_n 2, 0, 0, 0), (21, 1, .aload_n 0, 0, 0, 0), (22, 3, .getfield 16, 9, 2, 0), (25, 1, .iconst 0, 0, 0, 0), (26, 1, .iload_n 2, 0, 0, 0), (27, 1, .iadd, 0, 0, 0), (28, 1, .dup2, 0, 0, 0), (29, 1, .iaload, 0, 0, 0), (30, 1, .iconst 1, 0, 0, 0), (31, 1, .aload_n 0, 0, 0, 0), (32, 1, .aload_n 0, 0, 0, 0), (33, 3, .getfield 7, 9, 0, 0), (36, 1, .iconst 4, 0, 0, 0), (37, 1, .iload_n 2, 0, 0, 0), (38, 1, .iadd, 0, 0, 0), (39, 1, .iaload, 0, 0, 0), (40, 3, .invokevirtual 243, 210, 2, 9), (43, 1, .ishl, 0, 0, 0), (44, 1, .ixor, 0, 0, 0), (45, 1, .iastore, 0, 0, 0), (46, 3, .goto 43, 0, 0, 0), (49, 1, .iload_n 1, 0, 0, 0), (50, 1, .iconst 1, 0, 0, 0), (51, 3, .if_icmp .ne 38, 0, 0, 0), (54, 1, .aload_n 0, 0, 0, 0), (55, 3, .getfield 7, 9, 0, 0), (58, 1, .iconst 2, 0, 0, 0), (59, 1, .iaload, 0, 0, 0), (60, 3, .ifCond .le 29, 0, 0, 0), (63, 1, .aload_n 0, 0, 0, 0), (64, 1, .aload_n 0, 0, 0, 0), (65, 3, .getfield 7, 9, 0, 0), (68, 1, .iconst 2, 0, 0, 0), (69, 1, .iaload, 0, 0, 0), (70, 3, .invokevirtual 243, 210, 2, 9), (73, 1, .istore_n 2, 0, 0, 0), (74, 1, .aload_n 0, 0, 0, 0), (75, 3, .getfield 16, 9, 2, 0), (78, 2, .bipush 16, 0, 0, 0), (80, 1, .iload_n 2, 0, 0, 0), (81, 1, .iadd, 0, 0, 0), (82, 1, .aload_n 0, 0, 0, 0), (83, 2, .bipush 10, 0, 0, 0), (85, 3, .invokevirtual 243, 210, 2, 9), (88, 1, .iastore, 0, 0, 0), (89, 1, .return_, 0, 0, 0)]
abbrev m_X12_draws : Nat := 211
def zc_X12_drift : List zE := [(0, 1, .aload_n 0, 0, 0, 0), (1, 1, .iload_n 1, 0, 0, 0), (2, 3, .invokevirtual 220, 204, 2, 9), (5, 1, .istore_n 2, 0, 0, 0), (6, 1, .iload_n 2, 0, 0, 0), (7, 3, .ifCond .eq 5, 0, 0, 0), (10, 1, .iload_n 2, 0, 0, 0), (11, 1, .ireturn, 0, 0, 0), (12, 1, .iconst 0, 0, 0, 0), (13, 1, .istore_n 3, 0, 0, 0), (14, 1, .iload_n 3, 0, 0, 0), (15, 1, .iload_n 1, 0, 0, 0), (16, 3, .if_icmp .ge 37, 0, 0, 0), (19, 1, .aload_n 0, 0, 0, 0), (20, 3, .invokevirtual 223, 203, 1, 9), (23, 1, .aload_n 0, 0, 0, 0), (24, 3, .getfield 7, 9, 0, 0), (27, 1, .iconst 1, 0, 0, 0), (28, 1, .iaload, 0, 0, 0), (29, 3, .ifCond .le 7, 0, 0, 0), (32, 1, .aload_n 0, 0, 0, 0), (33, 3, .invokevirtual 246, 211, 1, 9), (36, 1, .aload_n 0, 0, 0, 0), (37, 1, .aload_n 0, 0, 0, 0), (38, 3, .getfield 16, 9, 2, 0), (41, 1, .iconst (-1), 0, 0, 0), (42, 3, .invokevirtual 226, 202, 3, 9), (45, 2, .istore 4, 0, 0, 0), (47, 3, .iinc 3 1, 0, 0, 0), (50, 3, .goto (-36), 0, 0, 0), (53, 1, .aload_n 0, 0, 0, 0), (54, 3, .getfield 16, 9, 2, 0), (57, 2, .bipush 21, 0, 0, 0), (59, 1, .iaload, 0, 0, 0), (60, 1, .ireturn, 0, 0, 0)]
abbrev m_X12_drift : Nat := 212
def zc_X12_undo : List zE := [(0, 1, .iload_n 1, 0, 0, 0), (1, 1, .i2l, 0, 0, 0), (2, 1, .lconst 1, 0, 0, 0), (3, 3, .ldc2_w 216, 0, 0, 30), (6, 3, .invokestatic 69, 160, 3, (-1)), (9, 3, .ifCond .ne 6, 0, 0, 0), (12, 2, .ldc 73, 0, 0, (-1000000002)), (14, 1, .ireturn, 0, 0, 0), (15, 1, .iload_n 1, 0, 0, 0), (16, 1, .aload_n 0, 0, 0, 0), (17, 3, .getfield 58, 9, 5, 0), (20, 3, .if_icmp .le 6, 0, 0, 0), (23, 2, .ldc 218, 0, 0, (-1000000003)), (25, 1, .ireturn, 0, 0, 0), (26, 1, .aload_n 0, 0, 0, 0), (27, 1, .dup, 0, 0, 0), (28, 3, .getfield 58, 9, 5, 0), (31, 1, .iload_n 1, 0, 0, 0), (32, 1, .isub, 0, 0, 0), (33, 3, .putfield 58, 9, 5, 0), (36, 1, .aload_n 0, 0, 0, 0), (37, 3, .getfield 22, 9, 4, 0), (40, 2, .bipush 44, 0, 0, 0), (42, 1, .aload_n 0, 0, 0, 0), (43, 3, .getfield 58, 9, 5, 0), (46, 1, .imul, 0, 0, 0), (47, 1, .aload_n 0, 0, 0, 0), (48, 3, .getfield 16, 9, 2, 0), (51, 1, .iconst 0, 0, 0, 0), (52, 2, .bipush 44, 0, 0, 0), (54, 3, .invokestatic 54, 164, 5, (-1)), (57, 1, .aload_n 0, 0, 0, 0), (58, 3, .getfield 16, 9, 2, 0), (61, 2, .bipush 22, 0, 0, 0), (63, 1, .iaload, 0, 0, 0), (64, 1, .ireturn, 0, 0, 0)]
abbrev m_X12_undo : Nat := 213
def zc_X12_layAside : List zE := [(0, 1, .aload_n 0, 0, 0, 0), (1, 3, .getfield 16, 9, 2, 0), (4, 1, .iconst 0, 0, 0, 0), (5, 1, .aload_n 0, 0, 0, 0), (6, 3, .getfield 19, 9, 3, 0), (9, 1, .iconst 0, 0, 0, 0), (10, 2, .bipush 44, 0, 0, 0), (12, 3, .invokestatic 54, 164, 5, (-1)), (15, 1, .return_, 0, 0, 0)]
abbrev m_X12_layAside : Nat := 214
def zc_X12_where : List zE := [(0, 1, .aload_n 0, 0, 0, 0), (1, 1, .iload_n 1, 0, 0, 0), (2, 3, .invokevirtual 188, 182, 2, 9), (5, 3, .ifCond .ne 6, 0, 0, 0), (8, 2, .ldc 176, 0, 0, (-1000000001)), (10, 1, .ireturn, 0, 0, 0), (11, 1, .iload_n 2, 0, 0, 0), (12, 1, .i2l, 0, 0, 0), (13, 1, .lconst 0, 0, 0, 0), (14, 3, .ldc2_w 249, 0, 0, 99), (17, 3, .invokestatic 69, 160, 3, (-1)), (20, 3, .ifCond .ne 6, 0, 0, 0), (23, 2, .ldc 73, 0, 0, (-1000000002)), (25, 1, .ireturn, 0, 0, 0), (26, 1, .aload_n 0, 0, 0, 0), (27, 3, .invokevirtual 251, 214, 1, 9), (30, 1, .iconst 0, 0, 0, 0), (31, 1, .istore_n 3, 0, 0, 0), (32, 1, .iload_n 3, 0, 0, 0), (33, 1, .iload_n 2, 0, 0, 0), (34, 3, .if_icmp .ge 20, 0, 0, 0), (37, 1, .aload_n 0, 0, 0, 0), (38, 1, .aload_n 0, 0, 0, 0), (39, 3, .getfield 19, 9, 3, 0), (42, 1, .iconst (-1), 0, 0, 0), (43, 3, .invokevirtual 226, 202, 3, 9), (46, 2, .istore 4, 0, 0, 0), (48, 3, .iinc 3 1, 0, 0, 0), (51, 3, .goto (-19), 0, 0, 0), (54, 1, .aload_n 0, 0, 0, 0), (55, 3, .getfield 19, 9, 3, 0), (58, 2, .bipush 11, 0, 0, 0), (60, 1, .iload_n 1, 0, 0, 0), (61, 1, .iadd, 0, 0, 0), (62, 1, .iaload, 0, 0, 0), (63, 1, .ireturn, 0, 0, 0)]
abbrev m_X12_where : Nat := 215
def zc_X12_meets : List zE := [(0, 1, .iload_n 1, 0, 0, 0), (1, 1, .i2l, 0, 0, 0), (2, 1, .lconst 0, 0, 0, 0), (3, 3, .ldc2_w 249, 0, 0, 99), (6, 3, .invokestatic 69, 160, 3, (-1)), (9, 3, .ifCond .ne 6, 0, 0, 0), (12, 2, .ldc 73, 0, 0, (-1000000002)), (14, 1, .ireturn, 0, 0, 0), (15, 1, .aload_n 0, 0, 0, 0), (16, 3, .invokevirtual 251, 214, 1, 9), (19, 1, .iconst 0, 0, 0, 0), (20, 1, .istore_n 2, 0, 0, 0), (21, 1, .iconst 0, 0, 0, 0), (22, 1, .istore_n 3, 0, 0, 0), (23, 1, .iload_n 3, 0, 0, 0), (24, 1, .iload_n 1, 0, 0, 0), (25, 3, .if_icmp .ge 21, 0, 0, 0), (28, 1, .iload_n 2, 0, 0, 0), (29, 1, .aload_n 0, 0, 0, 0), (30, 1, .aload_n 0, 0, 0, 0), (31, 3, .getfield 19, 9, 3, 0), (34, 1, .iconst (-1), 0, 0, 0), (35, 3, .invokevirtual 226, 202, 3, 9), (38, 1, .iadd, 0, 0, 0), (39, 1, .istore_n 2, 0, 0, 0), (40, 3, .iinc 3 1, 0, 0, 0), (43, 3, .goto (-20), 0, 0, 0), (46, 1, .iload_n 2, 0, 0, 0), (47, 1, .ireturn, 0, 0, 0)]
abbrev m_X12_meets : Nat := 216
def zc_X12_together : List zE := [(0, 1, .aload_n 0, 0, 0, 0), (1, 1, .iload_n 1, 0, 0, 0), (2, 3, .invokevirtual 188, 182, 2, 9), (5, 3, .ifCond .eq 16, 0, 0, 0), (8, 1, .aload_n 0, 0, 0, 0), (9, 1, .iload_n 2, 0, 0, 0), (10, 3, .invokevirtual 188, 182, 2, 9), (13, 3, .ifCond .eq 8, 0, 0, 0), (16, 1, .iload_n 1, 0, 0, 0), (17, 1, .iload_n 2, 0, 0, 0), (18, 3, .if_icmp .ne 6, 0, 0, 0), (21, 2, .ldc 176, 0, 0, (-1000000001)), (23, 1, .ireturn, 0, 0, 0), (24, 1, .aload_n 0, 0, 0, 0), (25, 3, .invokevirtual 251, 214, 1, 9), (28, 1, .iconst 1, 0, 0, 0), (29, 1, .istore_n 3, 0, 0, 0), (30, 1, .iload_n 3, 0, 0, 0), (31, 3, .sipush 201, 0, 0, 0), (34, 3, .if_icmp .ge 34, 0, 0, 0), (37, 1, .aload_n 0, 0, 0, 0), (38, 1, .aload_n 0, 0, 0, 0), (39, 3, .getfield 19, 9, 3, 0), (42, 2, .bipush 10, 0, 0, 0), (44, 1, .iload_n 1, 0, 0, 0), (45, 1, .imul, 0, 0, 0), (46, 1, .iload_n 2, 0, 0, 0), (47, 1, .iadd, 0, 0, 0), (48, 3, .invokevirtual 226, 202, 3, 9), (51, 2, .istore 4, 0, 0, 0), (53, 1, .aload_n 0, 0, 0, 0), (54, 3, .getfield 197, 9, 24, 0), (57, 3, .ifCond .eq 5, 0, 0, 0), (60, 1, .iload_n 3, 0, 0, 0), (61, 1, .ireturn, 0, 0, 0), (62, 3, .iinc 3 1, 0, 0, 0), (65, 3, .goto (-35), 0, 0, 0), (68, 1, .iconst (-1), 0, 0, 0), (69, 1, .ireturn, 0, 0, 0)]
abbrev m_X12_together : Nat := 217
def zc_X12_isIn : List zE := [(0, 1, .aload_n 0, 0, 0, 0), (1, 1, .iload_n 1, 0, 0, 0), (2, 1, .iload_n 2, 0, 0, 0), (3, 3, .invokevirtual 159, 186, 3, 9), (6, 1, .aload_n 0, 0, 0, 0), (7, 1, .iload_n 3, 0, 0, 0), (8, 1, .iload_n 2, 0, 0, 0), (9, 2, .iload 4, 0, 0, 0), (11, 1, .iadd, 0, 0, 0), (12, 1, .aload_n 0, 0, 0, 0), (13, 3, .getfield 7, 9, 0, 0), (16, 1, .iconst 4, 0, 0, 0), (17, 1, .iload_n 3, 0, 0, 0), (18, 1, .iadd, 0, 0, 0), (19, 1, .iaload, 0, 0, 0), (20, 1, .irem, 0, 0, 0), (21, 3, .invokevirtual 159, 186, 3, 9), (24, 3, .if_icmp .ne 7, 0, 0, 0), (27, 1, .iconst 1, 0, 0, 0), (28, 3, .goto 4, 0, 0, 0), (31, 1, .iconst 0, 0, 0, 0), (32, 1, .ireturn, 0, 0, 0)]
abbrev m_X12_isIn : Nat := 218
def zc_X12_inCanon : List zE := [(0, 1, .iconst 0, 0, 0, 0), (1, 2, .istore 4, 0, 0, 0), (3, 1, .iconst 0, 0, 0, 0), (4, 2, .istore 5, 0, 0, 0), (6, 2, .iload 5, 0, 0, 0), (8, 1, .aload_n 0, 0, 0, 0), (9, 3, .getfield 7, 9, 0, 0), (12, 1, .iconst 4, 0, 0, 0), (13, 1, .iload_n 1, 0, 0, 0), (14, 1, .iadd, 0, 0, 0), (15, 1, .iaload, 0, 0, 0), (16, 3, .if_icmp .ge 31, 0, 0, 0), (19, 2, .iload 4, 0, 0, 0), (21, 1, .aload_n 0, 0, 0, 0), (22, 1, .iload_n 1, 0, 0, 0), (23, 2, .iload 5, 0, 0, 0), (25, 1, .iload_n 2, 0, 0, 0), (26, 1, .iload_n 3, 0, 0, 0), (27, 3, .invokevirtual 254, 218, 5, 9), (30, 3, .ifCond .eq 7, 0, 0, 0), (33, 1, .iconst 1, 0, 0, 0), (34, 3, .goto 4, 0, 0, 0), (37, 1, .iconst 0, 0, 0, 0), (38, 1, .iadd, 0, 0, 0), (39, 2, .istore 4, 0, 0, 0), (41, 3, .iinc 5 1, 0, 0, 0), (44, 3, .goto (-38), 0, 0, 0), (47, 2, .iload 4, 0, 0, 0), (49, 1, .ireturn, 0, 0, 0)]
abbrev m_X12_inCanon : Nat := 219
def zc_X12_canon : List zE := [(0, 1, .aload_n 0, 0, 0, 0), (1, 1, .iload_n 1, 0, 0, 0), (2, 1, .iload_n 2, 0, 0, 0), (3, 3, .invokevirtual 258, 183, 3, 9), (6, 3, .ifCond .ne 6, 0, 0, 0), (9, 2, .ldc 176, 0, 0, (-1000000001)), (11, 1, .ireturn, 0, 0, 0), (12, 1, .iload_n 3, 0, 0, 0), (13, 1, .i2l, 0, 0, 0), (14, 1, .lconst 0, 0, 0, 0), (15, 3, .ldc2_w 261, 0, 0, 11), (18, 3, .invokestatic 69, 160, 3, (-1)), (21, 3, .ifCond .eq 13, 0, 0, 0), (24, 1, .aload_n 0, 0, 0, 0), (25, 1, .iload_n 1, 0, 0, 0), (26, 1, .iload_n 2, 0, 0, 0), (27, 1, .iload_n 3, 0, 0, 0), (28, 3, .invokevirtual 263, 219, 4, 9), (31, 3, .goto 5, 0, 0, 0), (34, 2, .ldc 73, 0, 0, (-1000000002)), (36, 1, .ireturn, 0, 0, 0)]
abbrev m_X12_canon : Nat := 220
def zc_X12_bestCanon : List zE := [(0, 1, .aload_n 0, 0, 0, 0), (1, 1, .iload_n 1, 0, 0, 0), (2, 1, .iload_n 2, 0, 0, 0), (3, 3, .invokevirtual 258, 183, 3, 9), (6, 3, .ifCond .ne 6, 0, 0, 0), (9, 2, .ldc 176, 0, 0, (-1000000001)), (11, 1, .ireturn, 0, 0, 0), (12, 1, .iload_n 3, 0, 0, 0), (13, 1, .i2l, 0, 0, 0), (14, 1, .lconst 0, 0, 0, 0), (15, 1, .lconst 1, 0, 0, 0), (16, 3, .invokestatic 69, 160, 3, (-1)), (19, 3, .ifCond .ne 6, 0, 0, 0), (22, 2, .ldc 73, 0, 0, (-1000000002)), (24, 1, .ireturn, 0, 0, 0), (25, 1, .iconst 0, 0, 0, 0), (26, 2, .istore 4, 0, 0, 0), (28, 1, .iconst 1, 0, 0, 0), (29, 2, .istore 5, 0, 0, 0), (31, 2, .iload 5, 0, 0, 0), (33, 1, .aload_n 0, 0, 0, 0), (34, 3, .getfield 7, 9, 0, 0), (37, 1, .iconst 4, 0, 0, 0), (38, 1, .iload_n 2, 0, 0, 0), (39, 1, .iadd, 0, 0, 0), (40, 1, .iaload, 0, 0, 0), (41, 3, .if_icmp .ge 37, 0, 0, 0), (44, 1, .aload_n 0, 0, 0, 0), (45, 1, .iload_n 1, 0, 0, 0), (46, 1, .iload_n 2, 0, 0, 0), (47, 2, .iload 5, 0, 0, 0), (49, 3, .invokevirtual 263, 219, 4, 9), (52, 1, .aload_n 0, 0, 0, 0), (53, 1, .iload_n 1, 0, 0, 0), (54, 1, .iload_n 2, 0, 0, 0), (55, 2, .iload 4, 0, 0, 0), (57, 3, .invokevirtual 263, 219, 4, 9), (60, 3, .if_icmp .le 8, 0, 0, 0), (63, 2, .iload 5, 0, 0, 0), (65, 3, .goto 5, 0, 0, 0), (68, 2, .iload 4, 0, 0, 0), (70, 2, .istore 4, 0, 0, 0), (72, 3, .iinc 5 1, 0, 0, 0), (75, 3, .goto (-44), 0, 0, 0), (78, 1, .iload_n 3, 0, 0, 0), (79, 3, .ifCond .ne 8, 0, 0, 0), (82, 2, .iload 4, 0, 0, 0), (84, 3, .goto 11, 0, 0, 0), (87, 1, .aload_n 0, 0, 0, 0), (88, 1, .iload_n 1, 0, 0, 0), (89, 1, .iload_n 2, 0, 0, 0), (90, 2, .iload 4, 0, 0, 0), (92, 3, .invokevirtual 263, 219, 4, 9), (95, 1, .ireturn, 0, 0, 0)]
abbrev m_X12_bestCanon : Nat := 221
def zc_X12_match : List zE := [(0, 1, .aload_n 0, 0, 0, 0), (1, 1, .iload_n 1, 0, 0, 0), (2, 1, .iload_n 2, 0, 0, 0), (3, 3, .invokevirtual 258, 183, 3, 9), (6, 3, .ifCond .ne 6, 0, 0, 0), (9, 2, .ldc 176, 0, 0, (-1000000001)), (11, 1, .ireturn, 0, 0, 0), (12, 1, .iload_n 3, 0, 0, 0), (13, 1, .i2l, 0, 0, 0), (14, 1, .lconst 0, 0, 0, 0), (15, 3, .ldc2_w 261, 0, 0, 11), (18, 3, .invokestatic 69, 160, 3, (-1)), (21, 3, .ifCond .eq 14, 0, 0, 0), (24, 2, .iload 4, 0, 0, 0), (26, 1, .i2l, 0, 0, 0), (27, 1, .lconst 0, 0, 0, 0), (28, 1, .lconst 1, 0, 0, 0), (29, 3, .invokestatic 69, 160, 3, (-1)), (32, 3, .ifCond .ne 6, 0, 0, 0), (35, 2, .ldc 73, 0, 0, (-1000000002)), (37, 1, .ireturn, 0, 0, 0), (38, 1, .iconst 0, 0, 0, 0), (39, 2, .istore 5, 0, 0, 0), (41, 1, .iconst 0, 0, 0, 0), (42, 2, .istore 6, 0, 0, 0), (44, 2, .iload 6, 0, 0, 0), (46, 1, .aload_n 0, 0, 0, 0), (47, 3, .getfield 7, 9, 0, 0), (50, 1, .iconst 4, 0, 0, 0), (51, 1, .iload_n 1, 0, 0, 0), (52, 1, .iadd, 0, 0, 0), (53, 1, .iaload, 0, 0, 0), (54, 3, .if_icmp .ge 81, 0, 0, 0), (57, 1, .aload_n 0, 0, 0, 0), (58, 1, .iload_n 1, 0, 0, 0), (59, 2, .iload 6, 0, 0, 0), (61, 1, .iload_n 2, 0, 0, 0), (62, 1, .iload_n 3, 0, 0, 0), (63, 3, .invokevirtual 254, 218, 5, 9), (66, 3, .ifCond .ne 63, 0, 0, 0), (69, 1, .aload_n 0, 0, 0, 0), (70, 1, .iload_n 1, 0, 0, 0), (71, 2, .iload 6, 0, 0, 0), (73, 1, .aload_n 0, 0, 0, 0), (74, 3, .getfield 16, 9, 2, 0), (77, 1, .iconst 0, 0, 0, 0), (78, 1, .iload_n 1, 0, 0, 0), (79, 1, .iadd, 0, 0, 0), (80, 1, .iaload, 0, 0, 0), (81, 2, .iload 6, 0, 0, 0), (83, 3, .invokestatic 147, 161, 2, (-1)), (86, 3, .ifCond .ne 7, 0, 0, 0), (89, 1, .iconst 1, 0, 0, 0), (90, 3, .goto 4, 0, 0, 0), (93, 1, .iconst 0, 0, 0, 0), (94, 3, .invokevirtual 151, 184, 4, 9), (97, 1, .aload_n 0, 0, 0, 0), (98, 1, .iload_n 2, 0, 0, 0), (99, 2, .iload 6, 0, 0, 0), (101, 1, .iload_n 3, 0, 0, 0), (102, 1, .iadd, 0, 0, 0), (103, 1, .aload_n 0, 0, 0, 0), (104, 3, .getfield 7, 9, 0, 0), (107, 1, .iconst 4, 0, 0, 0), (108, 1, .iload_n 2, 0, 0, 0), (109, 1, .iadd, 0, 0, 0), (110, 1, .iaload, 0, 0, 0), (111, 1, .irem, 0, 0, 0), (112, 3, .invokevirtual 159, 186, 3, 9), (115, 3, .if_icmp .eq 5, 0, 0, 0), (118, 1, .iconst (-1), 0, 0, 0), (119, 1, .ireturn, 0, 0, 0), (120, 2, .iload 5, 0, 0, 0), (122, 1, .iconst 1, 0, 0, 0), (123, 2, .iload 6, 0, 0, 0), (125, 1, .ishl, 0, 0, 0), (126, 1, .ior, 0, 0, 0), (127, 2, .istore 5, 0, 0, 0), (129, 3, .iinc 6 1, 0, 0, 0), (132, 3, .goto (-88), 0, 0, 0), (135, 2, .iload 4, 0, 0, 0), (137, 3, .ifCond .ne 11, 0, 0, 0), (140, 2, .iload 5, 0, 0, 0), (142, 3, .invokestatic 163, 162, 1, (-1)), (145, 3, .goto 5, 0, 0, 0), (148, 2, .iload 5, 0, 0, 0), (150, 1, .ireturn, 0, 0, 0)]
abbrev m_X12_match : Nat := 222
def zc_X12_joinOf : List zE := [(0, 1, .aload_n 0, 0, 0, 0), (1, 3, .getfield 7, 9, 0, 0), (4, 1, .iconst 4, 0, 0, 0), (5, 1, .iload_n 1, 0, 0, 0), (6, 1, .iadd, 0, 0, 0), (7, 1, .iaload, 0, 0, 0), (8, 1, .aload_n 0, 0, 0, 0), (9, 3, .getfield 7, 9, 0, 0), (12, 1, .iconst 4, 0, 0, 0), (13, 1, .iload_n 2, 0, 0, 0), (14, 1, .iadd, 0, 0, 0), (15, 1, .iaload, 0, 0, 0), (16, 3, .invokestatic 194, 163, 2, (-1)), (19, 1, .istore_n 3, 0, 0, 0), (20, 1, .iload_n 3, 0, 0, 0), (21, 3, .ifCond .le 74, 0, 0, 0), (24, 1, .iconst 1, 0, 0, 0), (25, 2, .istore 4, 0, 0, 0), (27, 1, .iconst 0, 0, 0, 0), (28, 2, .istore 5, 0, 0, 0), (30, 2, .iload 5, 0, 0, 0), (32, 1, .iload_n 3, 0, 0, 0), (33, 3, .if_icmp .ge 49, 0, 0, 0), (36, 2, .iload 4, 0, 0, 0), (38, 3, .ifCond .eq 35, 0, 0, 0), (41, 1, .aload_n 0, 0, 0, 0), (42, 1, .iload_n 1, 0, 0, 0), (43, 1, .aload_n 0, 0, 0, 0), (44, 3, .getfield 7, 9, 0, 0), (47, 1, .iconst 4, 0, 0, 0), (48, 1, .iload_n 1, 0, 0, 0), (49, 1, .iadd, 0, 0, 0), (50, 1, .iaload, 0, 0, 0), (51, 1, .iload_n 3, 0, 0, 0), (52, 1, .isub, 0, 0, 0), (53, 2, .iload 5, 0, 0, 0), (55, 1, .iadd, 0, 0, 0), (56, 3, .invokevirtual 159, 186, 3, 9), (59, 1, .aload_n 0, 0, 0, 0), (60, 1, .iload_n 2, 0, 0, 0), (61, 2, .iload 5, 0, 0, 0), (63, 3, .invokevirtual 159, 186, 3, 9), (66, 3, .if_icmp .ne 7, 0, 0, 0), (69, 1, .iconst 1, 0, 0, 0), (70, 3, .goto 4, 0, 0, 0), (73, 1, .iconst 0, 0, 0, 0), (74, 2, .istore 4, 0, 0, 0), (76, 3, .iinc 5 1, 0, 0, 0), (79, 3, .goto (-49), 0, 0, 0), (82, 2, .iload 4, 0, 0, 0), (84, 3, .ifCond .eq 5, 0, 0, 0), (87, 1, .iload_n 3, 0, 0, 0), (88, 1, .ireturn, 0, 0, 0), (89, 3, .iinc 3 (-1), 0, 0, 0), (92, 3, .goto (-72), 0, 0, 0), (95, 1, .iconst 0, 0, 0, 0), (96, 1, .ireturn, 0, 0, 0)]
abbrev m_X12_joinOf : Nat := 223
def zc_X12_join : List zE := [(0, 1, .aload_n 0, 0, 0, 0), (1, 1, .iload_n 1, 0, 0, 0), (2, 1, .iload_n 2, 0, 0, 0), (3, 3, .invokevirtual 258, 183, 3, 9), (6, 3, .ifCond .eq 12, 0, 0, 0), (9, 1, .aload_n 0, 0, 0, 0), (10, 1, .iload_n 1, 0, 0, 0), (11, 1, .iload_n 2, 0, 0, 0), (12, 3, .invokevirtual 267, 223, 3, 9), (15, 3, .goto 5, 0, 0, 0), (18, 2, .ldc 176, 0, 0, (-1000000001)), (20, 1, .ireturn, 0, 0, 0)]
abbrev m_X12_join : Nat := 224
def zc_X12_nextOrder : List zE := [(0, 1, .iload_n 1, 0, 0, 0), (1, 1, .iconst 2, 0, 0, 0), (2, 1, .isub, 0, 0, 0), (3, 1, .istore_n 2, 0, 0, 0), (4, 1, .iload_n 2, 0, 0, 0), (5, 3, .ifCond .lt 26, 0, 0, 0), (8, 1, .aload_n 0, 0, 0, 0), (9, 3, .getfield 48, 9, 25, 0), (12, 1, .iload_n 2, 0, 0, 0), (13, 1, .iaload, 0, 0, 0), (14, 1, .aload_n 0, 0, 0, 0), (15, 3, .getfield 48, 9, 25, 0), (18, 1, .iload_n 2, 0, 0, 0), (19, 1, .iconst 1, 0, 0, 0), (20, 1, .iadd, 0, 0, 0), (21, 1, .iaload, 0, 0, 0), (22, 3, .if_icmp .le 9, 0, 0, 0), (25, 3, .iinc 2 (-1), 0, 0, 0), (28, 3, .goto (-24), 0, 0, 0), (31, 1, .iload_n 2, 0, 0, 0), (32, 3, .ifCond .ge 5, 0, 0, 0), (35, 1, .iconst 0, 0, 0, 0), (36, 1, .ireturn, 0, 0, 0), (37, 1, .iload_n 1, 0, 0, 0), (38, 1, .iconst 1, 0, 0, 0), (39, 1, .isub, 0, 0, 0), (40, 1, .istore_n 3, 0, 0, 0), (41, 1, .aload_n 0, 0, 0, 0), (42, 3, .getfield 48, 9, 25, 0), (45, 1, .iload_n 3, 0, 0, 0), (46, 1, .iaload, 0, 0, 0), (47, 1, .aload_n 0, 0, 0, 0), (48, 3, .getfield 48, 9, 25, 0), (51, 1, .iload_n 2, 0, 0, 0), (52, 1, .iaload, 0, 0, 0), (53, 3, .if_icmp .ge 9, 0, 0, 0), (56, 3, .iinc 3 (-1), 0, 0, 0), (59, 3, .goto (-18), 0, 0, 0), (62, 1, .aload_n 0, 0, 0, 0), (63, 3, .getfield 48, 9, 25, 0), (66, 1, .iload_n 2, 0, 0, 0), (67, 1, .iaload, 0, 0, 0), (68, 2, .istore 4, 0, 0, 0), (70, 1, .aload_n 0, 0, 0, 0), (71, 3, .getfield 48, 9, 25, 0), (74, 1, .iload_n 2, 0, 0, 0), (75, 1, .aload_n 0, 0, 0, 0), (76, 3, .getfield 48, 9, 25, 0), (79, 1, .iload_n 3, 0, 0, 0), (80, 1, .iaload, 0, 0, 0), (81, 1, .iastore, 0, 0, 0), (82, 1, .aload_n 0, 0, 0, 0), (83, 3, .getfield 48, 9, 25, 0), (86, 1, .iload_n 3, 0, 0, 0), (87, 2, .iload 4, 0, 0, 0), (89, 1, .iastore, 0, 0, 0), (90, 1, .iload_n 2, 0, 0, 0), (91, 1, .iconst 1, 0, 0, 0), (92, 1, .iadd, 0, 0, 0), (93, 2, .istore 5, 0, 0, 0), (95, 1, .iload_n 1, 0, 0, 0), (96, 1, .iconst 1, 0, 0, 0), (97, 1, .isub, 0, 0, 0), (98, 2, .istore 6, 0, 0, 0), (100, 2, .iload 5, 0, 0, 0), (102, 2, .iload 6, 0, 0, 0), (104, 3, .if_icmp .ge 44, 0, 0, 0), (107, 1, .aload_n 0, 0, 0, 0), (108, 3, .getfield 48, 9, 25, 0), (111, 2, .iload 5, 0, 0, 0), (113, 1, .iaload, 0, 0, 0), (114, 2, .istore 4, 0, 0, 0), (116, 1, .aload_n 0, 0, 0, 0), (117, 3, .getfield 48, 9, 25, 0), (120, 2, .iload 5, 0, 0, 0), (122, 1, .aload_n 0, 0, 0, 0), (123, 3, .getfield 48, 9, 25, 0), (126, 2, .iload 6, 0, 0, 0), (128, 1, .iaload, 0, 0, 0), (129, 1, .iastore, 0, 0, 0), (130, 1, .aload_n 0, 0, 0, 0), (131, 3, .getfield 48, 9, 25, 0), (134, 2, .iload 6, 0, 0, 0), (136, 2, .iload 4, 0, 0, 0), (138, 1, .iastore, 0, 0, 0), (139, 3, .iinc 5 1, 0, 0, 0), (142, 3, .iinc 6 (-1), 0, 0, 0), (145, 3, .goto (-45), 0, 0, 0), (148, 1, .iconst 1, 0, 0, 0), (149, 1, .ireturn, 0, 0, 0)]
abbrev m_X12_nextOrder : Nat := 225
def zc_X12_shortest : List zE := [(0, 1, .iload_n 1, 0, 0, 0), (1, 1, .i2l, 0, 0, 0), (2, 1, .lconst 0, 0, 0, 0), (3, 1, .lconst 1, 0, 0, 0), (4, 3, .invokestatic 69, 160, 3, (-1)), (7, 3, .ifCond .ne 6, 0, 0, 0), (10, 2, .ldc 73, 0, 0, (-1000000002)), (12, 1, .ireturn, 0, 0, 0), (13, 1, .aload_n 0, 0, 0, 0), (14, 3, .getfield 7, 9, 0, 0), (17, 1, .iconst 1, 0, 0, 0), (18, 1, .iaload, 0, 0, 0), (19, 1, .istore_n 2, 0, 0, 0), (20, 1, .iload_n 2, 0, 0, 0), (21, 3, .ifCond .ne 5, 0, 0, 0), (24, 1, .iconst (-1), 0, 0, 0), (25, 1, .ireturn, 0, 0, 0), (26, 1, .iconst 0, 0, 0, 0), (27, 1, .istore_n 3, 0, 0, 0), (28, 1, .iconst 0, 0, 0, 0), (29, 2, .istore 4, 0, 0, 0), (31, 2, .iload 4, 0, 0, 0), (33, 1, .iload_n 2, 0, 0, 0), (34, 3, .if_icmp .ge 77, 0, 0, 0), (37, 1, .aload_n 0, 0, 0, 0), (38, 3, .getfield 48, 9, 25, 0), (41, 2, .iload 4, 0, 0, 0), (43, 2, .iload 4, 0, 0, 0), (45, 1, .iastore, 0, 0, 0), (46, 1, .iload_n 3, 0, 0, 0), (47, 1, .aload_n 0, 0, 0, 0), (48, 3, .getfield 7, 9, 0, 0), (51, 1, .iconst 4, 0, 0, 0), (52, 2, .iload 4, 0, 0, 0), (54, 1, .iadd, 0, 0, 0), (55, 1, .iaload, 0, 0, 0), (56, 1, .iadd, 0, 0, 0), (57, 1, .istore_n 3, 0, 0, 0), (58, 1, .iconst 0, 0, 0, 0), (59, 2, .istore 5, 0, 0, 0), (61, 2, .iload 5, 0, 0, 0), (63, 1, .iload_n 2, 0, 0, 0), (64, 3, .if_icmp .ge 41, 0, 0, 0), (67, 1, .aload_n 0, 0, 0, 0), (68, 3, .getfield 51, 9, 26, 0), (71, 2, .bipush 6, 0, 0, 0), (73, 2, .iload 4, 0, 0, 0), (75, 1, .imul, 0, 0, 0), (76, 2, .iload 5, 0, 0, 0), (78, 1, .iadd, 0, 0, 0), (79, 2, .iload 4, 0, 0, 0), (81, 2, .iload 5, 0, 0, 0), (83, 3, .if_icmp .ne 7, 0, 0, 0), (86, 1, .iconst 0, 0, 0, 0), (87, 3, .goto 11, 0, 0, 0), (90, 1, .aload_n 0, 0, 0, 0), (91, 2, .iload 4, 0, 0, 0), (93, 2, .iload 5, 0, 0, 0), (95, 3, .invokevirtual 267, 223, 3, 9), (98, 1, .iastore, 0, 0, 0), (99, 3, .iinc 5 1, 0, 0, 0), (102, 3, .goto (-41), 0, 0, 0), (105, 3, .iinc 4 1, 0, 0, 0), (108, 3, .goto (-77), 0, 0, 0), (111, 3, .ldc_w 270, 0, 0, 100000000), (114, 2, .istore 4, 0, 0, 0), (116, 1, .iconst 0, 0, 0, 0), (117, 2, .istore 5, 0, 0, 0), (119, 1, .iconst 1, 0, 0, 0), (120, 2, .istore 6, 0, 0, 0), (122, 2, .iload 6, 0, 0, 0), (124, 3, .ifCond .eq 113, 0, 0, 0), (127, 1, .iload_n 3, 0, 0, 0), (128, 2, .istore 7, 0, 0, 0), (130, 1, .aload_n 0, 0, 0, 0), (131, 3, .getfield 48, 9, 25, 0), (134, 1, .iconst 0, 0, 0, 0), (135, 1, .iaload, 0, 0, 0), (136, 1, .iconst 1, 0, 0, 0), (137, 1, .iadd, 0, 0, 0), (138, 2, .istore 8, 0, 0, 0), (140, 1, .iconst 1, 0, 0, 0), (141, 2, .istore 9, 0, 0, 0), (143, 2, .iload 9, 0, 0, 0), (145, 1, .iload_n 2, 0, 0, 0), (146, 3, .if_icmp .ge 56, 0, 0, 0), (149, 2, .iload 7, 0, 0, 0), (151, 1, .aload_n 0, 0, 0, 0), (152, 3, .getfield 51, 9, 26, 0), (155, 2, .bipush 6, 0, 0, 0), (157, 1, .aload_n 0, 0, 0, 0), (158, 3, .getfield 48, 9, 25, 0), (161, 2, .iload 9, 0, 0, 0), (163, 1, .iconst 1, 0, 0, 0), (164, 1, .isub, 0, 0, 0), (165, 1, .iaload, 0, 0, 0), (166, 1, .imul, 0, 0, 0), (167, 1, .aload_n 0, 0, 0, 0), (168, 3, .getfield 48, 9, 25, 0), (171, 2, .iload 9, 0, 0, 0), (173, 1, .iaload, 0, 0, 0), (174, 1, .iadd, 0, 0, 0), (175, 1, .iaload, 0, 0, 0), (176, 1, .isub, 0, 0, 0), (177, 2, .istore 7, 0, 0, 0), (179, 2, .bipush 10, 0, 0, 0), (181, 2, .iload 8, 0, 0, 0), (183, 1, .imul, 0, 0, 0), (184, 1, .aload_n 0, 0, 0, 0), (185, 3, .getfield 48, 9, 25, 0), (188, 2, .iload 9, 0, 0, 0), (190, 1, .iaload, 0, 0, 0), (191, 1, .iadd, 0, 0, 0), (192, 1, .iconst 1, 0, 0, 0), (193, 1, .iadd, 0, 0, 0), (194, 2, .istore 8, 0, 0, 0), (196, 3, .iinc 9 1, 0, 0, 0), (199, 3, .goto (-56), 0, 0, 0), (202, 2, .iload 7, 0, 0, 0), (204, 2, .iload 4, 0, 0, 0), (206, 3, .if_icmp .ge 8, 0, 0, 0), (209, 2, .iload 8, 0, 0, 0), (211, 3, .goto 5, 0, 0, 0), (214, 2, .iload 5, 0, 0, 0), (216, 2, .istore 5, 0, 0, 0), (218, 2, .iload 7, 0, 0, 0), (220, 2, .iload 4, 0, 0, 0), (222, 3, .invokestatic 194, 163, 2, (-1)), (225, 2, .istore 4, 0, 0, 0), (227, 1, .aload_n 0, 0, 0, 0), (228, 1, .iload_n 2, 0, 0, 0), (229, 3, .invokevirtual 271, 225, 2, 9), (232, 2, .istore 6, 0, 0, 0), (234, 3, .goto (-112), 0, 0, 0), (237, 1, .iload_n 1, 0, 0, 0), (238, 3, .ifCond .ne 8, 0, 0, 0), (241, 2, .iload 4, 0, 0, 0), (243, 3, .goto 5, 0, 0, 0), (246, 2, .iload 5, 0, 0, 0), (248, 1, .ireturn, 0, 0, 0)]
abbrev m_X12_shortest : Nat := 226
def zc_X12_apart : List zE := [(0, 1, .aload_n 0, 0, 0, 0), (1, 1, .iload_n 1, 0, 0, 0), (2, 3, .invokevirtual 177, 190, 2, 9), (5, 1, .aload_n 0, 0, 0, 0), (6, 1, .iload_n 2, 0, 0, 0), (7, 3, .invokevirtual 177, 190, 2, 9), (10, 1, .isub, 0, 0, 0), (11, 1, .istore_n 3, 0, 0, 0), (12, 1, .iload_n 3, 0, 0, 0), (13, 3, .ifCond .ge 8, 0, 0, 0), (16, 1, .iload_n 3, 0, 0, 0), (17, 1, .ineg, 0, 0, 0), (18, 3, .goto 4, 0, 0, 0), (21, 1, .iload_n 3, 0, 0, 0), (22, 1, .istore_n 3, 0, 0, 0), (23, 1, .iload_n 3, 0, 0, 0), (24, 2, .bipush 12, 0, 0, 0), (26, 1, .iload_n 3, 0, 0, 0), (27, 1, .isub, 0, 0, 0), (28, 3, .invokestatic 194, 163, 2, (-1)), (31, 1, .ireturn, 0, 0, 0)]
abbrev m_X12_apart : Nat := 227
def zc_X12_nearest : List zE := [(0, 1, .aload_n 0, 0, 0, 0), (1, 1, .iload_n 1, 0, 0, 0), (2, 3, .invokevirtual 144, 180, 2, 9), (5, 3, .ifCond .ne 6, 0, 0, 0), (8, 2, .ldc 176, 0, 0, (-1000000001)), (10, 1, .ireturn, 0, 0, 0), (11, 1, .iconst (-1), 0, 0, 0), (12, 1, .istore_n 2, 0, 0, 0), (13, 1, .iconst 0, 0, 0, 0), (14, 1, .istore_n 3, 0, 0, 0), (15, 1, .iload_n 3, 0, 0, 0), (16, 1, .aload_n 0, 0, 0, 0), (17, 3, .getfield 7, 9, 0, 0), (20, 1, .iconst 1, 0, 0, 0), (21, 1, .iaload, 0, 0, 0), (22, 3, .if_icmp .ge 40, 0, 0, 0), (25, 1, .iload_n 3, 0, 0, 0), (26, 1, .iload_n 1, 0, 0, 0), (27, 3, .if_icmp .eq 27, 0, 0, 0), (30, 1, .iload_n 2, 0, 0, 0), (31, 1, .iconst (-1), 0, 0, 0), (32, 3, .if_icmp .eq 18, 0, 0, 0), (35, 1, .aload_n 0, 0, 0, 0), (36, 1, .iload_n 1, 0, 0, 0), (37, 1, .iload_n 3, 0, 0, 0), (38, 3, .invokevirtual 274, 227, 3, 9), (41, 1, .aload_n 0, 0, 0, 0), (42, 1, .iload_n 1, 0, 0, 0), (43, 1, .iload_n 2, 0, 0, 0), (44, 3, .invokevirtual 274, 227, 3, 9), (47, 3, .if_icmp .ge 7, 0, 0, 0), (50, 1, .iload_n 3, 0, 0, 0), (51, 3, .goto 4, 0, 0, 0), (54, 1, .iload_n 2, 0, 0, 0), (55, 1, .istore_n 2, 0, 0, 0), (56, 3, .iinc 3 1, 0, 0, 0), (59, 3, .goto (-44), 0, 0, 0), (62, 1, .iload_n 2, 0, 0, 0), (63, 1, .ireturn, 0, 0, 0)]
abbrev m_X12_nearest : Nat := 228
def zc_X12_modulation : List zE := [(0, 1, .aload_n 0, 0, 0, 0), (1, 1, .iload_n 1, 0, 0, 0), (2, 3, .invokevirtual 144, 180, 2, 9), (5, 3, .ifCond .eq 11, 0, 0, 0), (8, 1, .aload_n 0, 0, 0, 0), (9, 1, .iload_n 2, 0, 0, 0), (10, 3, .invokevirtual 144, 180, 2, 9), (13, 3, .ifCond .ne 6, 0, 0, 0), (16, 2, .ldc 176, 0, 0, (-1000000001)), (18, 1, .ireturn, 0, 0, 0), (19, 1, .iconst 1, 0, 0, 0), (20, 1, .iload_n 1, 0, 0, 0), (21, 1, .ishl, 0, 0, 0), (22, 1, .istore_n 3, 0, 0, 0), (23, 1, .iconst 0, 0, 0, 0), (24, 2, .istore 4, 0, 0, 0), (26, 2, .iload 4, 0, 0, 0), (28, 2, .bipush 6, 0, 0, 0), (30, 3, .if_icmp .ge 96, 0, 0, 0), (33, 1, .iload_n 3, 0, 0, 0), (34, 1, .iload_n 2, 0, 0, 0), (35, 3, .invokestatic 147, 161, 2, (-1)), (38, 3, .ifCond .eq 6, 0, 0, 0), (41, 2, .iload 4, 0, 0, 0), (43, 1, .ireturn, 0, 0, 0), (44, 1, .iload_n 3, 0, 0, 0), (45, 2, .istore 5, 0, 0, 0), (47, 1, .iconst 0, 0, 0, 0), (48, 2, .istore 6, 0, 0, 0), (50, 2, .iload 6, 0, 0, 0), (52, 1, .aload_n 0, 0, 0, 0), (53, 3, .getfield 7, 9, 0, 0), (56, 1, .iconst 1, 0, 0, 0), (57, 1, .iaload, 0, 0, 0), (58, 3, .if_icmp .ge 62, 0, 0, 0), (61, 1, .iconst 0, 0, 0, 0), (62, 2, .istore 7, 0, 0, 0), (64, 2, .iload 7, 0, 0, 0), (66, 1, .aload_n 0, 0, 0, 0), (67, 3, .getfield 7, 9, 0, 0), (70, 1, .iconst 1, 0, 0, 0), (71, 1, .iaload, 0, 0, 0), (72, 3, .if_icmp .ge 42, 0, 0, 0), (75, 1, .iload_n 3, 0, 0, 0), (76, 2, .iload 5, 0, 0, 0), (78, 2, .iload 6, 0, 0, 0), (80, 3, .invokestatic 147, 161, 2, (-1)), (83, 3, .ifCond .eq 22, 0, 0, 0), (86, 1, .aload_n 0, 0, 0, 0), (87, 2, .iload 6, 0, 0, 0), (89, 2, .iload 7, 0, 0, 0), (91, 3, .invokevirtual 274, 227, 3, 9), (94, 1, .iconst 3, 0, 0, 0), (95, 3, .if_icmp .ge 10, 0, 0, 0), (98, 1, .iconst 1, 0, 0, 0), (99, 2, .iload 7, 0, 0, 0), (101, 1, .ishl, 0, 0, 0), (102, 3, .goto 4, 0, 0, 0), (105, 1, .iconst 0, 0, 0, 0), (106, 1, .ior, 0, 0, 0), (107, 1, .istore_n 3, 0, 0, 0), (108, 3, .iinc 7 1, 0, 0, 0), (111, 3, .goto (-47), 0, 0, 0), (114, 3, .iinc 6 1, 0, 0, 0), (117, 3, .goto (-67), 0, 0, 0), (120, 3, .iinc 4 1, 0, 0, 0), (123, 3, .goto (-97), 0, 0, 0), (126, 1, .iconst (-1), 0, 0, 0), (127, 1, .ireturn, 0, 0, 0)]
abbrev m_X12_modulation : Nat := 229
def zc_X12_sounds : List zE := [(0, 1, .iload_n 1, 0, 0, 0), (1, 1, .i2l, 0, 0, 0), (2, 1, .lconst 0, 0, 0, 0), (3, 3, .ldc2_w 229, 0, 0, 9), (6, 3, .invokestatic 69, 160, 3, (-1)), (9, 3, .ifCond .ne 6, 0, 0, 0), (12, 2, .ldc 73, 0, 0, (-1000000002)), (14, 1, .ireturn, 0, 0, 0), (15, 1, .iconst 0, 0, 0, 0), (16, 1, .istore_n 2, 0, 0, 0), (17, 1, .iconst 0, 0, 0, 0), (18, 1, .istore_n 3, 0, 0, 0), (19, 1, .iload_n 3, 0, 0, 0), (20, 1, .aload_n 0, 0, 0, 0), (21, 3, .getfield 7, 9, 0, 0), (24, 1, .iconst 2, 0, 0, 0), (25, 1, .iaload, 0, 0, 0), (26, 3, .if_icmp .ge 45, 0, 0, 0), (29, 1, .iload_n 2, 0, 0, 0), (30, 1, .aload_n 0, 0, 0, 0), (31, 1, .aload_n 0, 0, 0, 0), (32, 3, .getfield 16, 9, 2, 0), (35, 2, .bipush 6, 0, 0, 0), (37, 1, .iload_n 3, 0, 0, 0), (38, 1, .iadd, 0, 0, 0), (39, 1, .iaload, 0, 0, 0), (40, 1, .aload_n 0, 0, 0, 0), (41, 3, .getfield 16, 9, 2, 0), (44, 2, .bipush 11, 0, 0, 0), (46, 1, .iload_n 3, 0, 0, 0), (47, 1, .iadd, 0, 0, 0), (48, 1, .iaload, 0, 0, 0), (49, 3, .invokevirtual 159, 186, 3, 9), (52, 1, .iload_n 1, 0, 0, 0), (53, 3, .if_icmp .ne 9, 0, 0, 0), (56, 1, .iconst 1, 0, 0, 0), (57, 1, .iload_n 3, 0, 0, 0), (58, 1, .ishl, 0, 0, 0), (59, 3, .goto 4, 0, 0, 0), (62, 1, .iconst 0, 0, 0, 0), (63, 1, .ior, 0, 0, 0), (64, 1, .istore_n 2, 0, 0, 0), (65, 3, .iinc 3 1, 0, 0, 0), (68, 3, .goto (-49), 0, 0, 0), (71, 1, .iload_n 2, 0, 0, 0), (72, 1, .ireturn, 0, 0, 0)]
abbrev m_X12_sounds : Nat := 230
def zc_X12_dry : List zE := [(0, 1, .iload_n 1, 0, 0, 0), (1, 1, .i2l, 0, 0, 0), (2, 1, .lconst 0, 0, 0, 0), (3, 3, .ldc2_w 277, 0, 0, 60), (6, 3, .invokestatic 69, 160, 3, (-1)), (9, 3, .ifCond .eq 15, 0, 0, 0), (12, 1, .iload_n 2, 0, 0, 0), (13, 1, .i2l, 0, 0, 0), (14, 1, .lconst 0, 0, 0, 0), (15, 3, .ldc2_w 279, 0, 0, 100), (18, 3, .invokestatic 69, 160, 3, (-1)), (21, 3, .ifCond .ne 6, 0, 0, 0), (24, 2, .ldc 73, 0, 0, (-1000000002)), (26, 1, .ireturn, 0, 0, 0), (27, 3, .ldc2_w 281, 0, 0, 1000000000), (30, 1, .lstore_n 3, 0, 0, 0), (31, 1, .iconst 0, 0, 0, 0), (32, 2, .istore 5, 0, 0, 0), (34, 2, .iload 5, 0, 0, 0), (36, 1, .iload_n 1, 0, 0, 0), (37, 3, .if_icmp .ge 18, 0, 0, 0), (40, 1, .lload_n 3, 0, 0, 0), (41, 1, .iload_n 2, 0, 0, 0), (42, 1, .i2l, 0, 0, 0), (43, 1, .lmul, 0, 0, 0), (44, 3, .ldc2_w 279, 0, 0, 100), (47, 1, .ldiv, 0, 0, 0), (48, 1, .lstore_n 3, 0, 0, 0), (49, 3, .iinc 5 1, 0, 0, 0), (52, 3, .goto (-18), 0, 0, 0), (55, 1, .lload_n 3, 0, 0, 0), (56, 1, .l2i, 0, 0, 0), (57, 1, .ireturn, 0, 0, 0)]
abbrev m_X12_dry : Nat := 231
def zc_X12_see : List zE := [(0, 1, .iload_n 1, 0, 0, 0), (1, 1, .i2l, 0, 0, 0), (2, 1, .lconst 0, 0, 0, 0), (3, 3, .ldc2_w 261, 0, 0, 11), (6, 3, .invokestatic 69, 160, 3, (-1)), (9, 3, .ifCond .eq 15, 0, 0, 0), (12, 1, .iload_n 2, 0, 0, 0), (13, 1, .i2l, 0, 0, 0), (14, 1, .lconst 0, 0, 0, 0), (15, 3, .ldc2_w 229, 0, 0, 9), (18, 3, .invokestatic 69, 160, 3, (-1)), (21, 3, .ifCond .ne 6, 0, 0, 0), (24, 2, .ldc 73, 0, 0, (-1000000002)), (26, 1, .ireturn, 0, 0, 0), (27, 1, .aload_n 0, 0, 0, 0), (28, 3, .getfield 61, 9, 13, 0), (31, 2, .bipush 6, 0, 0, 0), (33, 3, .if_icmp .ne 6, 0, 0, 0), (36, 2, .ldc 77, 0, 0, (-1000000004)), (38, 1, .ireturn, 0, 0, 0), (39, 1, .aload_n 0, 0, 0, 0), (40, 3, .getfield 39, 9, 12, 0), (43, 1, .iconst 2, 0, 0, 0), (44, 1, .aload_n 0, 0, 0, 0), (45, 3, .getfield 61, 9, 13, 0), (48, 1, .imul, 0, 0, 0), (49, 1, .iload_n 1, 0, 0, 0), (50, 1, .iastore, 0, 0, 0), (51, 1, .aload_n 0, 0, 0, 0), (52, 3, .getfield 39, 9, 12, 0), (55, 1, .iconst 2, 0, 0, 0), (56, 1, .aload_n 0, 0, 0, 0), (57, 3, .getfield 61, 9, 13, 0), (60, 1, .imul, 0, 0, 0), (61, 1, .iconst 1, 0, 0, 0), (62, 1, .iadd, 0, 0, 0), (63, 1, .iload_n 2, 0, 0, 0), (64, 1, .iastore, 0, 0, 0), (65, 1, .aload_n 0, 0, 0, 0), (66, 1, .dup, 0, 0, 0), (67, 3, .getfield 61, 9, 13, 0), (70, 1, .iconst 1, 0, 0, 0), (71, 1, .iadd, 0, 0, 0), (72, 3, .putfield 61, 9, 13, 0), (75, 1, .aload_n 0, 0, 0, 0), (76, 3, .getfield 61, 9, 13, 0), (79, 1, .ireturn, 0, 0, 0)]
abbrev m_X12_see : Nat := 232
def zc_X12_isSo : List zE := [(0, 1, .iconst 1, 0, 0, 0), (1, 1, .istore_n 3, 0, 0, 0), (2, 1, .iconst 0, 0, 0, 0), (3, 2, .istore 4, 0, 0, 0), (5, 2, .iload 4, 0, 0, 0), (7, 1, .iconst 2, 0, 0, 0), (8, 1, .aload_n 0, 0, 0, 0), (9, 3, .getfield 61, 9, 13, 0), (12, 1, .imul, 0, 0, 0), (13, 3, .if_icmp .ge 54, 0, 0, 0), (16, 1, .iload_n 3, 0, 0, 0), (17, 3, .ifCond .eq 42, 0, 0, 0), (20, 1, .aload_n 0, 0, 0, 0), (21, 1, .iload_n 1, 0, 0, 0), (22, 1, .iload_n 2, 0, 0, 0), (23, 1, .aload_n 0, 0, 0, 0), (24, 3, .getfield 39, 9, 12, 0), (27, 2, .iload 4, 0, 0, 0), (29, 1, .iaload, 0, 0, 0), (30, 1, .iadd, 0, 0, 0), (31, 1, .aload_n 0, 0, 0, 0), (32, 3, .getfield 7, 9, 0, 0), (35, 1, .iconst 4, 0, 0, 0), (36, 1, .iload_n 1, 0, 0, 0), (37, 1, .iadd, 0, 0, 0), (38, 1, .iaload, 0, 0, 0), (39, 1, .irem, 0, 0, 0), (40, 3, .invokevirtual 159, 186, 3, 9), (43, 1, .aload_n 0, 0, 0, 0), (44, 3, .getfield 39, 9, 12, 0), (47, 2, .iload 4, 0, 0, 0), (49, 1, .iconst 1, 0, 0, 0), (50, 1, .iadd, 0, 0, 0), (51, 1, .iaload, 0, 0, 0), (52, 3, .if_icmp .ne 7, 0, 0, 0), (55, 1, .iconst 1, 0, 0, 0), (56, 3, .goto 4, 0, 0, 0), (59, 1, .iconst 0, 0, 0, 0), (60, 1, .istore_n 3, 0, 0, 0), (61, 3, .iinc 4 2, 0, 0, 0), (64, 3, .goto (-59), 0, 0, 0), (67, 1, .iload_n 3, 0, 0, 0), (68, 1, .ireturn, 0, 0, 0)]
abbrev m_X12_isSo : Nat := 233
def zc_X12_places : List zE := [(0, 1, .iload_n 1, 0, 0, 0), (1, 1, .i2l, 0, 0, 0), (2, 1, .lconst 0, 0, 0, 0), (3, 3, .ldc2_w 186, 0, 0, 2), (6, 3, .invokestatic 69, 160, 3, (-1)), (9, 3, .ifCond .ne 6, 0, 0, 0), (12, 2, .ldc 73, 0, 0, (-1000000002)), (14, 1, .ireturn, 0, 0, 0), (15, 1, .iconst 0, 0, 0, 0), (16, 1, .istore_n 2, 0, 0, 0), (17, 1, .iconst (-1), 0, 0, 0), (18, 1, .istore_n 3, 0, 0, 0), (19, 1, .iconst 0, 0, 0, 0), (20, 2, .istore 4, 0, 0, 0), (22, 1, .aload_n 0, 0, 0, 0), (23, 3, .getfield 7, 9, 0, 0), (26, 1, .iconst 1, 0, 0, 0), (27, 1, .iaload, 0, 0, 0), (28, 1, .iconst 1, 0, 0, 0), (29, 1, .isub, 0, 0, 0), (30, 2, .istore 5, 0, 0, 0), (32, 2, .iload 5, 0, 0, 0), (34, 3, .ifCond .lt 65, 0, 0, 0), (37, 1, .aload_n 0, 0, 0, 0), (38, 3, .getfield 7, 9, 0, 0), (41, 1, .iconst 4, 0, 0, 0), (42, 2, .iload 5, 0, 0, 0), (44, 1, .iadd, 0, 0, 0), (45, 1, .iaload, 0, 0, 0), (46, 1, .iconst 1, 0, 0, 0), (47, 1, .isub, 0, 0, 0), (48, 2, .istore 6, 0, 0, 0), (50, 2, .iload 6, 0, 0, 0), (52, 3, .ifCond .lt 41, 0, 0, 0), (55, 1, .aload_n 0, 0, 0, 0), (56, 2, .iload 5, 0, 0, 0), (58, 2, .iload 6, 0, 0, 0), (60, 3, .invokevirtual 283, 233, 3, 9), (63, 3, .ifCond .eq 24, 0, 0, 0), (66, 3, .iinc 2 1, 0, 0, 0), (69, 2, .bipush 100, 0, 0, 0), (71, 2, .iload 5, 0, 0, 0), (73, 1, .imul, 0, 0, 0), (74, 2, .iload 6, 0, 0, 0), (76, 1, .iadd, 0, 0, 0), (77, 1, .istore_n 3, 0, 0, 0), (78, 2, .iload 4, 0, 0, 0), (80, 1, .iconst 1, 0, 0, 0), (81, 2, .iload 5, 0, 0, 0), (83, 1, .ishl, 0, 0, 0), (84, 1, .ior, 0, 0, 0), (85, 2, .istore 4, 0, 0, 0), (87, 3, .iinc 6 (-1), 0, 0, 0), (90, 3, .goto (-40), 0, 0, 0), (93, 3, .iinc 5 (-1), 0, 0, 0), (96, 3, .goto (-64), 0, 0, 0), (99, 1, .iload_n 1, 0, 0, 0), (100, 3, .ifCond .ne 7, 0, 0, 0), (103, 1, .iload_n 2, 0, 0, 0), (104, 3, .goto 14, 0, 0, 0), (107, 1, .iload_n 1, 0, 0, 0), (108, 1, .iconst 1, 0, 0, 0), (109, 3, .if_icmp .ne 7, 0, 0, 0), (112, 1, .iload_n 3, 0, 0, 0), (113, 3, .goto 5, 0, 0, 0), (116, 2, .iload 4, 0, 0, 0), (118, 1, .ireturn, 0, 0, 0)]
abbrev m_X12_places : Nat := 234
def zc_X12_greatestPart : List zE := [(0, 1, .iconst 0, 0, 0, 0), (1, 1, .istore_n 2, 0, 0, 0), (2, 1, .iload_n 2, 0, 0, 0), (3, 2, .bipush 10, 0, 0, 0), (5, 3, .if_icmp .ge 16, 0, 0, 0), (8, 1, .aload_n 0, 0, 0, 0), (9, 3, .getfield 45, 9, 23, 0), (12, 1, .iload_n 2, 0, 0, 0), (13, 1, .iconst 0, 0, 0, 0), (14, 1, .iastore, 0, 0, 0), (15, 3, .iinc 2 1, 0, 0, 0), (18, 3, .goto (-16), 0, 0, 0), (21, 1, .iconst 0, 0, 0, 0), (22, 1, .istore_n 2, 0, 0, 0), (23, 1, .iconst 0, 0, 0, 0), (24, 1, .istore_n 3, 0, 0, 0), (25, 1, .iload_n 3, 0, 0, 0), (26, 1, .aload_n 0, 0, 0, 0), (27, 3, .getfield 7, 9, 0, 0), (30, 1, .iconst 1, 0, 0, 0), (31, 1, .iaload, 0, 0, 0), (32, 3, .if_icmp .ge 95, 0, 0, 0), (35, 1, .iconst 0, 0, 0, 0), (36, 2, .istore 4, 0, 0, 0), (38, 2, .iload 4, 0, 0, 0), (40, 1, .aload_n 0, 0, 0, 0), (41, 3, .getfield 7, 9, 0, 0), (44, 1, .iconst 4, 0, 0, 0), (45, 1, .iload_n 3, 0, 0, 0), (46, 1, .iadd, 0, 0, 0), (47, 1, .iaload, 0, 0, 0), (48, 3, .if_icmp .ge 73, 0, 0, 0), (51, 1, .aload_n 0, 0, 0, 0), (52, 1, .iload_n 3, 0, 0, 0), (53, 2, .iload 4, 0, 0, 0), (55, 3, .invokevirtual 283, 233, 3, 9), (58, 3, .ifCond .eq 57, 0, 0, 0), (61, 1, .aload_n 0, 0, 0, 0), (62, 1, .iload_n 3, 0, 0, 0), (63, 2, .iload 4, 0, 0, 0), (65, 1, .iload_n 1, 0, 0, 0), (66, 1, .iadd, 0, 0, 0), (67, 1, .aload_n 0, 0, 0, 0), (68, 3, .getfield 7, 9, 0, 0), (71, 1, .iconst 4, 0, 0, 0), (72, 1, .iload_n 3, 0, 0, 0), (73, 1, .iadd, 0, 0, 0), (74, 1, .iaload, 0, 0, 0), (75, 1, .irem, 0, 0, 0), (76, 3, .invokevirtual 159, 186, 3, 9), (79, 2, .istore 5, 0, 0, 0), (81, 1, .aload_n 0, 0, 0, 0), (82, 3, .getfield 45, 9, 23, 0), (85, 2, .iload 5, 0, 0, 0), (87, 1, .dup2, 0, 0, 0), (88, 1, .iaload, 0, 0, 0), (89, 1, .iconst 1, 0, 0, 0), (90, 1, .iadd, 0, 0, 0), (91, 1, .iastore, 0, 0, 0), (92, 1, .aload_n 0, 0, 0, 0), (93, 3, .getfield 45, 9, 23, 0), (96, 2, .iload 5, 0, 0, 0), (98, 1, .iaload, 0, 0, 0), (99, 1, .iload_n 2, 0, 0, 0), (100, 3, .if_icmp .le 13, 0, 0, 0), (103, 1, .aload_n 0, 0, 0, 0), (104, 3, .getfield 45, 9, 23, 0), (107, 2, .iload 5, 0, 0, 0), (109, 1, .iaload, 0, 0, 0), (110, 3, .goto 4, 0, 0, 0), (113, 1, .iload_n 2, 0, 0, 0), (114, 1, .istore_n 2, 0, 0, 0), (115, 3, .iinc 4 1, 0, 0, 0), (118, 3, .goto (-80), 0, 0, 0), (121, 3, .iinc 3 1, 0, 0, 0), (124, 3, .goto (-99), 0, 0, 0), (127, 1, .iload_n 2, 0, 0, 0), (128, 1, .ireturn, 0, 0, 0)]
abbrev m_X12_greatestPart : Nat := 235
def zc_X12_lookAt : List zE := [(0, 1, .aload_n 0, 0, 0, 0), (1, 1, .iconst 0, 0, 0, 0), (2, 3, .invokevirtual 286, 234, 2, 9), (5, 1, .istore_n 1, 0, 0, 0), (6, 1, .iconst (-1), 0, 0, 0), (7, 1, .istore_n 2, 0, 0, 0), (8, 1, .iconst 0, 0, 0, 0), (9, 1, .istore_n 3, 0, 0, 0), (10, 1, .iload_n 3, 0, 0, 0), (11, 2, .bipush 12, 0, 0, 0), (13, 3, .if_icmp .ge 35, 0, 0, 0), (16, 1, .aload_n 0, 0, 0, 0), (17, 1, .iload_n 3, 0, 0, 0), (18, 3, .invokevirtual 289, 235, 2, 9), (21, 2, .istore 4, 0, 0, 0), (23, 2, .iload 4, 0, 0, 0), (25, 1, .iload_n 1, 0, 0, 0), (26, 3, .if_icmp .ge 7, 0, 0, 0), (29, 1, .iload_n 3, 0, 0, 0), (30, 3, .goto 4, 0, 0, 0), (33, 1, .iload_n 2, 0, 0, 0), (34, 1, .istore_n 2, 0, 0, 0), (35, 2, .iload 4, 0, 0, 0), (37, 1, .iload_n 1, 0, 0, 0), (38, 3, .invokestatic 194, 163, 2, (-1)), (41, 1, .istore_n 1, 0, 0, 0), (42, 3, .iinc 3 1, 0, 0, 0), (45, 3, .goto (-35), 0, 0, 0), (48, 1, .iload_n 2, 0, 0, 0), (49, 1, .ireturn, 0, 0, 0)]
abbrev m_X12_lookAt : Nat := 236
def zc_X12_write : List zE := [(0, 1, .aload_n 0, 0, 0, 0), (1, 1, .iload_n 1, 0, 0, 0), (2, 1, .iload_n 2, 0, 0, 0), (3, 3, .invokevirtual 183, 181, 3, 9), (6, 3, .ifCond .ne 6, 0, 0, 0), (9, 2, .ldc 176, 0, 0, (-1000000001)), (11, 1, .ireturn, 0, 0, 0), (12, 1, .iload_n 3, 0, 0, 0), (13, 1, .i2l, 0, 0, 0), (14, 1, .lconst 0, 0, 0, 0), (15, 3, .ldc2_w 229, 0, 0, 9), (18, 3, .invokestatic 69, 160, 3, (-1)), (21, 3, .ifCond .ne 6, 0, 0, 0), (24, 2, .ldc 73, 0, 0, (-1000000002)), (26, 1, .ireturn, 0, 0, 0), (27, 1, .aload_n 0, 0, 0, 0), (28, 3, .getfield 64, 9, 15, 0), (31, 2, .bipush 20, 0, 0, 0), (33, 3, .if_icmp .ne 6, 0, 0, 0), (36, 2, .ldc 77, 0, 0, (-1000000004)), (38, 1, .ireturn, 0, 0, 0), (39, 1, .aload_n 0, 0, 0, 0), (40, 3, .getfield 42, 9, 14, 0), (43, 1, .iconst 3, 0, 0, 0), (44, 1, .aload_n 0, 0, 0, 0), (45, 3, .getfield 64, 9, 15, 0), (48, 1, .imul, 0, 0, 0), (49, 1, .iload_n 1, 0, 0, 0), (50, 1, .iastore, 0, 0, 0), (51, 1, .aload_n 0, 0, 0, 0), (52, 3, .getfield 42, 9, 14, 0), (55, 1, .iconst 3, 0, 0, 0), (56, 1, .aload_n 0, 0, 0, 0), (57, 3, .getfield 64, 9, 15, 0), (60, 1, .imul, 0, 0, 0), (61, 1, .iconst 1, 0, 0, 0), (62, 1, .iadd, 0, 0, 0), (63, 1, .iload_n 2, 0, 0, 0), (64, 1, .iastore, 0, 0, 0), (65, 1, .aload_n 0, 0, 0, 0), (66, 3, .getfield 42, 9, 14, 0), (69, 1, .iconst 3, 0, 0, 0), (70, 1, .aload_n 0, 0, 0, 0), (71, 3, .getfield 64, 9, 15, 0), (74, 1, .imul, 0, 0, 0), (75, 1, .iconst 2, 0, 0, 0), (76, 1, .iadd, 0, 0, 0), (77, 1, .iload_n 3, 0, 0, 0), (78, 1, .iastore, 0, 0, 0), (79, 1, .aload_n 0, 0, 0, 0), (80, 1, .dup, 0, 0, 0), (81, 3, .getfield 64, 9, 15, 0), (84, 1, .iconst 1, 0, 0, 0), (85, 1, .iadd, 0, 0, 0), (86, 3, .putfield 64, 9, 15, 0), (89, 1, .aload_n 0, 0, 0, 0), (90, 3, .getfield 64, 9, 15, 0), (93, 1, .ireturn, 0, 0, 0)]
abbrev m_X12_write : Nat := 237
def zc_X12_judge : List zE := [(0, 1, .iconst 0, 0, 0, 0), (1, 1, .istore_n 1, 0, 0, 0), (2, 1, .iload_n 1, 0, 0, 0), (3, 1, .aload_n 0, 0, 0, 0), (4, 3, .getfield 64, 9, 15, 0), (7, 3, .if_icmp .ge 46, 0, 0, 0), (10, 1, .aload_n 0, 0, 0, 0), (11, 1, .aload_n 0, 0, 0, 0), (12, 3, .getfield 42, 9, 14, 0), (15, 1, .iconst 3, 0, 0, 0), (16, 1, .iload_n 1, 0, 0, 0), (17, 1, .imul, 0, 0, 0), (18, 1, .iaload, 0, 0, 0), (19, 1, .aload_n 0, 0, 0, 0), (20, 3, .getfield 42, 9, 14, 0), (23, 1, .iconst 3, 0, 0, 0), (24, 1, .iload_n 1, 0, 0, 0), (25, 1, .imul, 0, 0, 0), (26, 1, .iconst 1, 0, 0, 0), (27, 1, .iadd, 0, 0, 0), (28, 1, .iaload, 0, 0, 0), (29, 3, .invokevirtual 159, 186, 3, 9), (32, 1, .aload_n 0, 0, 0, 0), (33, 3, .getfield 42, 9, 14, 0), (36, 1, .iconst 3, 0, 0, 0), (37, 1, .iload_n 1, 0, 0, 0), (38, 1, .imul, 0, 0, 0), (39, 1, .iconst 2, 0, 0, 0), (40, 1, .iadd, 0, 0, 0), (41, 1, .iaload, 0, 0, 0), (42, 3, .if_icmp .eq 5, 0, 0, 0), (45, 1, .iload_n 1, 0, 0, 0), (46, 1, .ireturn, 0, 0, 0), (47, 3, .iinc 1 1, 0, 0, 0), (50, 3, .goto (-48), 0, 0, 0), (53, 1, .iconst (-1), 0, 0, 0), (54, 1, .ireturn, 0, 0, 0)]
abbrev m_X12_judge : Nat := 238
def zc_X12_tear : List zE := [(0, 1, .aload_n 0, 0, 0, 0), (1, 3, .getfield 61, 9, 13, 0), (4, 1, .aload_n 0, 0, 0, 0), (5, 3, .getfield 64, 9, 15, 0), (8, 1, .iadd, 0, 0, 0), (9, 1, .istore_n 1, 0, 0, 0), (10, 1, .aload_n 0, 0, 0, 0), (11, 1, .iconst 0, 0, 0, 0), (12, 3, .putfield 61, 9, 13, 0), (15, 1, .aload_n 0, 0, 0, 0), (16, 1, .iconst 0, 0, 0, 0), (17, 3, .putfield 64, 9, 15, 0), (20, 1, .iload_n 1, 0, 0, 0), (21, 1, .ireturn, 0, 0, 0)]
abbrev m_X12_tear : Nat := 239
def zc_X12_seed : List zE := [(0, 1, .iload_n 1, 0, 0, 0), (1, 3, .ifCond .ge 6, 0, 0, 0), (4, 2, .ldc 73, 0, 0, (-1000000002)), (6, 1, .ireturn, 0, 0, 0), (7, 1, .aload_n 0, 0, 0, 0), (8, 3, .getfield 231, 9, 8, 0), (11, 1, .l2i, 0, 0, 0), (12, 1, .istore_n 2, 0, 0, 0), (13, 1, .aload_n 0, 0, 0, 0), (14, 1, .iload_n 1, 0, 0, 0), (15, 1, .i2l, 0, 0, 0), (16, 3, .putfield 231, 9, 8, 0), (19, 1, .iload_n 2, 0, 0, 0), (20, 1, .ireturn, 0, 0, 0)]
abbrev m_X12_seed : Nat := 240
def zc_X12_keep : List zE := [(0, 1, .iload_n 1, 0, 0, 0), (1, 1, .i2l, 0, 0, 0), (2, 1, .lconst 0, 0, 0, 0), (3, 1, .lconst 1, 0, 0, 0), (4, 3, .invokestatic 69, 160, 3, (-1)), (7, 3, .ifCond .ne 6, 0, 0, 0), (10, 2, .ldc 176, 0, 0, (-1000000001)), (12, 1, .ireturn, 0, 0, 0), (13, 1, .aload_n 0, 0, 0, 0), (14, 3, .getfield 16, 9, 2, 0), (17, 1, .iconst 0, 0, 0, 0), (18, 1, .aload_n 0, 0, 0, 0), (19, 3, .getfield 25, 9, 6, 0), (22, 2, .bipush 45, 0, 0, 0), (24, 1, .iload_n 1, 0, 0, 0), (25, 1, .imul, 0, 0, 0), (26, 2, .bipush 44, 0, 0, 0), (28, 3, .invokestatic 54, 164, 5, (-1)), (31, 1, .aload_n 0, 0, 0, 0), (32, 3, .getfield 25, 9, 6, 0), (35, 2, .bipush 45, 0, 0, 0), (37, 1, .iload_n 1, 0, 0, 0), (38, 1, .imul, 0, 0, 0), (39, 2, .bipush 44, 0, 0, 0), (41, 1, .iadd, 0, 0, 0), (42, 1, .aload_n 0, 0, 0, 0), (43, 3, .getfield 231, 9, 8, 0), (46, 1, .l2i, 0, 0, 0), (47, 1, .iastore, 0, 0, 0), (48, 1, .aload_n 0, 0, 0, 0), (49, 3, .getfield 28, 9, 7, 0), (52, 1, .iload_n 1, 0, 0, 0), (53, 1, .iconst 1, 0, 0, 0), (54, 1, .bastore, 0, 0, 0), (55, 1, .aload_n 0, 0, 0, 0), (56, 1, .iconst 0, 0, 0, 0), (57, 3, .putfield 58, 9, 5, 0), (60, 1, .iconst 1, 0, 0, 0), (61, 1, .ireturn, 0, 0, 0)]
abbrev m_X12_keep : Nat := 241
def zc_X12_goBack : List zE := [(0, 1, .iload_n 1, 0, 0, 0), (1, 1, .i2l, 0, 0, 0), (2, 1, .lconst 0, 0, 0, 0), (3, 1, .lconst 1, 0, 0, 0), (4, 3, .invokestatic 69, 160, 3, (-1)), (7, 3, .ifCond .ne 6, 0, 0, 0), (10, 2, .ldc 176, 0, 0, (-1000000001)), (12, 1, .ireturn, 0, 0, 0), (13, 1, .aload_n 0, 0, 0, 0), (14, 3, .getfield 28, 9, 7, 0), (17, 1, .iload_n 1, 0, 0, 0), (18, 1, .baload, 0, 0, 0), (19, 3, .ifCond .ne 6, 0, 0, 0), (22, 2, .ldc 218, 0, 0, (-1000000003)), (24, 1, .ireturn, 0, 0, 0), (25, 1, .aload_n 0, 0, 0, 0), (26, 3, .getfield 25, 9, 6, 0), (29, 2, .bipush 45, 0, 0, 0), (31, 1, .iload_n 1, 0, 0, 0), (32, 1, .imul, 0, 0, 0), (33, 1, .aload_n 0, 0, 0, 0), (34, 3, .getfield 16, 9, 2, 0), (37, 1, .iconst 0, 0, 0, 0), (38, 2, .bipush 44, 0, 0, 0), (40, 3, .invokestatic 54, 164, 5, (-1)), (43, 1, .aload_n 0, 0, 0, 0), (44, 1, .aload_n 0, 0, 0, 0), (45, 3, .getfield 25, 9, 6, 0), (48, 2, .bipush 45, 0, 0, 0), (50, 1, .iload_n 1, 0, 0, 0), (51, 1, .imul, 0, 0, 0), (52, 2, .bipush 44, 0, 0, 0), (54, 1, .iadd, 0, 0, 0), (55, 1, .iaload, 0, 0, 0), (56, 1, .i2l, 0, 0, 0), (57, 3, .putfield 231, 9, 8, 0), (60, 1, .aload_n 0, 0, 0, 0), (61, 1, .iconst 0, 0, 0, 0), (62, 3, .putfield 58, 9, 5, 0), (65, 1, .iconst 1, 0, 0, 0), (66, 1, .ireturn, 0, 0, 0)]
abbrev m_X12_goBack : Nat := 242
def zc_L_law : List zE := [(0, 3, .new 7, 0, 0, 0), (3, 1, .dup, 0, 0, 0), (4, 3, .invokespecial 9, 0, 0, 0), (7, 1, .astore_n 1, 0, 0, 0), (8, 3, .new 10, 0, 0, 0), (11, 1, .dup, 0, 0, 0), (12, 3, .invokespecial 12, 0, 0, 0), (15, 1, .astore_n 2, 0, 0, 0), (16, 1, .iconst 0, 0, 0, 0), (17, 1, .istore_n 3, 0, 0, 0), (18, 1, .iload_n 3, 0, 0, 0), (19, 1, .aload_n 0, 0, 0, 0), (20, 1, .arraylength, 0, 0, 0), (21, 1, .iconst 5, 0, 0, 0), (22, 1, .isub, 0, 0, 0), (23, 3, .if_icmp .gt 1230, 0, 0, 0), (26, 1, .aload_n 0, 0, 0, 0), (27, 1, .iload_n 3, 0, 0, 0), (28, 1, .iaload, 0, 0, 0), (29, 2, .bipush 63, 0, 0, 0), (31, 1, .iand, 0, 0, 0), (32, 164, .tableswitch 1215 0 36 #[164, 187, 200, 213, 236, 269, 312, 345, 378, 411, 434, 467, 500, 533, 566, 589, 612, 645, 668, 701, 744, 787, 840, 873, 896, 919, 952, 975, 1008, 1041, 1064, 1077, 1120, 1133, 1146, 1169, 1192], 0, 0, 0), (196, 1, .aload_n 1, 0, 0, 0), (197, 1, .aload_n 0, 0, 0, 0), (198, 1, .iload_n 3, 0, 0, 0), (199, 1, .iconst 1, 0, 0, 0), (200, 1, .iadd, 0, 0, 0), (201, 1, .iaload, 0, 0, 0), (202, 3, .invokevirtual 13, 116, 2, 1), (205, 1, .aload_n 2, 0, 0, 0), (206, 1, .aload_n 0, 0, 0, 0), (207, 1, .iload_n 3, 0, 0, 0), (208, 1, .iconst 1, 0, 0, 0), (209, 1, .iadd, 0, 0, 0), (210, 1, .iaload, 0, 0, 0), (211, 3, .invokevirtual 17, 166, 2, 9), (214, 3, .if_icmp .eq 1033, 0, 0, 0), (217, 1, .iconst 0, 0, 0, 0), (218, 1, .ireturn, 0, 0, 0), (219, 1, .aload_n 1, 0, 0, 0), (220, 3, .invokevirtual 18, 117, 1, 1), (223, 1, .aload_n 2, 0, 0, 0), (224, 3, .invokevirtual 22, 178, 1, 9), (227, 3, .if_icmp .eq 1020, 0, 0, 0), (230, 1, .iconst 0, 0, 0, 0), (231, 1, .ireturn, 0, 0, 0), (232, 1, .aload_n 1, 0, 0, 0), (233, 3, .invokevirtual 23, 118, 1, 1), (236, 1, .aload_n 2, 0, 0, 0), (237, 3, .invokevirtual 26, 179, 1, 9), (240, 3, .if_icmp .eq 1007, 0, 0, 0), (243, 1, .iconst 0, 0, 0, 0), (244, 1, .ireturn, 0, 0, 0), (245, 1, .aload_n 1, 0, 0, 0), (246, 1, .aload_n 0, 0, 0, 0), (247, 1, .iload_n 3, 0, 0, 0), (248, 1, .iconst 1, 0, 0, 0), (249, 1, .iadd, 0, 0, 0), (250, 1, .iaload, 0, 0, 0), (251, 3, .invokevirtual 27, 119, 2, 1), (254, 1, .aload_n 2, 0, 0, 0), (255, 1, .aload_n 0, 0, 0, 0), (256, 1, .iload_n 3, 0, 0, 0), (257, 1, .iconst 1, 0, 0, 0), (258, 1, .iadd, 0, 0, 0), (259, 1, .iaload, 0, 0, 0), (260, 3, .invokevirtual 30, 192, 2, 9), (263, 3, .if_icmp .eq 984, 0, 0, 0), (266, 1, .iconst 0, 0, 0, 0), (267, 1, .ireturn, 0, 0, 0), (268, 1, .aload_n 1, 0, 0, 0), (269, 1, .aload_n 0, 0, 0, 0), (270, 1, .iload_n 3, 0, 0, 0), (271, 1, .iconst 1, 0, 0, 0), (272, 1, .iadd, 0, 0, 0), (273, 1, .iaload, 0, 0, 0), (274, 1, .aload_n 0, 0, 0, 0), (275, 1, .iload_n 3, 0, 0, 0), (276, 1, .iconst 2, 0, 0, 0), (277, 1, .iadd, 0, 0, 0), (278, 1, .iaload, 0, 0, 0), (279, 3, .invokevirtual 31, 120, 3, 1), (282, 1, .aload_n 2, 0, 0, 0), (283, 1, .aload_n 0, 0, 0, 0), (284, 1, .iload_n 3, 0, 0, 0), (285, 1, .iconst 1, 0, 0, 0), (286, 1, .iadd, 0, 0, 0), (287, 1, .iaload, 0, 0, 0), (288, 1, .aload_n 0, 0, 0, 0), (289, 1, .iload_n 3, 0, 0, 0), (290, 1, .iconst 2, 0, 0, 0), (291, 1, .iadd, 0, 0, 0), (292, 1, .iaload, 0, 0, 0), (293, 3, .invokevirtual 35, 193, 3, 9), (296, 3, .if_icmp .eq 951, 0, 0, 0), (299, 1, .iconst 0, 0, 0, 0), (300, 1, .ireturn, 0, 0, 0), (301, 1, .aload_n 1, 0, 0, 0), (302, 1, .aload_n 0, 0, 0, 0), (303, 1, .iload_n 3, 0, 0, 0), (304, 1, .iconst 1, 0, 0, 0), (305, 1, .iadd, 0, 0, 0), (306, 1, .iaload, 0, 0, 0), (307, 1, .aload_n 0, 0, 0, 0), (308, 1, .iload_n 3, 0, 0, 0), (309, 1, .iconst 2, 0, 0, 0), (310, 1, .iadd, 0, 0, 0), (311, 1, .iaload, 0, 0, 0), (312, 1, .aload_n 0, 0, 0, 0), (313, 1, .iload_n 3, 0, 0, 0), (314, 1, .iconst 3, 0, 0, 0), (315, 1, .iadd, 0, 0, 0), (316, 1, .iaload, 0, 0, 0), (317, 3, .invokevirtual 36, 121, 4, 1), (320, 1, .aload_n 2, 0, 0, 0), (321, 1, .aload_n 0, 0, 0, 0), (322, 1, .iload_n 3, 0, 0, 0), (323, 1, .iconst 1, 0, 0, 0), (324, 1, .iadd, 0, 0, 0), (325, 1, .iaload, 0, 0, 0), (326, 1, .aload_n 0, 0, 0, 0), (327, 1, .iload_n 3, 0, 0, 0), (328, 1, .iconst 2, 0, 0, 0), (329, 1, .iadd, 0, 0, 0), (330, 1, .iaload, 0, 0, 0), (331, 1, .aload_n 0, 0, 0, 0), (332, 1, .iload_n 3, 0, 0, 0), (333, 1, .iconst 3, 0, 0, 0), (334, 1, .iadd, 0, 0, 0), (335, 1, .iaload, 0, 0, 0), (336, 3, .invokevirtual 40, 194, 4, 9), (339, 3, .if_icmp .eq 908, 0, 0, 0), (342, 1, .iconst 0, 0, 0, 0), (343, 1, .ireturn, 0, 0, 0), (344, 1, .aload_n 1, 0, 0, 0), (345, 1, .aload_n 0, 0, 0, 0), (346, 1, .iload_n 3, 0, 0, 0), (347, 1, .iconst 1, 0, 0, 0), (348, 1, .iadd, 0, 0, 0), (349, 1, .iaload, 0, 0, 0), (350, 1, .aload_n 0, 0, 0, 0), (351, 1, .iload_n 3, 0, 0, 0), (352, 1, .iconst 2, 0, 0, 0), (353, 1, .iadd, 0, 0, 0), (354, 1, .iaload, 0, 0, 0), (355, 3, .invokevirtual 41, 122, 3, 1), (358, 1, .aload_n 2, 0, 0, 0), (359, 1, .aload_n 0, 0, 0, 0), (360, 1, .iload_n 3, 0, 0, 0), (361, 1, .iconst 1, 0, 0, 0), (362, 1, .iadd, 0, 0, 0), (363, 1, .iaload, 0, 0, 0), (364, 1, .aload_n 0, 0, 0, 0), (365, 1, .iload_n 3, 0, 0, 0), (366, 1, .iconst 2, 0, 0, 0), (367, 1, .iadd, 0, 0, 0), (368, 1, .iaload, 0, 0, 0), (369, 3, .invokevirtual 44, 195, 3, 9), (372, 3, .if_icmp .eq 875, 0, 0, 0), (375, 1, .iconst 0, 0, 0, 0), (376, 1, .ireturn, 0, 0, 0), (377, 1, .aload_n 1, 0, 0, 0), (378, 1, .aload_n 0, 0, 0, 0), (379, 1, .iload_n 3, 0, 0, 0), (380, 1, .iconst 1, 0, 0, 0), (381, 1, .iadd, 0, 0, 0), (382, 1, .iaload, 0, 0, 0), (383, 1, .aload_n 0, 0, 0, 0), (384, 1, .iload_n 3, 0, 0, 0), (385, 1, .iconst 2, 0, 0, 0), (386, 1, .iadd, 0, 0, 0), (387, 1, .iaload, 0, 0, 0), (388, 3, .invokevirtual 45, 123, 3, 1), (391, 1, .aload_n 2, 0, 0, 0), (392, 1, .aload_n 0, 0, 0, 0), (393, 1, .iload_n 3, 0, 0, 0), (394, 1, .iconst 1, 0, 0, 0), (395, 1, .iadd, 0, 0, 0), (396, 1, .iaload, 0, 0, 0), (397, 1, .aload_n 0, 0, 0, 0), (398, 1, .iload_n 3, 0, 0, 0), (399, 1, .iconst 2, 0, 0, 0), (400, 1, .iadd, 0, 0, 0), (401, 1, .iaload, 0, 0, 0), (402, 3, .invokevirtual 48, 196, 3, 9), (405, 3, .if_icmp .eq 842, 0, 0, 0), (408, 1, .iconst 0, 0, 0, 0), (409, 1, .ireturn, 0, 0, 0), (410, 1, .aload_n 1, 0, 0, 0), (411, 1, .aload_n 0, 0, 0, 0), (412, 1, .iload_n 3, 0, 0, 0), (413, 1, .iconst 1, 0, 0, 0), (414, 1, .iadd, 0, 0, 0), (415, 1, .iaload, 0, 0, 0), (416, 1, .aload_n 0, 0, 0, 0), (417, 1, .iload_n 3, 0, 0, 0), (418, 1, .iconst 2, 0, 0, 0), (419, 1, .iadd, 0, 0, 0), (420, 1, .iaload, 0, 0, 0), (421, 3, .invokevirtual 49, 124, 3, 1), (424, 1, .aload_n 2, 0, 0, 0), (425, 1, .aload_n 0, 0, 0, 0), (426, 1, .iload_n 3, 0, 0, 0), (427, 1, .iconst 1, 0, 0, 0), (428, 1, .iadd, 0, 0, 0), (429, 1, .iaload, 0, 0, 0), (430, 1, .aload_n 0, 0, 0, 0), (431, 1, .iload_n 3, 0, 0, 0), (432, 1, .iconst 2, 0, 0, 0), (433, 1, .iadd, 0, 0, 0), (434, 1, .iaload, 0, 0, 0), (435, 3, .invokevirtual 52, 197, 3, 9), (438, 3, .if_icmp .eq 809, 0, 0, 0), (441, 1, .iconst 0, 0, 0, 0), (442, 1, .ireturn, 0, 0, 0), (443, 1, .aload_n 1, 0, 0, 0), (444, 1, .aload_n 0, 0, 0, 0), (445, 1, .iload_n 3, 0, 0, 0), (446, 1, .iconst 1, 0, 0, 0), (447, 1, .iadd, 0, 0, 0), (448, 1, .iaload, 0, 0, 0), (449, 3, .invokevirtual 53, 125, 2, 1), (452, 1, .aload_n 2, 0, 0, 0), (453, 1, .aload_n 0, 0, 0, 0), (454, 1, .iload_n 3, 0, 0, 0), (455, 1, .iconst 1, 0, 0, 0), (456, 1, .iadd, 0, 0, 0), (457, 1, .iaload, 0, 0, 0), (458, 3, .invokevirtual 56, 205, 2, 9), (461, 3, .if_icmp .eq 786, 0, 0, 0), (464, 1, .iconst 0, 0, 0, 0), (465, 1, .ireturn, 0, 0, 0), (466, 1, .aload_n 1, 0, 0, 0), (467, 1, .aload_n 0, 0, 0, 0), (468, 1, .iload_n 3, 0, 0, 0), (469, 1, .iconst 1, 0, 0, 0), (470, 1, .iadd, 0, 0, 0), (471, 1, .iaload, 0, 0, 0), (472, 1, .aload_n 0, 0, 0, 0), (473, 1, .iload_n 3, 0, 0, 0), (474, 1, .iconst 2, 0, 0, 0), (475, 1, .iadd, 0, 0, 0), (476, 1, .iaload, 0, 0, 0), (477, 3, .invokevirtual 57, 126, 3, 1), (480, 1, .aload_n 2, 0, 0, 0), (481, 1, .aload_n 0, 0, 0, 0), (482, 1, .iload_n 3, 0, 0, 0), (483, 1, .iconst 1, 0, 0, 0), (484, 1, .iadd, 0, 0, 0), (485, 1, .iaload, 0, 0, 0), (486, 1, .aload_n 0, 0, 0, 0), (487, 1, .iload_n 3, 0, 0, 0), (488, 1, .iconst 2, 0, 0, 0), (489, 1, .iadd, 0, 0, 0), (490, 1, .iaload, 0, 0, 0), (491, 3, .invokevirtual 60, 206, 3, 9), (494, 3, .if_icmp .eq 753, 0, 0, 0), (497, 1, .iconst 0, 0, 0, 0), (498, 1, .ireturn, 0, 0, 0), (499, 1, .aload_n 1, 0, 0, 0), (500, 1, .aload_n 0, 0, 0, 0), (501, 1, .iload_n 3, 0, 0, 0), (502, 1, .iconst 1, 0, 0, 0), (503, 1, .iadd, 0, 0, 0), (504, 1, .iaload, 0, 0, 0), (505, 1, .aload_n 0, 0, 0, 0), (506, 1, .iload_n 3, 0, 0, 0), (507, 1, .iconst 2, 0, 0, 0), (508, 1, .iadd, 0, 0, 0), (509, 1, .iaload, 0, 0, 0), (510, 3, .invokevirtual 61, 127, 3, 1), (513, 1, .aload_n 2, 0, 0, 0), (514, 1, .aload_n 0, 0, 0, 0), (515, 1, .iload_n 3, 0, 0, 0), (516, 1, .iconst 1, 0, 0, 0), (517, 1, .iadd, 0, 0, 0), (518, 1, .iaload, 0, 0, 0), (519, 1, .aload_n 0, 0, 0, 0), (520, 1, .iload_n 3, 0, 0, 0), (521, 1, .iconst 2, 0, 0, 0), (522, 1, .iadd, 0, 0, 0), (523, 1, .iaload, 0, 0, 0), (524, 3, .invokevirtual 64, 207, 3, 9), (527, 3, .if_icmp .eq 720, 0, 0, 0), (530, 1, .iconst 0, 0, 0, 0), (531, 1, .ireturn, 0, 0, 0), (532, 1, .aload_n 1, 0, 0, 0), (533, 1, .aload_n 0, 0, 0, 0), (534, 1, .iload_n 3, 0, 0, 0), (535, 1, .iconst 1, 0, 0, 0), (536, 1, .iadd, 0, 0, 0), (537, 1, .iaload, 0, 0, 0), (538, 1, .aload_n 0, 0, 0, 0), (539, 1, .iload_n 3, 0, 0, 0), (540, 1, .iconst 2, 0, 0, 0), (541, 1, .iadd, 0, 0, 0), (542, 1, .iaload, 0, 0, 0), (543, 3, .invokevirtual 65, 128, 3, 1), (546, 1, .aload_n 2, 0, 0, 0), (547, 1, .aload_n 0, 0, 0, 0), (548, 1, .iload_n 3, 0, 0, 0), (549, 1, .iconst 1, 0, 0, 0), (550, 1, .iadd, 0, 0, 0), (551, 1, .iaload, 0, 0, 0), (552, 1, .aload_n 0, 0, 0, 0), (553, 1, .iload_n 3, 0, 0, 0), (554, 1, .iconst 2, 0, 0, 0), (555, 1, .iadd, 0, 0, 0), (556, 1, .iaload, 0, 0, 0), (557, 3, .invokevirtual 68, 208, 3, 9), (560, 3, .if_icmp .eq 687, 0, 0, 0), (563, 1, .iconst 0, 0, 0, 0), (564, 1, .ireturn, 0, 0, 0), (565, 1, .aload_n 1, 0, 0, 0), (566, 1, .aload_n 0, 0, 0, 0), (567, 1, .iload_n 3, 0, 0, 0), (568, 1, .iconst 1, 0, 0, 0), (569, 1, .iadd, 0, 0, 0), (570, 1, .iaload, 0, 0, 0), (571, 1, .aload_n 0, 0, 0, 0), (572, 1, .iload_n 3, 0, 0, 0), (573, 1, .iconst 2, 0, 0, 0), (574, 1, .iadd, 0, 0, 0), (575, 1, .iaload, 0, 0, 0), (576, 3, .invokevirtual 69, 129, 3, 1), (579, 1, .aload_n 2, 0, 0, 0), (580, 1, .aload_n 0, 0, 0, 0), (581, 1, .iload_n 3, 0, 0, 0), (582, 1, .iconst 1, 0, 0, 0), (583, 1, .iadd, 0, 0, 0), (584, 1, .iaload, 0, 0, 0), (585, 1, .aload_n 0, 0, 0, 0), (586, 1, .iload_n 3, 0, 0, 0), (587, 1, .iconst 2, 0, 0, 0), (588, 1, .iadd, 0, 0, 0), (589, 1, .iaload, 0, 0, 0), (590, 3, .invokevirtual 72, 209, 3, 9), (593, 3, .if_icmp .eq 654, 0, 0, 0), (596, 1, .iconst 0, 0, 0, 0), (597, 1, .ireturn, 0, 0, 0), (598, 1, .aload_n 1, 0, 0, 0), (599, 1, .aload_n 0, 0, 0, 0), (600, 1, .iload_n 3, 0, 0, 0), (601, 1, .iconst 1, 0, 0, 0), (602, 1, .iadd, 0, 0, 0), (603, 1, .iaload, 0, 0, 0), (604, 3, .invokevirtual 73, 130, 2, 1), (607, 1, .aload_n 2, 0, 0, 0), (608, 1, .aload_n 0, 0, 0, 0), (609, 1, .iload_n 3, 0, 0, 0), (610, 1, .iconst 1, 0, 0, 0), (611, 1, .iadd, 0, 0, 0), (612, 1, .iaload, 0, 0, 0), (613, 3, .invokevirtual 76, 212, 2, 9), (616, 3, .if_icmp .eq 631, 0, 0, 0), (619, 1, .iconst 0, 0, 0, 0), (620, 1, .ireturn, 0, 0, 0), (621, 1, .aload_n 1, 0, 0, 0), (622, 1, .aload_n 0, 0, 0, 0), (623, 1, .iload_n 3, 0, 0, 0), (624, 1, .iconst 1, 0, 0, 0), (625, 1, .iadd, 0, 0, 0), (626, 1, .iaload, 0, 0, 0), (627, 3, .invokevirtual 77, 131, 2, 1), (630, 1, .aload_n 2, 0, 0, 0), (631, 1, .aload_n 0, 0, 0, 0), (632, 1, .iload_n 3, 0, 0, 0), (633, 1, .iconst 1, 0, 0, 0), (634, 1, .iadd, 0, 0, 0), (635, 1, .iaload, 0, 0, 0), (636, 3, .invokevirtual 80, 213, 2, 9), (639, 3, .if_icmp .eq 608, 0, 0, 0), (642, 1, .iconst 0, 0, 0, 0), (643, 1, .ireturn, 0, 0, 0), (644, 1, .aload_n 1, 0, 0, 0), (645, 1, .aload_n 0, 0, 0, 0), (646, 1, .iload_n 3, 0, 0, 0), (647, 1, .iconst 1, 0, 0, 0), (648, 1, .iadd, 0, 0, 0), (649, 1, .iaload, 0, 0, 0), (650, 1, .aload_n 0, 0, 0, 0), (651, 1, .iload_n 3, 0, 0, 0), (652, 1, .iconst 2, 0, 0, 0), (653, 1, .iadd, 0, 0, 0), (654, 1, .iaload, 0, 0, 0), (655, 3, .invokevirtual 81, 132, 3, 1), (658, 1, .aload_n 2, 0, 0, 0), (659, 1, .aload_n 0, 0, 0, 0), (660, 1, .iload_n 3, 0, 0, 0), (661, 1, .iconst 1, 0, 0, 0), (662, 1, .iadd, 0, 0, 0), (663, 1, .iaload, 0, 0, 0), (664, 1, .aload_n 0, 0, 0, 0), (665, 1, .iload_n 3, 0, 0, 0), (666, 1, .iconst 2, 0, 0, 0), (667, 1, .iadd, 0, 0, 0), (668, 1, .iaload, 0, 0, 0), (669, 3, .invokevirtual 84, 215, 3, 9), (672, 3, .if_icmp .eq 575, 0, 0, 0), (675, 1, .iconst 0, 0, 0, 0), (676, 1, .ireturn, 0, 0, 0), (677, 1, .aload_n 1, 0, 0, 0), (678, 1, .aload_n 0, 0, 0, 0), (679, 1, .iload_n 3, 0, 0, 0), (680, 1, .iconst 1, 0, 0, 0), (681, 1, .iadd, 0, 0, 0), (682, 1, .iaload, 0, 0, 0), (683, 3, .invokevirtual 85, 133, 2, 1), (686, 1, .aload_n 2, 0, 0, 0), (687, 1, .aload_n 0, 0, 0, 0), (688, 1, .iload_n 3, 0, 0, 0), (689, 1, .iconst 1, 0, 0, 0), (690, 1, .iadd, 0, 0, 0), (691, 1, .iaload, 0, 0, 0), (692, 3, .invokevirtual 88, 216, 2, 9), (695, 3, .if_icmp .eq 552, 0, 0, 0), (698, 1, .iconst 0, 0, 0, 0), (699, 1, .ireturn, 0, 0, 0), (700, 1, .aload_n 1, 0, 0, 0), (701, 1, .aload_n 0, 0, 0, 0), (702, 1, .iload_n 3, 0, 0, 0), (703, 1, .iconst 1, 0, 0, 0), (704, 1, .iadd, 0, 0, 0), (705, 1, .iaload, 0, 0, 0), (706, 1, .aload_n 0, 0, 0, 0), (707, 1, .iload_n 3, 0, 0, 0), (708, 1, .iconst 2, 0, 0, 0), (709, 1, .iadd, 0, 0, 0), (710, 1, .iaload, 0, 0, 0), (711, 3, .invokevirtual 89, 134, 3, 1), (714, 1, .aload_n 2, 0, 0, 0), (715, 1, .aload_n 0, 0, 0, 0), (716, 1, .iload_n 3, 0, 0, 0), (717, 1, .iconst 1, 0, 0, 0), (718, 1, .iadd, 0, 0, 0), (719, 1, .iaload, 0, 0, 0), (720, 1, .aload_n 0, 0, 0, 0), (721, 1, .iload_n 3, 0, 0, 0), (722, 1, .iconst 2, 0, 0, 0), (723, 1, .iadd, 0, 0, 0), (724, 1, .iaload, 0, 0, 0), (725, 3, .invokevirtual 92, 217, 3, 9), (728, 3, .if_icmp .eq 519, 0, 0, 0), (731, 1, .iconst 0, 0, 0, 0), (732, 1, .ireturn, 0, 0, 0), (733, 1, .aload_n 1, 0, 0, 0), (734, 1, .aload_n 0, 0, 0, 0), (735, 1, .iload_n 3, 0, 0, 0), (736, 1, .iconst 1, 0, 0, 0), (737, 1, .iadd, 0, 0, 0), (738, 1, .iaload, 0, 0, 0), (739, 1, .aload_n 0, 0, 0, 0), (740, 1, .iload_n 3, 0, 0, 0), (741, 1, .iconst 2, 0, 0, 0), (742, 1, .iadd, 0, 0, 0), (743, 1, .iaload, 0, 0, 0), (744, 1, .aload_n 0, 0, 0, 0), (745, 1, .iload_n 3, 0, 0, 0), (746, 1, .iconst 3, 0, 0, 0), (747, 1, .iadd, 0, 0, 0), (748, 1, .iaload, 0, 0, 0), (749, 3, .invokevirtual 93, 135, 4, 1), (752, 1, .aload_n 2, 0, 0, 0), (753, 1, .aload_n 0, 0, 0, 0), (754, 1, .iload_n 3, 0, 0, 0), (755, 1, .iconst 1, 0, 0, 0), (756, 1, .iadd, 0, 0, 0), (757, 1, .iaload, 0, 0, 0), (758, 1, .aload_n 0, 0, 0, 0), (759, 1, .iload_n 3, 0, 0, 0), (760, 1, .iconst 2, 0, 0, 0), (761, 1, .iadd, 0, 0, 0), (762, 1, .iaload, 0, 0, 0), (763, 1, .aload_n 0, 0, 0, 0), (764, 1, .iload_n 3, 0, 0, 0), (765, 1, .iconst 3, 0, 0, 0), (766, 1, .iadd, 0, 0, 0), (767, 1, .iaload, 0, 0, 0), (768, 3, .invokevirtual 96, 220, 4, 9), (771, 3, .if_icmp .eq 476, 0, 0, 0), (774, 1, .iconst 0, 0, 0, 0), (775, 1, .ireturn, 0, 0, 0), (776, 1, .aload_n 1, 0, 0, 0), (777, 1, .aload_n 0, 0, 0, 0), (778, 1, .iload_n 3, 0, 0, 0), (779, 1, .iconst 1, 0, 0, 0), (780, 1, .iadd, 0, 0, 0), (781, 1, .iaload, 0, 0, 0), (782, 1, .aload_n 0, 0, 0, 0), (783, 1, .iload_n 3, 0, 0, 0), (784, 1, .iconst 2, 0, 0, 0), (785, 1, .iadd, 0, 0, 0), (786, 1, .iaload, 0, 0, 0), (787, 1, .aload_n 0, 0, 0, 0), (788, 1, .iload_n 3, 0, 0, 0), (789, 1, .iconst 3, 0, 0, 0), (790, 1, .iadd, 0, 0, 0), (791, 1, .iaload, 0, 0, 0), (792, 3, .invokevirtual 97, 136, 4, 1), (795, 1, .aload_n 2, 0, 0, 0), (796, 1, .aload_n 0, 0, 0, 0), (797, 1, .iload_n 3, 0, 0, 0), (798, 1, .iconst 1, 0, 0, 0), (799, 1, .iadd, 0, 0, 0), (800, 1, .iaload, 0, 0, 0), (801, 1, .aload_n 0, 0, 0, 0), (802, 1, .iload_n 3, 0, 0, 0), (803, 1, .iconst 2, 0, 0, 0), (804, 1, .iadd, 0, 0, 0), (805, 1, .iaload, 0, 0, 0), (806, 1, .aload_n 0, 0, 0, 0), (807, 1, .iload_n 3, 0, 0, 0), (808, 1, .iconst 3, 0, 0, 0), (809, 1, .iadd, 0, 0, 0), (810, 1, .iaload, 0, 0, 0), (811, 3, .invokevirtual 100, 221, 4, 9), (814, 3, .if_icmp .eq 433, 0, 0, 0), (817, 1, .iconst 0, 0, 0, 0), (818, 1, .ireturn, 0, 0, 0), (819, 1, .aload_n 1, 0, 0, 0), (820, 1, .aload_n 0, 0, 0, 0), (821, 1, .iload_n 3, 0, 0, 0), (822, 1, .iconst 1, 0, 0, 0), (823, 1, .iadd, 0, 0, 0), (824, 1, .iaload, 0, 0, 0), (825, 1, .aload_n 0, 0, 0, 0), (826, 1, .iload_n 3, 0, 0, 0), (827, 1, .iconst 2, 0, 0, 0), (828, 1, .iadd, 0, 0, 0), (829, 1, .iaload, 0, 0, 0), (830, 1, .aload_n 0, 0, 0, 0), (831, 1, .iload_n 3, 0, 0, 0), (832, 1, .iconst 3, 0, 0, 0), (833, 1, .iadd, 0, 0, 0), (834, 1, .iaload, 0, 0, 0), (835, 1, .aload_n 0, 0, 0, 0), (836, 1, .iload_n 3, 0, 0, 0), (837, 1, .iconst 4, 0, 0, 0), (838, 1, .iadd, 0, 0, 0), (839, 1, .iaload, 0, 0, 0), (840, 3, .invokevirtual 101, 137, 5, 1), (843, 1, .aload_n 2, 0, 0, 0), (844, 1, .aload_n 0, 0, 0, 0), (845, 1, .iload_n 3, 0, 0, 0), (846, 1, .iconst 1, 0, 0, 0), (847, 1, .iadd, 0, 0, 0), (848, 1, .iaload, 0, 0, 0), (849, 1, .aload_n 0, 0, 0, 0), (850, 1, .iload_n 3, 0, 0, 0), (851, 1, .iconst 2, 0, 0, 0), (852, 1, .iadd, 0, 0, 0), (853, 1, .iaload, 0, 0, 0), (854, 1, .aload_n 0, 0, 0, 0), (855, 1, .iload_n 3, 0, 0, 0), (856, 1, .iconst 3, 0, 0, 0), (857, 1, .iadd, 0, 0, 0), (858, 1, .iaload, 0, 0, 0), (859, 1, .aload_n 0, 0, 0, 0), (860, 1, .iload_n 3, 0, 0, 0), (861, 1, .iconst 4, 0, 0, 0), (862, 1, .iadd, 0, 0, 0), (863, 1, .iaload, 0, 0, 0), (864, 3, .invokevirtual 105, 222, 5, 9), (867, 3, .if_icmp .eq 380, 0, 0, 0), (870, 1, .iconst 0, 0, 0, 0), (871, 1, .ireturn, 0, 0, 0), (872, 1, .aload_n 1, 0, 0, 0), (873, 1, .aload_n 0, 0, 0, 0), (874, 1, .iload_n 3, 0, 0, 0), (875, 1, .iconst 1, 0, 0, 0), (876, 1, .iadd, 0, 0, 0), (877, 1, .iaload, 0, 0, 0), (878, 1, .aload_n 0, 0, 0, 0), (879, 1, .iload_n 3, 0, 0, 0), (880, 1, .iconst 2, 0, 0, 0), (881, 1, .iadd, 0, 0, 0), (882, 1, .iaload, 0, 0, 0), (883, 3, .invokevirtual 106, 138, 3, 1), (886, 1, .aload_n 2, 0, 0, 0), (887, 1, .aload_n 0, 0, 0, 0), (888, 1, .iload_n 3, 0, 0, 0), (889, 1, .iconst 1, 0, 0, 0), (890, 1, .iadd, 0, 0, 0), (891, 1, .iaload, 0, 0, 0), (892, 1, .aload_n 0, 0, 0, 0), (893, 1, .iload_n 3, 0, 0, 0), (894, 1, .iconst 2, 0, 0, 0), (895, 1, .iadd, 0, 0, 0), (896, 1, .iaload, 0, 0, 0), (897, 3, .invokevirtual 109, 224, 3, 9), (900, 3, .if_icmp .eq 347, 0, 0, 0), (903, 1, .iconst 0, 0, 0, 0), (904, 1, .ireturn, 0, 0, 0), (905, 1, .aload_n 1, 0, 0, 0), (906, 1, .aload_n 0, 0, 0, 0), (907, 1, .iload_n 3, 0, 0, 0), (908, 1, .iconst 1, 0, 0, 0), (909, 1, .iadd, 0, 0, 0), (910, 1, .iaload, 0, 0, 0), (911, 3, .invokevirtual 110, 139, 2, 1), (914, 1, .aload_n 2, 0, 0, 0), (915, 1, .aload_n 0, 0, 0, 0), (916, 1, .iload_n 3, 0, 0, 0), (917, 1, .iconst 1, 0, 0, 0), (918, 1, .iadd, 0, 0, 0), (919, 1, .iaload, 0, 0, 0), (920, 3, .invokevirtual 113, 226, 2, 9), (923, 3, .if_icmp .eq 324, 0, 0, 0), (926, 1, .iconst 0, 0, 0, 0), (927, 1, .ireturn, 0, 0, 0), (928, 1, .aload_n 1, 0, 0, 0), (929, 1, .aload_n 0, 0, 0, 0), (930, 1, .iload_n 3, 0, 0, 0), (931, 1, .iconst 1, 0, 0, 0), (932, 1, .iadd, 0, 0, 0), (933, 1, .iaload, 0, 0, 0), (934, 3, .invokevirtual 114, 140, 2, 1), (937, 1, .aload_n 2, 0, 0, 0), (938, 1, .aload_n 0, 0, 0, 0), (939, 1, .iload_n 3, 0, 0, 0), (940, 1, .iconst 1, 0, 0, 0), (941, 1, .iadd, 0, 0, 0), (942, 1, .iaload, 0, 0, 0), (943, 3, .invokevirtual 117, 228, 2, 9), (946, 3, .if_icmp .eq 301, 0, 0, 0), (949, 1, .iconst 0, 0, 0, 0), (950, 1, .ireturn, 0, 0, 0), (951, 1, .aload_n 1, 0, 0, 0), (952, 1, .aload_n 0, 0, 0, 0), (953, 1, .iload_n 3, 0, 0, 0), (954, 1, .iconst 1, 0, 0, 0), (955, 1, .iadd, 0, 0, 0), (956, 1, .iaload, 0, 0, 0), (957, 1, .aload_n 0, 0, 0, 0), (958, 1, .iload_n 3, 0, 0, 0), (959, 1, .iconst 2, 0, 0, 0), (960, 1, .iadd, 0, 0, 0), (961, 1, .iaload, 0, 0, 0), (962, 3, .invokevirtual 118, 141, 3, 1), (965, 1, .aload_n 2, 0, 0, 0), (966, 1, .aload_n 0, 0, 0, 0), (967, 1, .iload_n 3, 0, 0, 0), (968, 1, .iconst 1, 0, 0, 0), (969, 1, .iadd, 0, 0, 0), (970, 1, .iaload, 0, 0, 0), (971, 1, .aload_n 0, 0, 0, 0), (972, 1, .iload_n 3, 0, 0, 0), (973, 1, .iconst 2, 0, 0, 0), (974, 1, .iadd, 0, 0, 0), (975, 1, .iaload, 0, 0, 0), (976, 3, .invokevirtual 121, 229, 3, 9), (979, 3, .if_icmp .eq 268, 0, 0, 0), (982, 1, .iconst 0, 0, 0, 0), (983, 1, .ireturn, 0, 0, 0), (984, 1, .aload_n 1, 0, 0, 0), (985, 1, .aload_n 0, 0, 0, 0), (986, 1, .iload_n 3, 0, 0, 0), (987, 1, .iconst 1, 0, 0, 0), (988, 1, .iadd, 0, 0, 0), (989, 1, .iaload, 0, 0, 0), (990, 3, .invokevirtual 122, 142, 2, 1), (993, 1, .aload_n 2, 0, 0, 0), (994, 1, .aload_n 0, 0, 0, 0), (995, 1, .iload_n 3, 0, 0, 0), (996, 1, .iconst 1, 0, 0, 0), (997, 1, .iadd, 0, 0, 0), (998, 1, .iaload, 0, 0, 0), (999, 3, .invokevirtual 125, 230, 2, 9), (1002, 3, .if_icmp .eq 245, 0, 0, 0), (1005, 1, .iconst 0, 0, 0, 0), (1006, 1, .ireturn, 0, 0, 0), (1007, 1, .aload_n 1, 0, 0, 0), (1008, 1, .aload_n 0, 0, 0, 0), (1009, 1, .iload_n 3, 0, 0, 0), (1010, 1, .iconst 1, 0, 0, 0), (1011, 1, .iadd, 0, 0, 0), (1012, 1, .iaload, 0, 0, 0), (1013, 1, .aload_n 0, 0, 0, 0), (1014, 1, .iload_n 3, 0, 0, 0), (1015, 1, .iconst 2, 0, 0, 0), (1016, 1, .iadd, 0, 0, 0), (1017, 1, .iaload, 0, 0, 0), (1018, 3, .invokevirtual 126, 143, 3, 1), (1021, 1, .aload_n 2, 0, 0, 0), (1022, 1, .aload_n 0, 0, 0, 0), (1023, 1, .iload_n 3, 0, 0, 0), (1024, 1, .iconst 1, 0, 0, 0), (1025, 1, .iadd, 0, 0, 0), (1026, 1, .iaload, 0, 0, 0), (1027, 1, .aload_n 0, 0, 0, 0), (1028, 1, .iload_n 3, 0, 0, 0), (1029, 1, .iconst 2, 0, 0, 0), (1030, 1, .iadd, 0, 0, 0), (1031, 1, .iaload, 0, 0, 0), (1032, 3, .invokevirtual 129, 231, 3, 9), (1035, 3, .if_icmp .eq 212, 0, 0, 0), (1038, 1, .iconst 0, 0, 0, 0), (1039, 1, .ireturn, 0, 0, 0), (1040, 1, .aload_n 1, 0, 0, 0), (1041, 1, .aload_n 0, 0, 0, 0), (1042, 1, .iload_n 3, 0, 0, 0), (1043, 1, .iconst 1, 0, 0, 0), (1044, 1, .iadd, 0, 0, 0), (1045, 1, .iaload, 0, 0, 0), (1046, 1, .aload_n 0, 0, 0, 0), (1047, 1, .iload_n 3, 0, 0, 0), (1048, 1, .iconst 2, 0, 0, 0), (1049, 1, .iadd, 0, 0, 0), (1050, 1, .iaload, 0, 0, 0), (1051, 3, .invokevirtual 130, 144, 3, 1), (1054, 1, .aload_n 2, 0, 0, 0), (1055, 1, .aload_n 0, 0, 0, 0), (1056, 1, .iload_n 3, 0, 0, 0), (1057, 1, .iconst 1, 0, 0, 0), (1058, 1, .iadd, 0, 0, 0), (1059, 1, .iaload, 0, 0, 0), (1060, 1, .aload_n 0, 0, 0, 0), (1061, 1, .iload_n 3, 0, 0, 0), (1062, 1, .iconst 2, 0, 0, 0), (1063, 1, .iadd, 0, 0, 0), (1064, 1, .iaload, 0, 0, 0), (1065, 3, .invokevirtual 133, 232, 3, 9), (1068, 3, .if_icmp .eq 179, 0, 0, 0), (1071, 1, .iconst 0, 0, 0, 0), (1072, 1, .ireturn, 0, 0, 0), (1073, 1, .aload_n 1, 0, 0, 0), (1074, 1, .aload_n 0, 0, 0, 0), (1075, 1, .iload_n 3, 0, 0, 0), (1076, 1, .iconst 1, 0, 0, 0), (1077, 1, .iadd, 0, 0, 0), (1078, 1, .iaload, 0, 0, 0), (1079, 3, .invokevirtual 134, 145, 2, 1), (1082, 1, .aload_n 2, 0, 0, 0), (1083, 1, .aload_n 0, 0, 0, 0), (1084, 1, .iload_n 3, 0, 0, 0), (1085, 1, .iconst 1, 0, 0, 0), (1086, 1, .iadd, 0, 0, 0), (1087, 1, .iaload, 0, 0, 0), (1088, 3, .invokevirtual 137, 234, 2, 9), (1091, 3, .if_icmp .eq 156, 0, 0, 0), (1094, 1, .iconst 0, 0, 0, 0), (1095, 1, .ireturn, 0, 0, 0), (1096, 1, .aload_n 1, 0, 0, 0), (1097, 3, .invokevirtual 138, 146, 1, 1), (1100, 1, .aload_n 2, 0, 0, 0), (1101, 3, .invokevirtual 141, 236, 1, 9), (1104, 3, .if_icmp .eq 143, 0, 0, 0), (1107, 1, .iconst 0, 0, 0, 0), (1108, 1, .ireturn, 0, 0, 0), (1109, 1, .aload_n 1, 0, 0, 0), (1110, 1, .aload_n 0, 0, 0, 0), (1111, 1, .iload_n 3, 0, 0, 0), (1112, 1, .iconst 1, 0, 0, 0), (1113, 1, .iadd, 0, 0, 0), (1114, 1, .iaload, 0, 0, 0), (1115, 1, .aload_n 0, 0, 0, 0), (1116, 1, .iload_n 3, 0, 0, 0), (1117, 1, .iconst 2, 0, 0, 0), (1118, 1, .iadd, 0, 0, 0), (1119, 1, .iaload, 0, 0, 0), (1120, 1, .aload_n 0, 0, 0, 0), (1121, 1, .iload_n 3, 0, 0, 0), (1122, 1, .iconst 3, 0, 0, 0), (1123, 1, .iadd, 0, 0, 0), (1124, 1, .iaload, 0, 0, 0), (1125, 3, .invokevirtual 142, 147, 4, 1), (1128, 1, .aload_n 2, 0, 0, 0), (1129, 1, .aload_n 0, 0, 0, 0), (1130, 1, .iload_n 3, 0, 0, 0), (1131, 1, .iconst 1, 0, 0, 0), (1132, 1, .iadd, 0, 0, 0), (1133, 1, .iaload, 0, 0, 0), (1134, 1, .aload_n 0, 0, 0, 0), (1135, 1, .iload_n 3, 0, 0, 0), (1136, 1, .iconst 2, 0, 0, 0), (1137, 1, .iadd, 0, 0, 0), (1138, 1, .iaload, 0, 0, 0), (1139, 1, .aload_n 0, 0, 0, 0), (1140, 1, .iload_n 3, 0, 0, 0), (1141, 1, .iconst 3, 0, 0, 0), (1142, 1, .iadd, 0, 0, 0), (1143, 1, .iaload, 0, 0, 0), (1144, 3, .invokevirtual 145, 237, 4, 9), (1147, 3, .if_icmp .eq 100, 0, 0, 0), (1150, 1, .iconst 0, 0, 0, 0), (1151, 1, .ireturn, 0, 0, 0), (1152, 1, .aload_n 1, 0, 0, 0), (1153, 3, .invokevirtual 146, 148, 1, 1), (1156, 1, .aload_n 2, 0, 0, 0), (1157, 3, .invokevirtual 149, 238, 1, 9), (1160, 3, .if_icmp .eq 87, 0, 0, 0), (1163, 1, .iconst 0, 0, 0, 0), (1164, 1, .ireturn, 0, 0, 0), (1165, 1, .aload_n 1, 0, 0, 0), (1166, 3, .invokevirtual 150, 149, 1, 1), (1169, 1, .aload_n 2, 0, 0, 0), (1170, 3, .invokevirtual 153, 239, 1, 9), (1173, 3, .if_icmp .eq 74, 0, 0, 0), (1176, 1, .iconst 0, 0, 0, 0), (1177, 1, .ireturn, 0, 0, 0), (1178, 1, .aload_n 1, 0, 0, 0), (1179, 1, .aload_n 0, 0, 0, 0), (1180, 1, .iload_n 3, 0, 0, 0), (1181, 1, .iconst 1, 0, 0, 0), (1182, 1, .iadd, 0, 0, 0), (1183, 1, .iaload, 0, 0, 0), (1184, 3, .invokevirtual 154, 150, 2, 1), (1187, 1, .aload_n 2, 0, 0, 0), (1188, 1, .aload_n 0, 0, 0, 0), (1189, 1, .iload_n 3, 0, 0, 0), (1190, 1, .iconst 1, 0, 0, 0), (1191, 1, .iadd, 0, 0, 0), (1192, 1, .iaload, 0, 0, 0), (1193, 3, .invokevirtual 157, 240, 2, 9), (1196, 3, .if_icmp .eq 51, 0, 0, 0), (1199, 1, .iconst 0, 0, 0, 0), (1200, 1, .ireturn, 0, 0, 0), (1201, 1, .aload_n 1, 0, 0, 0), (1202, 1, .aload_n 0, 0, 0, 0), (1203, 1, .iload_n 3, 0, 0, 0), (1204, 1, .iconst 1, 0, 0, 0), (1205, 1, .iadd, 0, 0, 0), (1206, 1, .iaload, 0, 0, 0), (1207, 3, .invokevirtual 158, 151, 2, 1), (1210, 1, .aload_n 2, 0, 0, 0), (1211, 1, .aload_n 0, 0, 0, 0), (1212, 1, .iload_n 3, 0, 0, 0), (1213, 1, .iconst 1, 0, 0, 0), (1214, 1, .iadd, 0, 0, 0), (1215, 1, .iaload, 0, 0, 0), (1216, 3, .invokevirtual 161, 241, 2, 9), (1219, 3, .if_icmp .eq 28, 0, 0, 0), (1222, 1, .iconst 0, 0, 0, 0), (1223, 1, .ireturn, 0, 0, 0), (1224, 1, .aload_n 1, 0, 0, 0), (1225, 1, .aload_n 0, 0, 0, 0), (1226, 1, .iload_n 3, 0, 0, 0), (1227, 1, .iconst 1, 0, 0, 0), (1228, 1, .iadd, 0, 0, 0), (1229, 1, .iaload, 0, 0, 0), (1230, 3, .invokevirtual 162, 152, 2, 1), (1233, 1, .aload_n 2, 0, 0, 0), (1234, 1, .aload_n 0, 0, 0, 0), (1235, 1, .iload_n 3, 0, 0, 0), (1236, 1, .iconst 1, 0, 0, 0), (1237, 1, .iadd, 0, 0, 0), (1238, 1, .iaload, 0, 0, 0), (1239, 3, .invokevirtual 165, 242, 2, 9), (1242, 3, .if_icmp .eq 5, 0, 0, 0), (1245, 1, .iconst 0, 0, 0, 0), (1246, 1, .ireturn, 0, 0, 0), (1247, 3, .iinc 3 5, 0, 0, 0), (1250, 3, .goto (-1232), 0, 0, 0), (1253, 1, .iconst 1, 0, 0, 0), (1254, 1, .ireturn, 0, 0, 0)]
abbrev m_L_law : Nat := 243
def zCT : List (List zE) := [[], zc_J6_bitCount_0f7a4, zc_J9_abs_0f7a4, zc_J9_max_7cf53, zc_J9_min_7cf53, zc_J7_fill_53178, zc_X0_alike, zc_X0_bestShift, zc_X0_barsToTurn, zc_X1_clear, zc_X1_become, zc_X1_hasRoom, zc_X1_hasBar, zc_X1_hasPerson, zc_X1_hasWall, zc_X1_hasUnder, zc_X1_barsOf, zc_X1_paperOf, zc_X1_underOf, zc_X1_personPart, zc_X1_wallPart, zc_X1_putPaper, zc_X1_putUnder, zc_X1_putPerson, zc_X1_putWall, zc_X1_addRoom, zc_X2_forget, zc_X2_has, zc_X2_store, zc_X2_restore, zc_X2_chanceOf, zc_X3_begin, zc_X3_become, zc_X3_liftedIn, zc_X3_liftedInAll, zc_X3_isLifted, zc_X3_turn, zc_X3_reads, zc_X3_readsRound, zc_X3_roomOf, zc_X3_placeOf, zc_X3_paceOf, zc_X3_readBy, zc_X3_isAt, zc_X3_setPlace, zc_X3_setPace, zc_X3_addMeeting, zc_X3_loggedNow, zc_X3_meeting, zc_X4_reckon, zc_X4_fewestBars, zc_X4_leastNumber, zc_X4_barsBehind, zc_X4_firstBest, zc_X4_barsWith, zc_X5_anHour, zc_X5_areAtOneWall, zc_X5_goOn, zc_X5_meetThrough, zc_X5_isAtA, zc_X5_isAtB, zc_X5_dampLifts, zc_X6_size, zc_X6_forget, zc_X6_add, zc_X6_takeBack, zc_X6_kept, zc_X7_letters, zc_X7_place, zc_X7_draft, zc_X7_add, zc_X7_read, zc_X7_readClause, zc_X7_readDamp, zc_X7_readRoom, zc_X7_readUnder, zc_X7_readPerson, zc_X7_readWall, zc_X7_readNumber, zc_X7_expect, zc_X7_accept, zc_X7_skipBlanks, zc_X7_letter, zc_X7_isFigure, zc_X7_fail, zc_X8_keyOf, zc_X8_repeatOf, zc_X8_repeatsBy, zc_X8_openRooms, zc_X8_mostRead, zc_X8_howManyRead, zc_X8_firstThatReads, zc_X8_sharedEnd, zc_X8_endsAsBegins, zc_X8_nearestRoom, zc_X8_between, zc_X8_stepsBetween, zc_X8_oneStepOn, zc_X9_at, zc_X9_put, zc_X9_copy, zc_X9_leftOver, zc_X9_isIn, zc_X10_seen, zc_X10_entries, zc_X10_forget, zc_X10_addSeen, zc_X10_addEntry, zc_X10_firstWrong, zc_X10_findPlaces, zc_X10_found, zc_X10_firstFound, zc_X10_roomsFound, zc_X10_bestLook, zc_X10_fits, zc_X10_greatestPart, zc_X11_feed, zc_X11_house, zc_X11_fault, zc_X11_told, zc_X11_room, zc_X11_bar, zc_X11_person, zc_X11_wall, zc_X11_logged, zc_X11_hour, zc_X11_lift, zc_X11_paste, zc_X11_moveTo, zc_X11_pace, zc_X11_drift, zc_X11_undo, zc_X11_where, zc_X11_meets, zc_X11_together, zc_X11_canon, zc_X11_bestCanon, zc_X11_match, zc_X11_join, zc_X11_shortest, zc_X11_nearest, zc_X11_modulation, zc_X11_sounds, zc_X11_dry, zc_X11_see, zc_X11_places, zc_X11_lookAt, zc_X11_write, zc_X11_judge, zc_X11_tear, zc_X11_seed, zc_X11_keep, zc_X11_goBack, zc_X11_beyond, zc_X11_areTwoRooms, zc_X11_refusalOfHours, zc_X11_turnByHand, zc_X11_meetingsTried, zc_X11_draw, zc_X11_deedByDraws, zc_X12_in, zc_X12_has, zc_X12_bits, zc_X12_lesser, zc_X12_copies, zc_X12_begins, zc_X12_feed, zc_X12_here, zc_X12_step, zc_X12_fails, zc_X12_number, zc_X12_ends, zc_X12_row, zc_X12_readsRoom, zc_X12_readsUnder, zc_X12_readsPerson, zc_X12_readsWall, zc_X12_readsClause, zc_X12_house, zc_X12_fault, zc_X12_isRoom, zc_X12_isBar, zc_X12_isPerson, zc_X12_areTwo, zc_X12_turned, zc_X12_readsOn, zc_X12_reads, zc_X12_open, zc_X12_liftedInAll, zc_X12_mostRead, zc_X12_key, zc_X12_repeat, zc_X12_told, zc_X12_room, zc_X12_bar, zc_X12_person, zc_X12_wall, zc_X12_logged, zc_X12_walks, zc_X12_logs, zc_X12_isAt, zc_X12_meetings, zc_X12_hourGoes, zc_X12_remember, zc_X12_refuses, zc_X12_hour, zc_X12_lift, zc_X12_paste, zc_X12_moveTo, zc_X12_pace, zc_X12_draw, zc_X12_draws, zc_X12_drift, zc_X12_undo, zc_X12_layAside, zc_X12_where, zc_X12_meets, zc_X12_together, zc_X12_isIn, zc_X12_inCanon, zc_X12_canon, zc_X12_bestCanon, zc_X12_match, zc_X12_joinOf, zc_X12_join, zc_X12_nextOrder, zc_X12_shortest, zc_X12_apart, zc_X12_nearest, zc_X12_modulation, zc_X12_sounds, zc_X12_dry, zc_X12_see, zc_X12_isSo, zc_X12_places, zc_X12_greatestPart, zc_X12_lookAt, zc_X12_write, zc_X12_judge, zc_X12_tear, zc_X12_seed, zc_X12_keep, zc_X12_goBack, zc_L_law]
def zcode (m : Nat) : List zE := zgd zCT m []
def zRL : List Nat := [9, 1, 1, 1, 1, 0, 1, 1, 1, 0, 0, 2, 2, 2, 2, 2, 1, 1, 1, 1, 1, 0, 0, 0, 0, 0, 0, 2, 0, 0, 1, 0, 0, 1, 1, 2, 0, 1, 1, 1, 1, 1, 1, 2, 0, 0, 0, 1, 1, 0, 1, 1, 1, 1, 1, 1, 2, 0, 0, 2, 2, 0, 1, 0, 0, 0, 4, 1, 1, 4, 2, 1, 0, 0, 0, 0, 0, 0, 1, 0, 2, 0, 1, 2, 0, 1, 1, 2, 1, 1, 1, 1, 1, 2, 1, 1, 1, 1, 1, 0, 0, 1, 2, 1, 1, 0, 2, 2, 1, 0, 1, 1, 1, 1, 2, 1, 1, 1, 1, 1, 1, 1, 1, 1, 1, 1, 1, 1, 1, 1, 1, 1, 1, 1, 1, 1, 1, 1, 1, 1, 1, 1, 1, 1, 1, 1, 1, 1, 1, 1, 1, 1, 1, 2, 2, 1, 1, 1, 1, 0, 2, 2, 1, 1, 0, 0, 1, 1, 0, 2, 2, 2, 2, 2, 2, 2, 2, 2, 1, 1, 2, 2, 2, 2, 1, 1, 1, 1, 1, 1, 1, 1, 1, 1, 1, 1, 1, 1, 0, 0, 2, 1, 1, 0, 1, 1, 1, 1, 1, 1, 1, 0, 1, 1, 0, 1, 1, 1, 2, 1, 1, 1, 1, 1, 1, 2, 1, 1, 1, 1, 1, 1, 1, 2, 1, 1, 1, 1, 1, 1, 1, 1, 1, 2]
def zmk (m : Nat) : Nat := zgd zRL m 9
def zML : List Nat := [0, 1, 1, 2, 2, 4, 7, 8, 9, 1, 2, 2, 3, 2, 2, 2, 2, 3, 3, 3, 3, 4, 4, 3, 3, 2, 1, 2, 4, 3, 2, 2, 2, 2, 3, 3, 3, 3, 3, 2, 2, 2, 2, 4, 4, 3, 4, 1, 4, 6, 1, 6, 3, 7, 4, 4, 4, 7, 5, 3, 3, 5, 1, 1, 3, 5, 2, 1, 1, 1, 2, 2, 2, 1, 2, 4, 2, 3, 3, 2, 2, 1, 1, 1, 3, 5, 4, 5, 3, 5, 6, 5, 5, 6, 7, 3, 5, 6, 2, 3, 2, 2, 2, 1, 1, 1, 3, 4, 4, 5, 1, 1, 3, 6, 5, 8, 2, 2, 1, 2, 3, 4, 3, 3, 3, 4, 3, 3, 4, 4, 4, 2, 3, 2, 4, 4, 5, 6, 3, 2, 2, 3, 4, 6, 3, 2, 1, 4, 1, 2, 3, 2, 2, 2, 3, 2, 4, 4, 2, 3, 6, 2, 3, 2, 6, 2, 2, 1, 1, 2, 4, 1, 6, 2, 2, 2, 2, 2, 3, 1, 2, 3, 2, 3, 4, 4, 3, 3, 3, 3, 4, 6, 2, 3, 4, 3, 3, 4, 5, 3, 5, 7, 6, 2, 2, 5, 3, 3, 5, 4, 2, 3, 5, 2, 1, 5, 4, 5, 5, 6, 4, 6, 7, 6, 3, 7, 10, 4, 4, 8, 4, 6, 3, 5, 7, 6, 5, 4, 2, 2, 3, 2, 2, 4]
def zml (m : Nat) : Nat := zgd zML m 0
def zYL : List MethodName := [yL_law, yJ6_bitCount_0f7a4, yJ9_abs_0f7a4, yJ9_max_7cf53, yJ9_min_7cf53, yJ7_fill_53178, yX0_alike, yX0_bestShift, yX0_barsToTurn, yX1_clear, yX1_become, yX1_hasRoom, yX1_hasBar, yX1_hasPerson, yX1_hasWall, yX1_hasUnder, yX1_barsOf, yX1_paperOf, yX1_underOf, yX1_personPart, yX1_wallPart, yX1_putPaper, yX1_putUnder, yX1_putPerson, yX1_putWall, yX1_addRoom, yX2_forget, yX2_has, yX2_store, yX2_restore, yX2_chanceOf, yX3_begin, yX3_become, yX3_liftedIn, yX3_liftedInAll, yX3_isLifted, yX3_turn, yX3_reads, yX3_readsRound, yX3_roomOf, yX3_placeOf, yX3_paceOf, yX3_readBy, yX3_isAt, yX3_setPlace, yX3_setPace, yX3_addMeeting, yX3_loggedNow, yX3_meeting, yX4_reckon, yX4_fewestBars, yX4_leastNumber, yX4_barsBehind, yX4_firstBest, yX4_barsWith, yX5_anHour, yX5_areAtOneWall, yX5_goOn, yX5_meetThrough, yX5_isAtA, yX5_isAtB, yX5_dampLifts, yX6_size, yX6_forget, yX6_add, yX6_takeBack, yX6_kept, yX7_letters, yX7_place, yX7_draft, yX7_add, yX7_read, yX7_readClause, yX7_readDamp, yX7_readRoom, yX7_readUnder, yX7_readPerson, yX7_readWall, yX7_readNumber, yX7_expect, yX7_accept, yX7_skipBlanks, yX7_letter, yX7_isFigure, yX7_fail, yX8_keyOf, yX8_repeatOf, yX8_repeatsBy, yX8_openRooms, yX8_mostRead, yX8_howManyRead, yX8_firstThatReads, yX8_sharedEnd, yX8_endsAsBegins, yX8_nearestRoom, yX8_between, yX8_stepsBetween, yX8_oneStepOn, yX9_at, yX9_put, yX9_copy, yX9_leftOver, yX9_isIn, yX10_seen, yX10_entries, yX10_forget, yX10_addSeen, yX10_addEntry, yX10_firstWrong, yX10_findPlaces, yX10_found, yX10_firstFound, yX10_roomsFound, yX10_bestLook, yX10_fits, yX10_greatestPart, yX11_feed, yX11_house, yX11_fault, yX11_told, yX11_room, yX11_bar, yX11_person, yX11_wall, yX11_logged, yX11_hour, yX11_lift, yX11_paste, yX11_moveTo, yX11_pace, yX11_drift, yX11_undo, yX11_where, yX11_meets, yX11_together, yX11_canon, yX11_bestCanon, yX11_match, yX11_join, yX11_shortest, yX11_nearest, yX11_modulation, yX11_sounds, yX11_dry, yX11_see, yX11_places, yX11_lookAt, yX11_write, yX11_judge, yX11_tear, yX11_seed, yX11_keep, yX11_goBack, yX11_beyond, yX11_areTwoRooms, yX11_refusalOfHours, yX11_turnByHand, yX11_meetingsTried, yX11_draw, yX11_deedByDraws, yX12_in, yX12_has, yX12_bits, yX12_lesser, yX12_copies, yX12_begins, yX12_feed, yX12_here, yX12_step, yX12_fails, yX12_number, yX12_ends, yX12_row, yX12_readsRoom, yX12_readsUnder, yX12_readsPerson, yX12_readsWall, yX12_readsClause, yX12_house, yX12_fault, yX12_isRoom, yX12_isBar, yX12_isPerson, yX12_areTwo, yX12_turned, yX12_readsOn, yX12_reads, yX12_open, yX12_liftedInAll, yX12_mostRead, yX12_key, yX12_repeat, yX12_told, yX12_room, yX12_bar, yX12_person, yX12_wall, yX12_logged, yX12_walks, yX12_logs, yX12_isAt, yX12_meetings, yX12_hourGoes, yX12_remember, yX12_refuses, yX12_hour, yX12_lift, yX12_paste, yX12_moveTo, yX12_pace, yX12_draw, yX12_draws, yX12_drift, yX12_undo, yX12_layAside, yX12_where, yX12_meets, yX12_together, yX12_isIn, yX12_inCanon, yX12_canon, yX12_bestCanon, yX12_match, yX12_joinOf, yX12_join, yX12_nextOrder, yX12_shortest, yX12_apart, yX12_nearest, yX12_modulation, yX12_sounds, yX12_dry, yX12_see, yX12_isSo, yX12_places, yX12_greatestPart, yX12_lookAt, yX12_write, yX12_judge, yX12_tear, yX12_seed, yX12_keep, yX12_goBack, yL_law]
def zy (m : Nat) : MethodName := zgd zYL m yL_law
def zBL : List ByteArray := [cL_law, cJ6_bitCount_0f7a4, cJ9_abs_0f7a4, cJ9_max_7cf53, cJ9_min_7cf53, cJ7_fill_53178, cX0_alike, cX0_bestShift, cX0_barsToTurn, cX1_clear, cX1_become, cX1_hasRoom, cX1_hasBar, cX1_hasPerson, cX1_hasWall, cX1_hasUnder, cX1_barsOf, cX1_paperOf, cX1_underOf, cX1_personPart, cX1_wallPart, cX1_putPaper, cX1_putUnder, cX1_putPerson, cX1_putWall, cX1_addRoom, cX2_forget, cX2_has, cX2_store, cX2_restore, cX2_chanceOf, cX3_begin, cX3_become, cX3_liftedIn, cX3_liftedInAll, cX3_isLifted, cX3_turn, cX3_reads, cX3_readsRound, cX3_roomOf, cX3_placeOf, cX3_paceOf, cX3_readBy, cX3_isAt, cX3_setPlace, cX3_setPace, cX3_addMeeting, cX3_loggedNow, cX3_meeting, cX4_reckon, cX4_fewestBars, cX4_leastNumber, cX4_barsBehind, cX4_firstBest, cX4_barsWith, cX5_anHour, cX5_areAtOneWall, cX5_goOn, cX5_meetThrough, cX5_isAtA, cX5_isAtB, cX5_dampLifts, cX6_size, cX6_forget, cX6_add, cX6_takeBack, cX6_kept, cX7_letters, cX7_place, cX7_draft, cX7_add, cX7_read, cX7_readClause, cX7_readDamp, cX7_readRoom, cX7_readUnder, cX7_readPerson, cX7_readWall, cX7_readNumber, cX7_expect, cX7_accept, cX7_skipBlanks, cX7_letter, cX7_isFigure, cX7_fail, cX8_keyOf, cX8_repeatOf, cX8_repeatsBy, cX8_openRooms, cX8_mostRead, cX8_howManyRead, cX8_firstThatReads, cX8_sharedEnd, cX8_endsAsBegins, cX8_nearestRoom, cX8_between, cX8_stepsBetween, cX8_oneStepOn, cX9_at, cX9_put, cX9_copy, cX9_leftOver, cX9_isIn, cX10_seen, cX10_entries, cX10_forget, cX10_addSeen, cX10_addEntry, cX10_firstWrong, cX10_findPlaces, cX10_found, cX10_firstFound, cX10_roomsFound, cX10_bestLook, cX10_fits, cX10_greatestPart, cX11_feed, cX11_house, cX11_fault, cX11_told, cX11_room, cX11_bar, cX11_person, cX11_wall, cX11_logged, cX11_hour, cX11_lift, cX11_paste, cX11_moveTo, cX11_pace, cX11_drift, cX11_undo, cX11_where, cX11_meets, cX11_together, cX11_canon, cX11_bestCanon, cX11_match, cX11_join, cX11_shortest, cX11_nearest, cX11_modulation, cX11_sounds, cX11_dry, cX11_see, cX11_places, cX11_lookAt, cX11_write, cX11_judge, cX11_tear, cX11_seed, cX11_keep, cX11_goBack, cX11_beyond, cX11_areTwoRooms, cX11_refusalOfHours, cX11_turnByHand, cX11_meetingsTried, cX11_draw, cX11_deedByDraws, cX12_in, cX12_has, cX12_bits, cX12_lesser, cX12_copies, cX12_begins, cX12_feed, cX12_here, cX12_step, cX12_fails, cX12_number, cX12_ends, cX12_row, cX12_readsRoom, cX12_readsUnder, cX12_readsPerson, cX12_readsWall, cX12_readsClause, cX12_house, cX12_fault, cX12_isRoom, cX12_isBar, cX12_isPerson, cX12_areTwo, cX12_turned, cX12_readsOn, cX12_reads, cX12_open, cX12_liftedInAll, cX12_mostRead, cX12_key, cX12_repeat, cX12_told, cX12_room, cX12_bar, cX12_person, cX12_wall, cX12_logged, cX12_walks, cX12_logs, cX12_isAt, cX12_meetings, cX12_hourGoes, cX12_remember, cX12_refuses, cX12_hour, cX12_lift, cX12_paste, cX12_moveTo, cX12_pace, cX12_draw, cX12_draws, cX12_drift, cX12_undo, cX12_layAside, cX12_where, cX12_meets, cX12_together, cX12_isIn, cX12_inCanon, cX12_canon, cX12_bestCanon, cX12_match, cX12_joinOf, cX12_join, cX12_nextOrder, cX12_shortest, cX12_apart, cX12_nearest, cX12_modulation, cX12_sounds, cX12_dry, cX12_see, cX12_isSo, cX12_places, cX12_greatestPart, cX12_lookAt, cX12_write, cX12_judge, cX12_tear, cX12_seed, cX12_keep, cX12_goBack, cL_law]
def zby (m : Nat) : ByteArray := zgd zBL m cL_law
def zFL : List (Option FieldType) := [none, (some .int), (some .int), (some .int), (some .int), none, (some .int), (some .int), (some .int), none, none, (some .boolean), (some .boolean), (some .boolean), (some .boolean), (some .boolean), (some .int), (some .int), (some .int), (some .int), (some .int), none, none, none, none, none, none, (some .boolean), none, none, (some .int), none, none, (some .int), (some .int), (some .boolean), none, (some .int), (some .int), (some .int), (some .int), (some .int), (some .int), (some .boolean), none, none, none, (some .int), (some .int), none, (some .int), (some .int), (some .int), (some .int), (some .int), (some .int), (some .boolean), none, none, (some .boolean), (some .boolean), none, (some .int), none, none, none, (some (.object "MusicWalls$Life")), (some .int), (some .int), (some (.object "MusicWalls$House")), (some .boolean), (some .int), none, none, none, none, none, none, (some .int), none, (some .boolean), none, (some .int), (some .boolean), none, (some .int), (some .int), (some .boolean), (some .int), (some .int), (some .int), (some .int), (some .int), (some .boolean), (some .int), (some .int), (some .int), (some .int), (some .int), none, none, (some .int), (some .boolean), (some .int), (some .int), none, (some .boolean), (some .boolean), (some .int), none, (some .int), (some .int), (some .int), (some .int), (some .boolean), (some .int), (some .int), (some .int), (some .int), (some .int), (some .int), (some .int), (some .int), (some .int), (some .int), (some .int), (some .int), (some .int), (some .int), (some .int), (some .int), (some .int), (some .int), (some .int), (some .int), (some .int), (some .int), (some .int), (some .int), (some .int), (some .int), (some .int), (some .int), (some .int), (some .int), (some .int), (some .int), (some .int), (some .int), (some .int), (some .int), (some .int), (some .int), (some .boolean), (some .boolean), (some .int), (some .int), (some .int), (some .int), none, (some .boolean), (some .boolean), (some .int), (some .int), none, none, (some .int), (some .int), none, (some .boolean), (some .boolean), (some .boolean), (some .boolean), (some .boolean), (some .boolean), (some .boolean), (some .boolean), (some .boolean), (some .int), (some .int), (some .boolean), (some .boolean), (some .boolean), (some .boolean), (some .int), (some .int), (some .int), (some .int), (some .int), (some .int), (some .int), (some .int), (some .int), (some .int), (some .int), (some .int), (some .int), (some .int), none, none, (some .boolean), (some .int), (some .int), none, (some .int), (some .int), (some .int), (some .int), (some .int), (some .int), (some .int), none, (some .int), (some .int), none, (some .int), (some .int), (some .int), (some .boolean), (some .int), (some .int), (some .int), (some .int), (some .int), (some .int), (some .boolean), (some .int), (some .int), (some .int), (some .int), (some .int), (some .int), (some .int), (some .boolean), (some .int), (some .int), (some .int), (some .int), (some .int), (some .int), (some .int), (some .int), (some .int), (some .boolean)]
def zrf (m : Nat) : Option FieldType := zgd zFL m none
def zsf (m t : Nat) : List zE := (zcode m).dropWhile (fun e => !(e.1 == t))
end
section
/-! CHECKS, by the kernel: the tables are the code, its links are words of lw_tbl -/
def zat (p : Nat) (w : Cond) : Bool := decide (lw_tbl[p]? = some w) && goodWord w
def zatN (p : Nat) (w : Cond) : Bool := decide (lw_tbl[p]? = some w)
def zTf (t k : Nat) : String × String × String × Bool := (zgd (vwCl.map fun q => q.2.1) (zci t) (fun _ => ("", "", "", false))) k
def zTn (t : Nat) : String := zgd (vwCl.map fun q => q.1) (zci t) ""
def zTN (t : Nat) : Nat := zgd (vwCl.map fun q => q.2.2) (zci t) 0
def zlk (own : String) (e : zE) (p : Nat) : Bool := match e.2.2.1 with
  | .getfield i => decide (e.2.2.2.2.1 < zTN e.2.2.2.1) && (zat p (.fieldLink own i (zTn e.2.2.2.1) (zTf e.2.2.2.1 e.2.2.2.2.1).2.1 (zTf e.2.2.2.1 e.2.2.2.2.1).2.2.1) || zatN p (.fieldLinkNest own i (zTn e.2.2.2.1) (zTf e.2.2.2.1 e.2.2.2.2.1).2.1 (zTf e.2.2.2.1 e.2.2.2.2.1).2.2.1 "MusicWalls"))
  | .putfield i => decide (e.2.2.2.2.1 < zTN e.2.2.2.1) && !(zTf e.2.2.2.1 e.2.2.2.2.1).2.2.2 && (zat p (.fieldLink own i (zTn e.2.2.2.1) (zTf e.2.2.2.1 e.2.2.2.2.1).2.1 (zTf e.2.2.2.1 e.2.2.2.2.1).2.2.1) || zatN p (.fieldLinkNest own i (zTn e.2.2.2.1) (zTf e.2.2.2.1 e.2.2.2.2.1).2.1 (zTf e.2.2.2.1 e.2.2.2.2.1).2.2.1 "MusicWalls"))
  | .invokevirtual i => zat p (.methodLink own i (zy e.2.2.2.1)) && decide (e.2.2.2.1 < zYL.length) && decide ((zy e.2.2.2.1).cls = zTn e.2.2.2.2.2.toNat) && decide ((parseMethodDescriptor (zy e.2.2.2.1).desc).map (fun d => d.parameters.length + 1) = some e.2.2.2.2.1)
  | .invokestatic i => if e.2.2.2.1 = 0 then zat p (.methodLink own i arraycopyName) else zat p (.methodLink own i (zy e.2.2.2.1)) && decide (e.2.2.2.1 < zYL.length) && decide ((parseMethodDescriptor (zy e.2.2.2.1).desc).map (fun d => d.parameters.length) = some e.2.2.2.2.1)
  | .ldc i => zat p (.constant own i (Int32.ofInt e.2.2.2.2.2))
  | .ldc_w i => zat p (.constant own i (Int32.ofInt e.2.2.2.2.2))
  | .ldc2_w i => zat p (.constantLong own i (Int64.ofInt e.2.2.2.2.2))
  | _ => true
def zco : List zE → Bool
  | [] => true
  | [_] => true
  | e :: f :: r => decide (e.1 + e.2.1 = f.1) && zco (f :: r)
/-- a constant of the table fits its kind; jumps are where they say -/
def zok (e : zE) : Bool := match e.2.2.1 with
  | .ldc _ => decide (-2147483648 ≤ e.2.2.2.2.2 ∧ e.2.2.2.2.2 ≤ 2147483647)
  | .ldc_w _ => decide (-2147483648 ≤ e.2.2.2.2.2 ∧ e.2.2.2.2.2 ≤ 2147483647)
  | .ldc2_w _ => decide (-9223372036854775808 ≤ e.2.2.2.2.2 ∧ e.2.2.2.2.2 ≤ 9223372036854775807)
  | .iconst n => decide (-1 ≤ n ∧ n ≤ 5)
  | .bipush n => decide (-128 ≤ n ∧ n ≤ 127)
  | .sipush n => decide (-32768 ≤ n ∧ n ≤ 32767)
  | .iinc _ n => decide (-32768 ≤ n ∧ n ≤ 32767)
  | .if_icmp _ o => decide (0 ≤ (e.1 : Int) + o)
  | .ifCond _ o => decide (0 ≤ (e.1 : Int) + o)
  | .goto o => decide (0 ≤ (e.1 : Int) + o)
  | .ifnonnull o => decide (0 ≤ (e.1 : Int) + o)
  | .tableswitch d lo hi os => decide (0 ≤ (e.1 : Int) + d) && os.toList.all (fun o => decide (0 ≤ (e.1 : Int) + o)) && decide (lo + os.toList.length = hi + 1)
  | .lookupswitch d ps => decide (0 ≤ (e.1 : Int) + d) && ps.toList.all (fun o => decide (0 ≤ (e.1 : Int) + o.2)) && (ps.toList.zip (ps.toList.drop 1)).all (fun (a, next) => decide (a.1 < next.1)) && ps.toList.all (fun o => decide (-2147483648 ≤ o.1 ∧ o.1 ≤ 2147483647))
  | _ => true
def zch (own : String) (b : ByteArray) (c : List zE) (ps : List Nat) : Bool := (c.zip ps).all (fun q => decide (decode b q.1.1 = .ok (q.1.2.2.1, q.1.2.1)) && zok q.1 && zlk own q.1 q.2) && zco c && decide (c.length = ps.length) && (match c with | e :: _ => decide (e.1 = 0) | [] => false)
theorem zk_J6_bitCount_0f7a4 : zch (zy 1).cls (zby 1) (zcode 1) [0, 0, 0, 0, 561, 0, 0, 0, 0, 562, 0, 0, 0, 0, 562, 0, 0, 0, 0, 0, 0, 0, 0, 563, 0, 0, 0, 0, 0, 0, 0, 0, 0, 0, 0, 0, 0, 0, 0, 0, 0, 0] = true := by decide +kernel
theorem zk_J9_abs_0f7a4 : zch (zy 2).cls (zby 2) (zcode 2) [0, 0, 0, 0, 0, 0, 0] = true := by decide +kernel
theorem zk_J9_max_7cf53 : zch (zy 3).cls (zby 3) (zcode 3) [0, 0, 0, 0, 0, 0, 0] = true := by decide +kernel
theorem zk_J9_min_7cf53 : zch (zy 4).cls (zby 4) (zcode 4) [0, 0, 0, 0, 0, 0, 0] = true := by decide +kernel
theorem zk_J7_fill_53178 : zch (zy 5).cls (zby 5) (zcode 5) [0, 0, 0, 0, 0, 0, 0, 0, 0, 0, 0, 0, 0, 0, 0] = true := by decide +kernel
theorem zk_X0_alike : zch (zy 6).cls (zby 6) (zcode 6) [0, 0, 0, 191, 0, 818, 0, 0, 0, 0, 0, 0, 0, 0, 0, 819, 0, 0, 0, 0, 0, 820, 0, 0, 0, 0, 0, 0] = true := by decide +kernel
theorem zk_X0_bestShift : zch (zy 7).cls (zby 7) (zcode 7) [0, 0, 0, 0, 0, 191, 0, 818, 0, 0, 0, 0, 0, 0, 0, 0, 0, 0, 828, 0, 0, 0, 0, 0, 0, 0, 0, 0, 0, 0, 0] = true := by decide +kernel
theorem zk_X0_barsToTurn : zch (zy 8).cls (zby 8) (zcode 8) [0, 0, 0, 191, 0, 818, 0, 0, 0, 0, 0, 0, 0, 0, 0, 0, 0, 820, 0, 0, 0, 0, 819, 0, 0, 0, 0, 0, 0, 836, 0, 0, 191, 0, 0, 837, 0, 0, 191, 0, 0, 838, 0, 0, 0, 0, 0, 0, 0, 0, 0, 0, 0, 0, 0, 0, 0, 0] = true := by decide +kernel
theorem zk_X1_clear : zch (zy 9).cls (zby 9) (zcode 9) [0, 0, 102, 0, 0, 105, 0, 0, 110, 0, 0, 118, 0, 0, 122, 0, 0, 126, 0, 128, 0, 374, 0, 129, 0, 374, 0, 130, 0, 374, 0] = true := by decide +kernel
theorem zk_X1_become : zch (zy 10).cls (zby 10) (zcode 10) [0, 0, 102, 102, 0, 0, 105, 105, 0, 0, 110, 110, 0, 0, 118, 118, 0, 0, 122, 122, 0, 0, 126, 126, 0, 128, 0, 128, 474, 0, 129, 0, 129, 474, 0, 130, 0, 130, 474, 0, 131, 0, 131, 474, 0, 132, 0, 132, 474, 0] = true := by decide +kernel
theorem zk_X1_hasRoom : zch (zy 11).cls (zby 11) (zcode 11) [0, 0, 0, 0, 110, 0, 0, 0, 0, 0] = true := by decide +kernel
theorem zk_X1_hasBar : zch (zy 12).cls (zby 12) (zcode 12) [0, 0, 620, 0, 0, 0, 0, 0, 0, 621, 0, 0, 0, 0, 0] = true := by decide +kernel
theorem zk_X1_hasPerson : zch (zy 13).cls (zby 13) (zcode 13) [0, 0, 0, 0, 118, 0, 0, 0, 0, 0] = true := by decide +kernel
theorem zk_X1_hasWall : zch (zy 14).cls (zby 14) (zcode 14) [0, 0, 0, 0, 122, 0, 0, 0, 0, 0] = true := by decide +kernel
theorem zk_X1_hasUnder : zch (zy 15).cls (zby 15) (zcode 15) [0, 126, 0, 436, 0] = true := by decide +kernel
theorem zk_X1_barsOf : zch (zy 16).cls (zby 16) (zcode 16) [0, 128, 0, 443, 0] = true := by decide +kernel
theorem zk_X1_paperOf : zch (zy 17).cls (zby 17) (zcode 17) [0, 129, 0, 0, 0, 0, 0, 443, 0] = true := by decide +kernel
theorem zk_X1_underOf : zch (zy 18).cls (zby 18) (zcode 18) [0, 130, 0, 0, 0, 0, 0, 443, 0] = true := by decide +kernel
theorem zk_X1_personPart : zch (zy 19).cls (zby 19) (zcode 19) [0, 131, 0, 0, 0, 0, 0, 443, 0] = true := by decide +kernel
theorem zk_X1_wallPart : zch (zy 20).cls (zby 20) (zcode 20) [0, 132, 0, 0, 0, 0, 0, 443, 0] = true := by decide +kernel
theorem zk_X1_putPaper : zch (zy 21).cls (zby 21) (zcode 21) [0, 129, 0, 0, 0, 0, 0, 0, 419, 0] = true := by decide +kernel
theorem zk_X1_putUnder : zch (zy 22).cls (zby 22) (zcode 22) [0, 130, 0, 0, 0, 0, 0, 0, 419, 0] = true := by decide +kernel
theorem zk_X1_putPerson : zch (zy 23).cls (zby 23) (zcode 23) [0, 131, 0, 118, 0, 0, 0, 0, 0, 419, 0] = true := by decide +kernel
theorem zk_X1_putWall : zch (zy 24).cls (zby 24) (zcode 24) [0, 132, 0, 122, 0, 0, 0, 0, 0, 419, 0] = true := by decide +kernel
theorem zk_X1_addRoom : zch (zy 25).cls (zby 25) (zcode 25) [0, 128, 0, 110, 0, 419, 0, 0, 110, 0, 0, 110, 0] = true := by decide +kernel
theorem zk_X2_forget : zch (zy 26).cls (zby 26) (zcode 26) [0, 0, 253, 0] = true := by decide +kernel
theorem zk_X2_has : zch (zy 27).cls (zby 27) (zcode 27) [0, 253, 0, 1014, 0] = true := by decide +kernel
theorem zk_X2_store : zch (zy 28).cls (zby 28) (zcode 28) [0, 0, 0, 0, 251, 0, 0, 0, 251, 0, 0, 0, 0, 0, 251, 0, 0, 0, 1004, 0, 252, 0, 0, 1005, 0, 0, 253, 0, 0, 0, 0, 253, 0] = true := by decide +kernel
theorem zk_X2_restore : zch (zy 29).cls (zby 29) (zcode 29) [0, 0, 0, 0, 251, 0, 0, 0, 251, 0, 0, 0, 0, 0, 0, 251, 0, 0, 1004, 0] = true := by decide +kernel
theorem zk_X2_chanceOf : zch (zy 30).cls (zby 30) (zcode 30) [0, 252, 0, 1023, 0] = true := by decide +kernel
theorem zk_X3_begin : zch (zy 31).cls (zby 31) (zcode 31) [0, 0, 193, 0, 0, 196, 0, 0, 198, 0, 200, 0, 485, 0, 0, 0, 0, 187, 119, 0, 0, 0, 0, 187, 0, 0, 486, 0, 187, 0, 0, 486, 490, 0, 0, 0, 187, 0, 0, 486, 495, 0, 0, 0] = true := by decide +kernel
theorem zk_X3_become : zch (zy 32).cls (zby 32) (zcode 32) [0, 0, 193, 193, 0, 0, 196, 196, 0, 0, 198, 198, 0, 200, 0, 200, 693, 0, 201, 0, 201, 693, 0, 202, 0, 202, 693, 0, 203, 0, 203, 693, 0, 204, 0, 204, 693, 0] = true := by decide +kernel
theorem zk_X3_liftedIn : zch (zy 33).cls (zby 33) (zcode 33) [0, 200, 0, 540, 0] = true := by decide +kernel
theorem zk_X3_liftedInAll : zch (zy 34).cls (zby 34) (zcode 34) [0, 0, 0, 0, 0, 0, 187, 113, 0, 0, 0, 0, 554, 558, 0, 0, 0, 0, 0, 0] = true := by decide +kernel
theorem zk_X3_isLifted : zch (zy 35).cls (zby 35) (zcode 35) [0, 200, 0, 540, 0, 541, 0] = true := by decide +kernel
theorem zk_X3_turn : zch (zy 36).cls (zby 36) (zcode 36) [0, 200, 0, 0, 0, 554, 0, 0, 0, 0, 494, 0] = true := by decide +kernel
theorem zk_X3_reads : zch (zy 37).cls (zby 37) (zcode 37) [0, 0, 0, 536, 0, 0, 187, 0, 0, 542, 0, 0, 187, 0, 0, 546, 0] = true := by decide +kernel
theorem zk_X3_readsRound : zch (zy 38).cls (zby 38) (zcode 38) [0, 0, 0, 0, 187, 0, 606, 607, 610, 0] = true := by decide +kernel
theorem zk_X3_roomOf : zch (zy 39).cls (zby 39) (zcode 39) [0, 201, 0, 540, 0] = true := by decide +kernel
theorem zk_X3_placeOf : zch (zy 40).cls (zby 40) (zcode 40) [0, 202, 0, 540, 0] = true := by decide +kernel
theorem zk_X3_paceOf : zch (zy 41).cls (zby 41) (zcode 41) [0, 203, 0, 540, 0] = true := by decide +kernel
theorem zk_X3_readBy : zch (zy 42).cls (zby 42) (zcode 42) [0, 0, 0, 649, 0, 0, 650, 610, 0] = true := by decide +kernel
theorem zk_X3_isAt : zch (zy 43).cls (zby 43) (zcode 43) [0, 201, 0, 540, 0, 0, 0, 202, 0, 540, 0, 0, 0, 0, 0, 0] = true := by decide +kernel
theorem zk_X3_setPlace : zch (zy 44).cls (zby 44) (zcode 44) [0, 201, 0, 0, 494, 0, 202, 0, 0, 494, 0] = true := by decide +kernel
theorem zk_X3_setPace : zch (zy 45).cls (zby 45) (zcode 45) [0, 203, 0, 0, 494, 0] = true := by decide +kernel
theorem zk_X3_addMeeting : zch (zy 46).cls (zby 46) (zcode 46) [0, 726, 0, 196, 0, 0, 527, 196, 0, 204, 0, 198, 0, 607, 0, 0, 0, 0, 0, 0, 0, 0, 0, 494, 0, 0, 198, 0, 0, 198, 0] = true := by decide +kernel
theorem zk_X3_loggedNow : zch (zy 47).cls (zby 47) (zcode 47) [0, 0, 198, 527, 0] = true := by decide +kernel
theorem zk_X3_meeting : zch (zy 48).cls (zby 48) (zcode 48) [0, 204, 0, 198, 0, 0, 0, 0, 0, 607, 540, 0, 0, 0, 0, 0, 0, 0, 0, 0, 0, 0, 0, 0, 0, 0, 0, 0, 0, 0, 0] = true := by decide +kernel
theorem zk_X4_reckon : zch (zy 49).cls (zby 49) (zcode 49) [0, 0, 189, 109, 306, 0, 0, 0, 0, 306, 0, 0, 189, 0, 859, 0, 0, 0, 0, 0, 306, 0, 0, 0, 0, 0, 0, 0, 0, 0, 860, 0, 0, 304, 0, 0, 0, 0, 0, 0, 0, 0, 861, 0, 0, 0, 304, 0, 0, 0, 0, 861, 0, 0, 0, 0, 0, 0, 0, 306, 0, 0, 0, 0, 0, 0, 0, 0, 305, 0, 0, 0, 0, 0, 0, 0, 0, 862, 861, 0, 0, 0, 0, 0] = true := by decide +kernel
theorem zk_X4_fewestBars : zch (zy 50).cls (zby 50) (zcode 50) [0, 305, 0, 0, 306, 0, 0, 0, 0, 0, 0, 0, 875, 0] = true := by decide +kernel
theorem zk_X4_leastNumber : zch (zy 51).cls (zby 51) (zcode 51) [0, 0, 0, 0, 306, 0, 0, 0, 0, 0, 0, 0, 0, 0, 0, 306, 0, 0, 0, 0, 866, 0, 0, 0, 0, 0, 0, 0, 0, 0, 0, 0, 0, 0, 0, 0, 0, 0, 0, 0, 0, 0, 0, 0] = true := by decide +kernel
theorem zk_X4_barsBehind : zch (zy 52).cls (zby 52) (zcode 52) [0, 0, 0, 0, 0, 0, 0, 0, 0, 0, 866, 871, 0] = true := by decide +kernel
theorem zk_X4_firstBest : zch (zy 53).cls (zby 53) (zcode 53) [0, 0, 0, 0, 0, 0, 0, 0, 306, 0, 0, 0, 870, 0, 0, 0, 0, 0, 0, 871, 0, 0, 0, 0, 0, 0, 0, 0, 0, 0, 0, 0] = true := by decide +kernel
theorem zk_X4_barsWith : zch (zy 54).cls (zby 54) (zcode 54) [0, 304, 0, 0, 0, 0, 0, 875, 0, 305, 0, 0, 0, 0, 0, 0, 0, 0, 0, 0, 0, 875, 0, 0] = true := by decide +kernel
theorem zk_X5_anHour : zch (zy 55).cls (zby 55) (zcode 55) [0, 188, 0, 0, 0, 0, 0, 117, 0, 0, 0, 698, 0, 0, 0, 199, 0, 0, 0, 0, 0, 123, 0, 0, 0, 708, 0, 0, 0, 0, 194, 0, 0, 194, 0, 106, 0, 0, 194, 0, 106, 0, 0, 0, 0, 194, 0, 106, 0, 0, 0, 727, 0, 199, 0, 0, 0] = true := by decide +kernel
theorem zk_X5_areAtOneWall : zch (zy 56).cls (zby 56) (zcode 56) [0, 0, 0, 0, 188, 123, 0, 0, 0, 0, 711, 0, 0, 0, 0, 719, 0, 0, 0, 0, 0, 0, 711, 0, 0, 0, 0, 719, 0, 0, 0, 0, 0, 0, 0] = true := by decide +kernel
theorem zk_X5_goOn : zch (zy 57).cls (zby 57) (zcode 57) [0, 0, 701, 0, 0, 0, 702, 0, 0, 188, 0, 703, 0, 0, 0, 704, 0, 0, 0, 0, 0, 0, 0, 0, 0, 0, 705, 0, 0, 0, 0, 706, 0, 0, 0, 0, 0, 0, 0, 0, 707, 0] = true := by decide +kernel
theorem zk_X5_meetThrough : zch (zy 58).cls (zby 58) (zcode 58) [0, 188, 117, 0, 0, 0, 0, 0, 0, 0, 0, 0, 711, 0, 0, 0, 0, 0, 0, 0, 0, 0, 0, 719, 0, 0, 0, 0, 0, 722, 0, 0, 0, 0, 0] = true := by decide +kernel
theorem zk_X5_isAtA : zch (zy 59).cls (zby 59) (zcode 59) [0, 0, 0, 188, 0, 0, 714, 0, 188, 0, 0, 714, 715, 0] = true := by decide +kernel
theorem zk_X5_isAtB : zch (zy 60).cls (zby 60) (zcode 60) [0, 0, 0, 188, 0, 0, 714, 0, 188, 0, 0, 714, 715, 0] = true := by decide +kernel
theorem zk_X5_dampLifts : zch (zy 61).cls (zby 61) (zcode 61) [0, 188, 114, 0, 0, 0, 0, 0, 0, 0, 0, 0, 0, 0, 0, 188, 0, 703, 705, 0, 0, 0, 0, 730, 0, 0, 0, 0, 731, 0] = true := by decide +kernel
theorem zk_X6_size : zch (zy 62).cls (zby 62) (zcode 62) [0, 234, 0] = true := by decide +kernel
theorem zk_X6_forget : zch (zy 63).cls (zby 63) (zcode 63) [0, 0, 234, 0] = true := by decide +kernel
theorem zk_X6_add : zch (zy 64).cls (zby 64) (zcode 64) [0, 0, 235, 685, 0, 0, 0, 0, 0, 0, 689, 0, 0, 235, 0, 0, 0, 0, 235, 0, 0, 0, 234, 0, 0, 694, 234, 0] = true := by decide +kernel
theorem zk_X6_takeBack : zch (zy 65).cls (zby 65) (zcode 65) [0, 235, 0, 0, 0, 0, 0, 0, 0, 0, 0, 685, 0, 0, 0, 0, 0, 0, 689, 0, 0, 235, 0, 0, 234, 0, 0, 234, 0] = true := by decide +kernel
theorem zk_X6_kept : zch (zy 66).cls (zby 66) (zcode 66) [0, 0, 0, 0, 233, 0, 0, 0, 233, 0, 0, 0, 0, 0] = true := by decide +kernel
theorem zk_X7_letters : zch (zy 67).cls (zby 67) (zcode 67) [0, 159, 0] = true := by decide +kernel
theorem zk_X7_place : zch (zy 68).cls (zby 68) (zcode 68) [0, 163, 0] = true := by decide +kernel
theorem zk_X7_draft : zch (zy 69).cls (zby 69) (zcode 69) [0, 157, 0] = true := by decide +kernel
theorem zk_X7_add : zch (zy 70).cls (zby 70) (zcode 70) [0, 159, 0, 0, 0, 0, 0, 158, 0, 159, 0, 354, 0, 0, 159, 0, 0, 159, 0, 0] = true := by decide +kernel
theorem zk_X7_read : zch (zy 71).cls (zby 71) (zcode 71) [0, 157, 370, 0, 0, 160, 0, 0, 162, 0, 0, 163, 0, 377, 0, 0, 0, 0, 0, 0, 162, 0, 0, 160, 0, 159, 0, 0, 385, 0, 377, 0, 0, 0, 0, 159, 0, 162, 0] = true := by decide +kernel
theorem zk_X7_readClause : zch (zy 72).cls (zby 72) (zcode 72) [0, 381, 0, 0, 157, 104, 0, 0, 0, 0, 0, 0, 0, 160, 389, 0, 0, 0, 0, 393, 0, 0, 411, 0, 0, 428, 0, 0, 450, 0, 0, 458, 0, 0, 0, 0, 160, 389, 0] = true := by decide +kernel
theorem zk_X7_readDamp : zch (zy 73).cls (zby 73) (zcode 73) [0, 157, 104, 0, 0, 0, 0, 160, 389, 0, 0, 160, 0, 0, 160, 0, 157, 0, 104, 0, 157, 0, 0, 397, 108, 0, 0, 407, 0] = true := by decide +kernel
theorem zk_X7_readRoom : zch (zy 74).cls (zby 74) (zcode 74) [0, 157, 116, 0, 0, 0, 0, 0, 160, 389, 0, 0, 160, 0, 0, 160, 0, 0, 0, 157, 0, 157, 116, 0, 0, 0, 397, 415, 0, 0, 0, 0, 0, 0, 420, 0, 0, 0, 407, 0, 157, 0, 424, 0] = true := by decide +kernel
theorem zk_X7_readUnder : zch (zy 75).cls (zby 75) (zcode 75) [0, 0, 160, 0, 0, 160, 0, 0, 157, 116, 0, 0, 397, 0, 0, 157, 0, 432, 0, 0, 0, 0, 161, 389, 0, 157, 0, 439, 0, 0, 0, 0, 0, 0, 0, 0, 0, 0, 407, 0, 157, 0, 0, 0, 0, 397, 446, 0, 0, 0, 0, 407, 0, 157, 0, 127, 0, 0, 0, 0, 127, 0] = true := by decide +kernel
theorem zk_X7_readPerson : zch (zy 76).cls (zby 76) (zcode 76) [0, 157, 121, 0, 0, 0, 0, 0, 160, 389, 0, 0, 160, 0, 0, 160, 0, 0, 157, 116, 0, 0, 397, 0, 0, 157, 0, 0, 454, 0, 157, 0, 0, 0, 157, 0, 439, 0, 0, 397, 454, 0, 157, 0, 0, 0, 397, 454, 0, 0, 407, 0, 157, 0, 121, 0, 0, 121, 0] = true := by decide +kernel
theorem zk_X7_readWall : zch (zy 77).cls (zby 77) (zcode 77) [0, 157, 125, 0, 0, 0, 0, 0, 160, 389, 0, 0, 160, 0, 0, 160, 0, 0, 157, 116, 0, 0, 397, 0, 0, 157, 0, 0, 462, 0, 157, 0, 0, 0, 157, 0, 439, 0, 0, 397, 462, 0, 0, 157, 116, 0, 0, 397, 0, 0, 0, 0, 0, 0, 0, 161, 389, 0, 157, 0, 0, 462, 0, 157, 0, 0, 0, 157, 0, 439, 0, 0, 397, 462, 0, 0, 407, 0, 157, 0, 125, 0, 0, 125, 0] = true := by decide +kernel
theorem zk_X7_readNumber : zch (zy 78).cls (zby 78) (zcode 78) [0, 377, 0, 0, 160, 161, 0, 0, 0, 160, 0, 159, 0, 0, 381, 401, 0, 0, 0, 0, 0, 0, 381, 0, 0, 0, 404, 0, 0, 0, 160, 0, 0, 160, 0, 0, 160, 0, 161, 0, 0, 0, 0, 161, 389, 0, 0, 160, 0, 161, 0, 0, 0, 0, 0, 0, 0, 0, 0, 161, 389, 0, 0] = true := by decide +kernel
theorem zk_X7_expect : zch (zy 79).cls (zby 79) (zcode 79) [0, 377, 0, 381, 0, 0, 0, 0, 160, 0, 0, 160, 0, 0, 0, 0, 160, 389, 0] = true := by decide +kernel
theorem zk_X7_accept : zch (zy 80).cls (zby 80) (zcode 80) [0, 377, 0, 381, 0, 0, 0, 0, 0, 0, 160, 0, 0, 160, 0, 0] = true := by decide +kernel
theorem zk_X7_skipBlanks : zch (zy 81).cls (zby 81) (zcode 81) [0, 160, 0, 159, 0, 0, 381, 0, 0, 0, 0, 160, 0, 0, 160, 0, 0] = true := by decide +kernel
theorem zk_X7_letter : zch (zy 82).cls (zby 82) (zcode 82) [0, 160, 0, 0, 160, 0, 159, 0, 0, 160, 0, 158, 0, 0, 0, 158, 0, 160, 0, 0, 0, 0] = true := by decide +kernel
theorem zk_X7_isFigure : zch (zy 83).cls (zby 83) (zcode 83) [0, 0, 0, 0, 0, 0, 0, 0, 0, 0] = true := by decide +kernel
theorem zk_X7_fail : zch (zy 84).cls (zby 84) (zcode 84) [0, 162, 0, 0, 0, 0, 162, 0, 0, 163, 0] = true := by decide +kernel
theorem zk_X8_keyOf : zch (zy 85).cls (zby 85) (zcode 85) [0, 0, 0, 190, 0, 531, 0, 0, 0, 0, 0, 0, 0, 0, 0, 0, 532, 0, 0, 0, 0, 0, 0, 0, 0] = true := by decide +kernel
theorem zk_X8_repeatOf : zch (zy 86).cls (zby 86) (zcode 86) [0, 190, 0, 531, 0, 0, 0, 0, 0, 0, 0, 0, 0, 599, 0, 0, 0, 0, 0, 0, 0] = true := by decide +kernel
theorem zk_X8_repeatsBy : zch (zy 87).cls (zby 87) (zcode 87) [0, 190, 0, 531, 0, 0, 0, 0, 0, 0, 0, 0, 0, 532, 0, 0, 0, 0, 0, 602, 0, 0, 0, 0, 0, 0, 0] = true := by decide +kernel
theorem zk_X8_openRooms : zch (zy 88).cls (zby 88) (zcode 88) [0, 0, 0, 0, 0, 0, 190, 112, 0, 0, 0, 0, 190, 0, 531, 0, 0, 532, 0, 0, 0, 532, 0, 0, 0, 0, 0, 0, 0, 0, 0, 0, 0] = true := by decide +kernel
theorem zk_X8_mostRead : zch (zy 89).cls (zby 89) (zcode 89) [0, 0, 0, 0, 0, 0, 0, 0, 0, 0, 0, 567, 0, 0, 0, 0, 0, 0, 0, 0, 0, 0, 0, 0] = true := by decide +kernel
theorem zk_X8_howManyRead : zch (zy 90).cls (zby 90) (zcode 90) [0, 0, 0, 0, 0, 0, 190, 112, 0, 0, 190, 0, 531, 0, 0, 0, 0, 0, 0, 0, 0, 0, 532, 0, 0, 0, 0, 0, 0, 0, 0, 0] = true := by decide +kernel
theorem zk_X8_firstThatReads : zch (zy 91).cls (zby 91) (zcode 91) [0, 190, 0, 531, 0, 0, 0, 0, 0, 0, 0, 0, 0, 532, 0, 0, 0, 0, 0, 0, 0, 0] = true := by decide +kernel
theorem zk_X8_sharedEnd : zch (zy 92).cls (zby 92) (zcode 92) [0, 190, 0, 531, 0, 0, 0, 190, 0, 531, 847, 0, 0, 0, 0, 0, 0, 0, 848, 0, 0, 0, 0, 0, 0, 0] = true := by decide +kernel
theorem zk_X8_endsAsBegins : zch (zy 93).cls (zby 93) (zcode 93) [0, 190, 0, 531, 0, 0, 0, 0, 0, 0, 0, 0, 0, 0, 0, 0, 0, 532, 0, 0, 0, 532, 0, 0, 0, 0, 0, 0, 0] = true := by decide +kernel
theorem zk_X8_nearestRoom : zch (zy 94).cls (zby 94) (zcode 94) [0, 0, 891, 0, 0, 0, 0, 0, 0, 0, 0, 0, 190, 112, 0, 0, 0, 0, 891, 892, 0, 0, 0, 0, 0, 0, 0, 0, 0, 0, 0, 0, 0, 0, 0] = true := by decide +kernel
theorem zk_X8_between : zch (zy 95).cls (zby 95) (zcode 95) [0, 0, 0, 895, 0, 0, 0, 0, 0, 847, 0] = true := by decide +kernel
theorem zk_X8_stepsBetween : zch (zy 96).cls (zby 96) (zcode 96) [0, 0, 0, 0, 0, 0, 0, 0, 0, 0, 0, 905, 0, 0, 0, 0, 0, 906, 0, 0, 0, 0, 0] = true := by decide +kernel
theorem zk_X8_oneStepOn : zch (zy 97).cls (zby 97) (zcode 97) [0, 0, 0, 0, 0, 0, 190, 112, 0, 0, 0, 905, 0, 0, 0, 0, 891, 0, 0, 0, 0, 0, 190, 112, 0, 0, 0, 0, 891, 892, 0, 0, 0, 0, 0, 0, 0, 0, 0, 0, 0, 0, 0, 0] = true := by decide +kernel
theorem zk_X9_at : zch (zy 98).cls (zby 98) (zcode 98) [0, 0, 0, 0, 0, 0, 0, 0, 0, 0, 0, 0] = true := by decide +kernel
theorem zk_X9_put : zch (zy 99).cls (zby 99) (zcode 99) [0, 0, 0, 0, 0, 0, 0, 0, 0, 0, 0] = true := by decide +kernel
theorem zk_X9_copy : zch (zy 100).cls (zby 100) (zcode 100) [0, 0, 0, 0, 0, 0, 0, 0, 477, 478, 0] = true := by decide +kernel
theorem zk_X9_leftOver : zch (zy 101).cls (zby 101) (zcode 101) [0, 0, 0, 0, 0, 0, 0, 0] = true := by decide +kernel
theorem zk_X9_isIn : zch (zy 102).cls (zby 102) (zcode 102) [0, 0, 0, 0, 0, 0, 0, 0, 0, 0, 0, 0, 0, 0, 0, 0] = true := by decide +kernel
theorem zk_X10_seen : zch (zy 103).cls (zby 103) (zcode 103) [0, 274, 0] = true := by decide +kernel
theorem zk_X10_entries : zch (zy 104).cls (zby 104) (zcode 104) [0, 275, 0] = true := by decide +kernel
theorem zk_X10_forget : zch (zy 105).cls (zby 105) (zcode 105) [0, 0, 274, 0, 0, 275, 0] = true := by decide +kernel
theorem zk_X10_addSeen : zch (zy 106).cls (zby 106) (zcode 106) [0, 274, 0, 0, 0, 0, 0, 267, 0, 274, 0, 927, 0, 268, 0, 274, 0, 927, 0, 0, 274, 0, 0, 274, 0, 0] = true := by decide +kernel
theorem zk_X10_addEntry : zch (zy 107).cls (zby 107) (zcode 107) [0, 275, 0, 0, 0, 0, 0, 269, 0, 275, 0, 927, 0, 270, 0, 275, 0, 927, 0, 271, 0, 275, 0, 927, 0, 0, 275, 0, 0, 275, 0, 0] = true := by decide +kernel
theorem zk_X10_firstWrong : zch (zy 108).cls (zby 108) (zcode 108) [0, 0, 0, 0, 275, 0, 0, 0, 269, 0, 941, 0, 270, 0, 941, 987, 0, 0, 0, 271, 0, 941, 0, 0, 0, 0, 0, 0, 0] = true := by decide +kernel
theorem zk_X10_findPlaces : zch (zy 109).cls (zby 109) (zcode 109) [0, 0, 276, 0, 0, 0, 0, 192, 115, 0, 0, 192, 0, 936, 0, 0, 0, 0, 0, 0, 0, 0, 0, 0, 937, 0, 0, 0, 272, 0, 276, 0, 0, 0, 0, 0, 927, 0, 0, 276, 0, 0, 276, 0, 0, 0, 0, 0] = true := by decide +kernel
theorem zk_X10_found : zch (zy 110).cls (zby 110) (zcode 110) [0, 276, 0] = true := by decide +kernel
theorem zk_X10_firstFound : zch (zy 111).cls (zby 111) (zcode 111) [0, 276, 0, 0, 0, 0, 272, 0, 941, 0] = true := by decide +kernel
theorem zk_X10_roomsFound : zch (zy 112).cls (zby 112) (zcode 112) [0, 0, 0, 0, 0, 0, 276, 0, 0, 0, 0, 272, 0, 941, 0, 0, 0, 0, 0, 0, 0, 0, 0] = true := by decide +kernel
theorem zk_X10_bestLook : zch (zy 113).cls (zby 113) (zcode 113) [0, 0, 0, 276, 0, 0, 0, 0, 0, 0, 0, 0, 0, 963, 0, 0, 0, 0, 0, 0, 0, 0, 0, 0, 0, 0] = true := by decide +kernel
theorem zk_X10_fits : zch (zy 114).cls (zby 114) (zcode 114) [0, 0, 0, 0, 274, 0, 0, 0, 0, 0, 267, 0, 941, 0, 942, 0, 268, 0, 941, 0, 0, 0, 0, 0, 0, 0] = true := by decide +kernel
theorem zk_X10_greatestPart : zch (zy 115).cls (zby 115) (zcode 115) [0, 273, 0, 967, 0, 0, 0, 0, 0, 0, 276, 0, 0, 272, 0, 941, 0, 0, 0, 0, 0, 0, 0, 0, 0, 0, 942, 0, 0, 273, 0, 941, 0, 0, 0, 0, 273, 0, 0, 927, 0, 0, 968, 0, 0, 0, 0, 0] = true := by decide +kernel
theorem zk_X11_feed : zch (zy 116).cls (zby 116) (zcode 116) [0, 0, 346, 0, 349, 0, 0, 314, 0, 350, 0, 0, 314, 357, 0, 361, 0] = true := by decide +kernel
theorem zk_X11_house : zch (zy 117).cls (zby 117) (zcode 117) [0, 314, 366, 0, 0, 0, 0, 0, 0, 0, 0, 315, 0, 314, 466, 470, 0, 316, 481, 0, 318, 499, 0, 319, 503, 0, 320, 507, 0, 315, 111, 0] = true := by decide +kernel
theorem zk_X11_fault : zch (zy 118).cls (zby 118) (zcode 118) [0, 314, 515, 0] = true := by decide +kernel
theorem zk_X11_told : zch (zy 119).cls (zby 119) (zcode 119) [0, 0, 0, 315, 103, 0, 0, 315, 107, 0, 0, 0, 0, 315, 111, 0, 0, 315, 120, 0, 0, 315, 124, 0, 0, 314, 357, 0, 0, 316, 195, 0, 0, 316, 197, 0, 0, 316, 523, 0, 0, 316, 528, 0, 0, 316, 550, 0, 0, 316, 564, 0, 0, 320, 570, 0, 0, 320, 574, 0, 0, 318, 578, 0, 349, 0] = true := by decide +kernel
theorem zk_X11_room : zch (zy 120).cls (zby 120) (zcode 120) [0, 315, 0, 586, 0, 590, 0, 0, 0, 0, 315, 0, 591, 0, 0, 316, 0, 592, 0, 0, 316, 0, 593, 0, 0, 316, 0, 596, 0, 0, 315, 0, 611, 0, 0, 0, 0, 0, 349, 0] = true := by decide +kernel
theorem zk_X11_bar : zch (zy 121).cls (zby 121) (zcode 121) [0, 315, 0, 0, 616, 0, 590, 0, 0, 0, 0, 315, 0, 0, 622, 0, 0, 315, 0, 0, 623, 0, 0, 316, 0, 0, 624, 0, 349, 0] = true := by decide +kernel
theorem zk_X11_person : zch (zy 122).cls (zby 122) (zcode 122) [0, 315, 0, 629, 0, 590, 0, 0, 0, 0, 316, 0, 633, 0, 0, 316, 0, 637, 0, 0, 316, 0, 641, 0, 0, 316, 0, 645, 0, 349, 0] = true := by decide +kernel
theorem zk_X11_wall : zch (zy 123).cls (zby 123) (zcode 123) [0, 315, 0, 655, 0, 590, 0, 0, 0, 346, 0, 349, 0, 0, 315, 0, 0, 659, 0] = true := by decide +kernel
theorem zk_X11_logged : zch (zy 124).cls (zby 124) (zcode 124) [0, 0, 346, 0, 349, 0, 0, 0, 316, 523, 0, 0, 346, 0, 0, 0, 0, 316, 0, 0, 667, 0] = true := by decide +kernel
theorem zk_X11_hour : zch (zy 125).cls (zby 125) (zcode 125) [0, 0, 675, 0, 0, 0, 0, 0, 0, 0, 0, 0, 0, 0, 318, 0, 316, 681, 0, 316, 695, 0, 0, 0, 0, 316, 197, 0] = true := by decide +kernel
theorem zk_X11_lift : zch (zy 126).cls (zby 126) (zcode 126) [0, 0, 0, 0, 739, 0] = true := by decide +kernel
theorem zk_X11_paste : zch (zy 127).cls (zby 127) (zcode 127) [0, 0, 0, 0, 739, 0] = true := by decide +kernel
theorem zk_X11_moveTo : zch (zy 128).cls (zby 128) (zcode 128) [0, 315, 0, 629, 0, 0, 315, 0, 586, 0, 590, 0, 0, 316, 0, 633, 0, 0, 0, 0, 0, 316, 0, 0, 316, 0, 645, 753, 0, 0, 0, 0, 679, 0, 0, 318, 0, 316, 681, 0, 316, 0, 0, 0, 756, 0, 0] = true := by decide +kernel
theorem zk_X11_pace : zch (zy 129).cls (zby 129) (zcode 129) [0, 315, 0, 629, 0, 590, 0, 0, 0, 346, 0, 349, 0, 0, 316, 0, 641, 0, 0, 318, 0, 316, 681, 0, 316, 0, 0, 761, 0, 0] = true := by decide +kernel
theorem zk_X11_drift : zch (zy 130).cls (zby 130) (zcode 130) [0, 0, 675, 0, 0, 0, 0, 0, 0, 0, 0, 0, 0, 0, 318, 0, 316, 681, 0, 766, 0, 316, 695, 0, 0, 0, 0, 316, 197, 0] = true := by decide +kernel
theorem zk_X11_undo : zch (zy 131).cls (zby 131) (zcode 131) [0, 0, 0, 0, 0, 0, 349, 0, 0, 0, 318, 578, 0, 679, 0, 0, 318, 0, 0, 316, 783, 0, 316, 195, 0] = true := by decide +kernel
theorem zk_X11_where : zch (zy 132).cls (zby 132) (zcode 132) [0, 315, 0, 629, 0, 590, 0, 0, 0, 346, 0, 349, 0, 0, 0, 791, 0, 0, 317, 0, 637, 0] = true := by decide +kernel
theorem zk_X11_meets : zch (zy 133).cls (zby 133) (zcode 133) [0, 0, 346, 0, 349, 0, 0, 0, 791, 0] = true := by decide +kernel
theorem zk_X11_together : zch (zy 134).cls (zby 134) (zcode 134) [0, 315, 0, 629, 0, 0, 315, 0, 629, 0, 0, 0, 0, 590, 0, 0, 317, 0, 316, 795, 0, 0, 0, 0, 0, 0, 317, 695, 0, 0, 317, 0, 0, 804, 0, 0, 0, 0, 0, 0, 0] = true := by decide +kernel
theorem zk_X11_canon : zch (zy 135).cls (zby 135) (zcode 135) [0, 0, 0, 811, 0, 590, 0, 0, 0, 346, 0, 349, 0, 0, 316, 0, 0, 0, 815, 0] = true := by decide +kernel
theorem zk_X11_bestCanon : zch (zy 136).cls (zby 136) (zcode 136) [0, 0, 0, 811, 0, 590, 0, 0, 0, 346, 0, 349, 0, 0, 316, 0, 0, 825, 0, 0, 0, 0, 0, 0, 316, 0, 0, 0, 815, 0] = true := by decide +kernel
theorem zk_X11_match : zch (zy 137).cls (zby 137) (zcode 137) [0, 0, 0, 811, 0, 590, 0, 0, 0, 346, 0, 0, 0, 346, 0, 349, 0, 0, 316, 0, 0, 0, 833, 0, 0, 0, 0, 0, 0, 0, 0, 0, 0, 839, 0] = true := by decide +kernel
theorem zk_X11_join : zch (zy 138).cls (zby 138) (zcode 138) [0, 0, 0, 811, 0, 590, 0, 0, 316, 0, 0, 844, 0] = true := by decide +kernel
theorem zk_X11_shortest : zch (zy 139).cls (zby 139) (zcode 139) [0, 0, 346, 0, 349, 0, 0, 315, 111, 0, 0, 0, 0, 321, 0, 316, 855, 0, 0, 0, 321, 876, 0, 0, 321, 880, 0] = true := by decide +kernel
theorem zk_X11_nearest : zch (zy 140).cls (zby 140) (zcode 140) [0, 315, 0, 586, 0, 590, 0, 0, 316, 0, 888, 0] = true := by decide +kernel
theorem zk_X11_modulation : zch (zy 141).cls (zby 141) (zcode 141) [0, 315, 0, 586, 0, 0, 315, 0, 586, 0, 590, 0, 0, 316, 0, 0, 902, 0] = true := by decide +kernel
theorem zk_X11_sounds : zch (zy 142).cls (zby 142) (zcode 142) [0, 0, 346, 0, 349, 0, 0, 0, 0, 0, 0, 0, 315, 120, 0, 0, 316, 0, 645, 0, 0, 0, 0, 0, 0, 0, 0, 0, 0, 0, 0] = true := by decide +kernel
theorem zk_X11_dry : zch (zy 143).cls (zby 143) (zcode 143) [0, 0, 346, 0, 0, 0, 346, 0, 349, 0, 917, 0, 0, 0, 0, 0, 0, 0, 0, 0, 0, 918, 0, 0, 0, 0, 0, 0, 0] = true := by decide +kernel
theorem zk_X11_see : zch (zy 144).cls (zby 144) (zcode 144) [0, 0, 346, 0, 0, 0, 346, 0, 349, 0, 0, 320, 0, 0, 923, 0, 0, 320, 570, 0, 361, 0] = true := by decide +kernel
theorem zk_X11_places : zch (zy 145).cls (zby 145) (zcode 145) [0, 0, 346, 0, 349, 0, 0, 320, 0, 316, 932, 0, 0, 0, 320, 943, 0, 0, 0, 0, 0, 320, 947, 0, 0, 320, 951, 0] = true := by decide +kernel
theorem zk_X11_lookAt : zch (zy 146).cls (zby 146) (zcode 146) [0, 320, 0, 316, 932, 0, 320, 0, 316, 959, 0] = true := by decide +kernel
theorem zk_X11_write : zch (zy 147).cls (zby 147) (zcode 147) [0, 315, 0, 0, 616, 0, 590, 0, 0, 0, 346, 0, 349, 0, 0, 320, 0, 0, 0, 975, 0, 0, 320, 574, 0, 361, 0] = true := by decide +kernel
theorem zk_X11_judge : zch (zy 148).cls (zby 148) (zcode 148) [0, 320, 0, 316, 983, 0] = true := by decide +kernel
theorem zk_X11_tear : zch (zy 149).cls (zby 149) (zcode 149) [0, 320, 570, 0, 320, 574, 0, 0, 0, 320, 507, 0, 0] = true := by decide +kernel
theorem zk_X11_seed : zch (zy 150).cls (zby 150) (zcode 150) [0, 0, 349, 0, 0, 322, 0, 0, 0, 322, 0, 0] = true := by decide +kernel
theorem zk_X11_keep : zch (zy 151).cls (zby 151) (zcode 151) [0, 0, 346, 0, 590, 0, 0, 319, 0, 0, 316, 0, 322, 1000, 0, 318, 499, 0, 0] = true := by decide +kernel
theorem zk_X11_goBack : zch (zy 152).cls (zby 152) (zcode 152) [0, 0, 346, 0, 590, 0, 0, 319, 0, 1010, 0, 679, 0, 0, 319, 0, 0, 316, 1015, 0, 0, 319, 0, 1019, 322, 0, 318, 499, 0, 0] = true := by decide +kernel
theorem zk_X11_beyond : zch (zy 153).cls (zby 153) (zcode 153) [0, 0, 0, 0, 0, 0, 0, 0, 0] = true := by decide +kernel
theorem zk_X11_areTwoRooms : zch (zy 154).cls (zby 154) (zcode 154) [0, 315, 0, 586, 0, 0, 315, 0, 586, 0, 0, 0, 0, 0, 0, 0, 0] = true := by decide +kernel
theorem zk_X11_refusalOfHours : zch (zy 155).cls (zby 155) (zcode 155) [0, 0, 0, 0, 0, 0, 349, 0, 0, 315, 103, 0, 679, 0, 0, 316, 195, 680, 0, 361, 0, 0, 0] = true := by decide +kernel
theorem zk_X11_turnByHand : zch (zy 156).cls (zby 156) (zcode 156) [0, 315, 0, 0, 616, 0, 590, 0, 0, 316, 0, 0, 743, 0, 0, 679, 0, 0, 318, 0, 316, 681, 0, 316, 0, 0, 744, 0, 316, 0, 0, 624, 0] = true := by decide +kernel
theorem zk_X11_meetingsTried : zch (zy 157).cls (zby 157) (zcode 157) [0, 317, 0, 316, 795, 0, 0, 0, 0, 0, 0, 0, 0, 0, 317, 695, 0, 0, 0, 0, 0, 0] = true := by decide +kernel
theorem zk_X11_draw : zch (zy 158).cls (zby 158) (zcode 158) [0, 0, 322, 0, 774, 0, 775, 0, 776, 0, 0, 322, 0, 322, 777, 0, 0, 778, 0] = true := by decide +kernel
theorem zk_X11_deedByDraws : zch (zy 159).cls (zby 159) (zcode 159) [0, 315, 111, 0, 0, 0, 0, 770, 0, 0, 0, 0, 0, 315, 111, 770, 0, 0, 316, 0, 0, 0, 315, 0, 591, 770, 744, 0, 0, 0, 0, 0, 315, 120, 0, 0, 0, 315, 120, 770, 0, 0, 316, 0, 0, 0, 770, 761, 0] = true := by decide +kernel
theorem zk_X12_in : zch (zy 160).cls (zby 160) (zcode 160) [0, 0, 0, 0, 0, 0, 0, 0, 0, 0, 0, 0] = true := by decide +kernel
theorem zk_X12_has : zch (zy 161).cls (zby 161) (zcode 161) [0, 0, 0, 0, 0, 0, 0, 0, 0, 0, 0] = true := by decide +kernel
theorem zk_X12_bits : zch (zy 162).cls (zby 162) (zcode 162) [0, 0, 0, 0, 0, 0, 0, 0, 0, 0, 0, 0, 0, 0, 0, 0] = true := by decide +kernel
theorem zk_X12_lesser : zch (zy 163).cls (zby 163) (zcode 163) [0, 0, 0, 0, 0, 0, 0] = true := by decide +kernel
theorem zk_X12_copies : zch (zy 164).cls (zby 164) (zcode 164) [0, 0, 0, 0, 0, 0, 0, 0, 0, 0, 0, 0, 0, 0, 0, 0, 0, 0] = true := by decide +kernel
theorem zk_X12_begins : zch (zy 165).cls (zby 165) (zcode 165) [0, 0, 0, 0, 0, 0, 1032, 0, 0, 0, 0, 0, 0, 1030, 0, 0, 1032, 0, 0, 1173, 0, 1030, 0, 0, 1032, 0, 0, 1173, 0, 1030, 0, 0, 1032, 0, 0, 1173, 0, 0, 1035, 0, 0, 1043, 0, 0, 1045, 0, 1037, 0, 0, 0, 0, 1037, 0, 0, 0, 0] = true := by decide +kernel
theorem zk_X12_feed : zch (zy 166).cls (zby 166) (zcode 166) [0, 0, 0, 1117, 1118, 0, 1121, 0, 0, 1040, 0, 0, 1122, 0, 0, 1039, 0, 1040, 0, 0, 0, 0, 1040, 0, 0, 1040, 0, 1040, 0] = true := by decide +kernel
theorem zk_X12_here : zch (zy 167).cls (zby 167) (zcode 167) [0, 1046, 0, 1040, 0, 0, 1039, 0, 1046, 0, 0, 0, 0] = true := by decide +kernel
theorem zk_X12_step : zch (zy 168).cls (zby 168) (zcode 168) [0, 1131, 0, 0, 0, 0, 1046, 0, 0, 1046, 0, 0, 0, 1046, 1047, 0, 0, 1131, 1048, 0, 0, 1049, 0, 0, 1050, 0, 1048, 0, 1135, 1136, 1118, 0, 0, 0, 1046, 0, 1048, 0, 0, 0, 0, 0, 1046, 0, 0, 0, 1048, 0, 1131, 0, 1135, 1136, 1118, 0, 0, 0, 1049, 0, 0, 0, 0, 1050, 0, 0, 1131, 0, 0, 0, 0, 0, 1050, 1050, 0, 0, 1049, 0, 0, 1049, 0, 0, 1046, 0, 0, 1046, 0, 0] = true := by decide +kernel
theorem zk_X12_fails : zch (zy 169).cls (zby 169) (zcode 169) [0, 0, 1051, 0, 0] = true := by decide +kernel
theorem zk_X12_number : zch (zy 170).cls (zby 170) (zcode 170) [0, 1127, 0, 1048, 0, 0, 0, 0, 1145, 0, 0, 1049, 0, 0, 0, 1050, 0, 0, 0, 0, 0, 1118, 0, 0, 0, 1145, 0, 0, 1031, 0, 0, 1050, 0, 0, 0] = true := by decide +kernel
theorem zk_X12_ends : zch (zy 171).cls (zby 171) (zcode 171) [0, 1127, 0, 1048, 0, 0, 0, 0, 1145, 0, 0, 0, 0, 0] = true := by decide +kernel
theorem zk_X12_row : zch (zy 172).cls (zby 172) (zcode 172) [0, 0, 0, 0, 0, 0, 0, 0, 0, 0, 0, 0, 1141, 0, 0, 0, 0, 0, 1127, 0, 1048, 0, 0, 0, 0, 0, 0, 0, 0, 0, 0, 0, 0, 0, 1145, 0, 0, 0, 1052, 0, 1048, 0, 0, 0, 0, 0, 0, 0, 1145, 0, 0, 0, 0, 0] = true := by decide +kernel
theorem zk_X12_readsRoom : zch (zy 173).cls (zby 173) (zcode 173) [0, 1031, 0, 0, 0, 0, 0, 0, 0, 0, 1145, 0, 0, 0, 0, 0, 0, 0, 0, 0, 1157, 0, 0, 0, 0, 1031, 0, 0, 0, 0, 1052, 0, 0, 1031, 0, 0, 0, 0, 0, 0, 0, 0] = true := by decide +kernel
theorem zk_X12_readsUnder : zch (zy 174).cls (zby 174) (zcode 174) [0, 0, 0, 0, 1031, 0, 0, 0, 0, 1141, 0, 0, 0, 0, 1050, 0, 0, 1031, 0, 0, 0, 0, 0, 0, 0, 0, 1145, 0, 0, 1031, 0, 0, 0, 0, 0, 0, 0, 0, 0, 0, 0, 0, 1031, 0, 0, 0, 0, 0, 1031, 0, 0, 0, 0, 1157, 0] = true := by decide +kernel
theorem zk_X12_readsPerson : zch (zy 175).cls (zby 175) (zcode 175) [0, 1031, 0, 0, 0, 0, 0, 0, 0, 0, 1145, 0, 0, 0, 0, 0, 0, 0, 1031, 0, 0, 0, 0, 1141, 0, 0, 0, 0, 0, 0, 0, 1031, 0, 0, 1031, 0, 0, 0, 0, 0, 0, 0, 0, 1141, 0, 0, 0, 0, 1031, 0, 0, 0, 0, 0, 0, 0, 0, 0, 0, 0, 0, 1141, 0, 0, 1149, 0, 0, 0, 0, 0] = true := by decide +kernel
theorem zk_X12_readsWall : zch (zy 176).cls (zby 176) (zcode 176) [0, 1031, 0, 0, 0, 0, 0, 0, 0, 0, 1145, 0, 0, 0, 0, 0, 0, 0, 1031, 0, 0, 0, 0, 1141, 0, 0, 0, 0, 0, 0, 0, 1031, 0, 0, 1031, 0, 0, 0, 0, 0, 0, 0, 0, 1141, 0, 0, 0, 0, 0, 0, 0, 1031, 0, 0, 0, 0, 1141, 0, 0, 0, 0, 1031, 0, 0, 0, 0, 0, 1031, 0, 0, 0, 0, 0, 0, 0, 1145, 0, 0, 1031, 0, 0, 0, 0, 0, 0, 0, 0, 0, 0, 0, 0, 1031, 0, 0, 1031, 0, 0, 0, 0, 0, 0, 0, 0, 1141, 0, 0, 1149, 0, 0, 0, 0, 0] = true := by decide +kernel
theorem zk_X12_readsClause : zch (zy 177).cls (zby 177) (zcode 177) [0, 1048, 0, 0, 0, 0, 0, 0, 0, 0, 1141, 0, 0, 1149, 0, 0, 0, 0, 0, 0, 0, 1145, 0, 0, 0, 0, 0, 1145, 0, 0, 1048, 0, 0, 1153, 0, 0, 1161, 0, 0, 1165, 0, 0, 1169, 0, 0, 0, 1145, 0] = true := by decide +kernel
theorem zk_X12_house : zch (zy 178).cls (zby 178) (zcode 178) [0, 0, 0, 0, 0, 0, 1031, 0, 0, 0, 0, 0, 0, 0, 1046, 0, 0, 1041, 0, 0, 0, 0, 0, 1127, 0, 1048, 0, 0, 0, 0, 0, 0, 0, 0, 0, 1137, 0, 0, 0, 0, 0, 1127, 0, 0, 0, 1040, 0, 0, 0, 0, 1047, 1041, 0, 0, 1051, 0, 0, 0, 1031, 0, 0, 0, 0, 0, 0, 0, 0, 1031, 0, 0, 1030, 0, 0, 1173, 0, 1176, 0, 1030, 0, 0, 0] = true := by decide +kernel
theorem zk_X12_fault : zch (zy 179).cls (zby 179) (zcode 179) [0, 1041, 0] = true := by decide +kernel
theorem zk_X12_isRoom : zch (zy 180).cls (zby 180) (zcode 180) [0, 0, 0, 0, 1030, 0, 0, 0, 0, 0, 1118, 0] = true := by decide +kernel
theorem zk_X12_isBar : zch (zy 181).cls (zby 181) (zcode 181) [0, 0, 1222, 0, 0, 0, 0, 0, 1030, 0, 0, 0, 0, 0, 0, 0, 1118, 0, 0, 0, 0, 0] = true := by decide +kernel
theorem zk_X12_isPerson : zch (zy 182).cls (zby 182) (zcode 182) [0, 0, 0, 0, 1030, 0, 0, 0, 0, 0, 1118, 0] = true := by decide +kernel
theorem zk_X12_areTwo : zch (zy 183).cls (zby 183) (zcode 183) [0, 0, 1222, 0, 0, 0, 1222, 0, 0, 0, 0, 0, 0, 0, 0] = true := by decide +kernel
theorem zk_X12_turned : zch (zy 184).cls (zby 184) (zcode 184) [0, 1030, 0, 0, 0, 0, 0, 0, 0, 0, 0, 0, 0, 0, 0] = true := by decide +kernel
theorem zk_X12_readsOn : zch (zy 185).cls (zby 185) (zcode 185) [0, 0, 0, 0, 0, 0, 0, 0, 0, 1200, 1203, 0] = true := by decide +kernel
theorem zk_X12_reads : zch (zy 186).cls (zby 186) (zcode 186) [0, 0, 1032, 0, 0, 1196, 0] = true := by decide +kernel
theorem zk_X12_open : zch (zy 187).cls (zby 187) (zcode 187) [0, 0, 0, 0, 0, 0, 1030, 0, 0, 0, 0, 0, 0, 0, 1030, 0, 0, 0, 0, 0, 0, 1192, 0, 0, 0, 1192, 0, 0, 0, 0, 0, 0, 0, 0, 0, 0, 0, 0] = true := by decide +kernel
theorem zk_X12_liftedInAll : zch (zy 188).cls (zby 188) (zcode 188) [0, 0, 0, 0, 0, 0, 0, 0, 0, 1032, 0, 0, 0, 0, 1211, 0, 0, 0, 0, 0, 0] = true := by decide +kernel
theorem zk_X12_mostRead : zch (zy 189).cls (zby 189) (zcode 189) [0, 0, 0, 0, 0, 0, 1053, 0, 0, 0, 0, 0, 0, 0, 0, 0, 1030, 0, 0, 0, 0, 0, 0, 0, 1030, 0, 0, 0, 0, 0, 0, 1053, 0, 0, 0, 1192, 0, 0, 0, 0, 0, 0, 0, 0, 0, 0, 0, 0, 0, 0, 0, 0, 0, 1053, 0, 0, 0, 0, 0, 0, 0, 1053, 0, 0, 0, 1053, 0, 0, 0, 0, 0, 0, 0, 0, 0, 0, 0] = true := by decide +kernel
theorem zk_X12_key : zch (zy 190).cls (zby 190) (zcode 190) [0, 0, 0, 0, 0, 0, 1030, 0, 0, 0, 0, 0, 0, 0, 0, 0, 1192, 0, 0, 0, 0, 0, 0, 0, 0] = true := by decide +kernel
theorem zk_X12_repeat : zch (zy 191).cls (zby 191) (zcode 191) [0, 1030, 0, 0, 0, 0, 0, 0, 0, 0, 0, 0, 0, 0, 0, 0, 0, 0, 0, 0, 0, 0, 0, 0, 1192, 0, 0, 0, 0, 0, 0, 0, 1192, 0, 0, 0, 0, 0, 0, 0, 0, 0, 0, 0, 0, 0, 0, 0] = true := by decide +kernel
theorem zk_X12_told : zch (zy 192).cls (zby 192) (zcode 192) [0, 0, 0, 1030, 0, 0, 0, 0, 0, 0, 1030, 0, 0, 0, 0, 1030, 0, 0, 0, 0, 1040, 0, 0, 1032, 0, 0, 0, 0, 1032, 0, 0, 0, 0, 1032, 0, 0, 0, 0, 1188, 0, 0, 1207, 0, 0, 1214, 0, 0, 1043, 0, 0, 1045, 0, 0, 1035, 0, 1121, 0] = true := by decide +kernel
theorem zk_X12_room : zch (zy 193).cls (zby 193) (zcode 193) [0, 0, 1222, 0, 1226, 0, 0, 0, 0, 1030, 0, 0, 0, 0, 0, 0, 1032, 0, 0, 0, 0, 0, 0, 0, 1227, 0, 0, 0, 1231, 0, 0, 1030, 0, 0, 0, 0, 0, 1121, 0] = true := by decide +kernel
theorem zk_X12_bar : zch (zy 194).cls (zby 194) (zcode 194) [0, 0, 0, 1239, 0, 1226, 0, 0, 0, 0, 1243, 1118, 0, 1121, 0, 0, 0, 0, 0, 0, 0, 1192, 0, 0, 0, 0, 0, 0, 0, 0, 0, 0, 1203, 0] = true := by decide +kernel
theorem zk_X12_person : zch (zy 195).cls (zby 195) (zcode 195) [0, 0, 1248, 0, 1226, 0, 0, 0, 0, 1252, 1118, 0, 1121, 0, 0, 0, 0, 0, 1032, 0, 0, 0, 0, 0, 0, 0, 0, 0, 0, 0, 1032, 0, 0, 0, 0, 0, 1032, 0, 0, 0, 0, 1192, 0] = true := by decide +kernel
theorem zk_X12_wall : zch (zy 196).cls (zby 196) (zcode 196) [0, 0, 0, 0, 1030, 0, 0, 0, 0, 0, 1118, 0, 1226, 0, 0, 0, 0, 1252, 1118, 0, 0, 1030, 0, 0, 0, 0, 0, 0, 0, 0, 0, 1121, 0] = true := by decide +kernel
theorem zk_X12_logged : zch (zy 197).cls (zby 197) (zcode 197) [0, 0, 0, 1243, 1118, 0, 1121, 0, 0, 0, 0, 0, 1032, 0, 0, 0, 0, 0, 1118, 0, 0, 0, 0, 1032, 0, 0, 1032, 0, 0, 0, 0, 0, 0, 0, 0, 0, 0, 0, 0, 0, 0, 0, 0, 0, 0, 0, 0, 0, 0, 0, 0, 0, 0, 0, 0] = true := by decide +kernel
theorem zk_X12_walks : zch (zy 198).cls (zby 198) (zcode 198) [0, 0, 0, 0, 0, 0, 0, 0, 0, 0, 0, 0, 0, 0, 0, 0, 0, 0, 0, 0, 0, 0, 0, 0, 0, 0, 0, 1030, 0, 0, 0, 0, 0, 0, 0, 0, 0, 0, 0, 0, 0, 0, 1196, 0, 0, 0, 0, 0] = true := by decide +kernel
theorem zk_X12_logs : zch (zy 199).cls (zby 199) (zcode 199) [0, 0, 1295, 0, 0, 0, 0, 0, 1296, 0, 0, 0, 0, 0, 0, 0, 0, 0, 0, 0, 0, 0, 0, 0, 0, 0, 0, 0, 0, 0, 0, 0, 0, 0, 0, 0, 0, 0, 0, 0, 0, 0, 0, 0, 0, 0, 0, 0, 0, 0, 0, 0, 0, 0, 0, 0, 0] = true := by decide +kernel
theorem zk_X12_isAt : zch (zy 200).cls (zby 200) (zcode 200) [0, 0, 0, 0, 0, 0, 0, 0, 0, 0, 0, 0, 0, 0, 0, 0, 0, 0] = true := by decide +kernel
theorem zk_X12_meetings : zch (zy 201).cls (zby 201) (zcode 201) [0, 0, 0, 0, 1054, 0, 0, 0, 0, 1030, 0, 0, 0, 0, 0, 0, 0, 1030, 0, 0, 0, 0, 0, 0, 0, 1030, 0, 0, 0, 0, 0, 0, 0, 1030, 0, 0, 0, 0, 0, 1030, 0, 0, 0, 0, 1288, 0, 0, 0, 0, 0, 1030, 0, 0, 0, 0, 0, 1030, 0, 0, 0, 0, 1288, 0, 0, 0, 0, 0, 0, 0, 0, 0, 0, 0, 1292, 0, 0, 0, 1054, 0, 0, 0, 0, 0, 0, 0, 0, 0, 0, 0, 0, 0, 0, 0, 0, 0, 0, 1054, 0, 0, 0, 0, 0, 0, 0, 0] = true := by decide +kernel
theorem zk_X12_hourGoes : zch (zy 202).cls (zby 202) (zcode 202) [0, 0, 0, 0, 1030, 0, 0, 0, 0, 0, 0, 1280, 0, 0, 0, 0, 0, 1284, 0, 0, 0, 0, 0, 0, 0, 0, 0, 1030, 0, 0, 0, 0, 0, 0, 0, 1030, 0, 0, 0, 0, 0, 1030, 0, 0, 0, 0, 0, 0, 0, 1030, 0, 0, 0, 0, 0, 0, 0, 0, 1030, 0, 0, 0, 0, 0, 0, 0, 0, 0, 0, 0, 0, 0, 1030, 0, 0, 0, 0, 1030, 0, 0, 0, 0, 0, 0, 0, 0, 0, 0] = true := by decide +kernel
theorem zk_X12_remember : zch (zy 203).cls (zby 203) (zcode 203) [0, 1035, 0, 0, 0, 0, 0, 0, 0, 0, 1034, 0, 0, 1034, 0, 0, 0, 0, 0, 0, 0, 0, 0, 1035, 0, 0, 1035, 0, 1032, 0, 0, 1034, 0, 0, 1035, 0, 0, 1173, 0, 0, 1035, 0, 0, 1035, 0] = true := by decide +kernel
theorem zk_X12_refuses : zch (zy 204).cls (zby 204) (zcode 204) [0, 0, 0, 1269, 1118, 0, 1121, 0, 0, 1030, 0, 0, 0, 1270, 0, 0, 1032, 0, 0, 1271, 0, 1122, 0, 0, 0] = true := by decide +kernel
theorem zk_X12_hour : zch (zy 205).cls (zby 205) (zcode 205) [0, 0, 1265, 0, 0, 0, 0, 0, 0, 0, 0, 0, 0, 0, 1272, 0, 0, 1032, 0, 1276, 0, 0, 0, 0, 1032, 0, 0, 0] = true := by decide +kernel
theorem zk_X12_lift : zch (zy 206).cls (zby 206) (zcode 206) [0, 0, 0, 1239, 0, 1226, 0, 0, 1032, 0, 0, 0, 0, 0, 1200, 0, 1270, 0, 0, 1272, 0, 1032, 0, 0, 0, 0, 0, 0, 0, 0, 0, 0, 0, 0, 0, 1192, 0] = true := by decide +kernel
theorem zk_X12_paste : zch (zy 207).cls (zby 207) (zcode 207) [0, 0, 0, 1239, 0, 1226, 0, 0, 1032, 0, 0, 0, 0, 0, 1200, 0, 1270, 0, 0, 1272, 0, 1032, 0, 0, 0, 0, 0, 0, 0, 0, 0, 0, 0, 0, 0, 0, 0, 1192, 0] = true := by decide +kernel
theorem zk_X12_moveTo : zch (zy 208).cls (zby 208) (zcode 208) [0, 0, 1248, 0, 0, 0, 1222, 0, 1226, 0, 0, 0, 1032, 0, 0, 0, 0, 0, 1032, 0, 0, 0, 0, 1192, 0, 0, 0, 0, 0, 1030, 0, 0, 0, 0, 0, 0, 1032, 0, 0, 0, 0, 0, 0, 0, 0, 0, 1192, 0, 0, 0, 1272, 0, 1032, 0, 0, 0, 0, 0, 0, 1032, 0, 0, 0, 0, 0, 0, 0, 0, 0, 1270, 0] = true := by decide +kernel
theorem zk_X12_pace : zch (zy 209).cls (zby 209) (zcode 209) [0, 0, 1248, 0, 1226, 0, 0, 0, 0, 1315, 1118, 0, 1121, 0, 0, 1272, 0, 1032, 0, 0, 0, 0, 0, 0, 1032, 0, 0, 0, 0, 0, 0, 0] = true := by decide +kernel
theorem zk_X12_draw : zch (zy 210).cls (zby 210) (zcode 210) [0, 0, 1038, 1328, 0, 1329, 0, 1330, 0, 1038, 0, 1038, 1331, 0, 0, 0, 0, 0, 0] = true := by decide +kernel
theorem zk_X12_draws : zch (zy 211).cls (zby 211) (zcode 211) [0, 0, 1324, 0, 0, 0, 0, 0, 1030, 0, 0, 1324, 0, 0, 1032, 0, 0, 0, 0, 0, 0, 0, 0, 1030, 0, 0, 0, 0, 1324, 0, 0, 0, 0, 0, 0, 0, 0, 1030, 0, 0, 0, 0, 0, 1030, 0, 0, 1324, 0, 0, 1032, 0, 0, 0, 0, 0, 1324, 0, 0] = true := by decide +kernel
theorem zk_X12_drift : zch (zy 212).cls (zby 212) (zcode 212) [0, 0, 1265, 0, 0, 0, 0, 0, 0, 0, 0, 0, 0, 0, 1272, 0, 1030, 0, 0, 0, 0, 1320, 0, 0, 1032, 0, 1276, 0, 0, 0, 0, 1032, 0, 0, 0] = true := by decide +kernel
theorem zk_X12_undo : zch (zy 213).cls (zby 213) (zcode 213) [0, 0, 0, 1269, 1118, 0, 1121, 0, 0, 0, 1035, 0, 1270, 0, 0, 0, 1035, 0, 0, 1035, 0, 1034, 0, 0, 1035, 0, 0, 1032, 0, 0, 1173, 0, 1032, 0, 0, 0] = true := by decide +kernel
theorem zk_X12_layAside : zch (zy 214).cls (zby 214) (zcode 214) [0, 1032, 0, 0, 1033, 0, 0, 1173, 0] = true := by decide +kernel
theorem zk_X12_where : zch (zy 215).cls (zby 215) (zcode 215) [0, 0, 1248, 0, 1226, 0, 0, 0, 0, 1340, 1118, 0, 1121, 0, 0, 1341, 0, 0, 0, 0, 0, 0, 0, 1033, 0, 1276, 0, 0, 0, 0, 1033, 0, 0, 0, 0, 0] = true := by decide +kernel
theorem zk_X12_meets : zch (zy 216).cls (zby 216) (zcode 216) [0, 0, 0, 1340, 1118, 0, 1121, 0, 0, 1341, 0, 0, 0, 0, 0, 0, 0, 0, 0, 0, 1033, 0, 1276, 0, 0, 0, 0, 0, 0] = true := by decide +kernel
theorem zk_X12_together : zch (zy 217).cls (zby 217) (zcode 217) [0, 0, 1248, 0, 0, 0, 1248, 0, 0, 0, 0, 1226, 0, 0, 1341, 0, 0, 0, 0, 0, 0, 0, 1033, 0, 0, 0, 0, 0, 1276, 0, 0, 1054, 0, 0, 0, 0, 0, 0, 0] = true := by decide +kernel
theorem zk_X12_isIn : zch (zy 218).cls (zby 218) (zcode 218) [0, 0, 0, 1192, 0, 0, 0, 0, 0, 0, 1030, 0, 0, 0, 0, 0, 1192, 0, 0, 0, 0, 0] = true := by decide +kernel
theorem zk_X12_inCanon : zch (zy 219).cls (zby 219) (zcode 219) [0, 0, 0, 0, 0, 0, 1030, 0, 0, 0, 0, 0, 0, 0, 0, 0, 0, 0, 1366, 0, 0, 0, 0, 0, 0, 0, 0, 0, 0] = true := by decide +kernel
theorem zk_X12_canon : zch (zy 220).cls (zby 220) (zcode 220) [0, 0, 0, 1357, 0, 1226, 0, 0, 0, 0, 1361, 1118, 0, 0, 0, 0, 0, 1362, 0, 1121, 0] = true := by decide +kernel
theorem zk_X12_bestCanon : zch (zy 221).cls (zby 221) (zcode 221) [0, 0, 0, 1357, 0, 1226, 0, 0, 0, 0, 0, 1118, 0, 1121, 0, 0, 0, 0, 0, 0, 0, 1030, 0, 0, 0, 0, 0, 0, 0, 0, 0, 1362, 0, 0, 0, 0, 1362, 0, 0, 0, 0, 0, 0, 0, 0, 0, 0, 0, 0, 0, 0, 0, 1362, 0] = true := by decide +kernel
theorem zk_X12_match : zch (zy 222).cls (zby 222) (zcode 222) [0, 0, 0, 1357, 0, 1226, 0, 0, 0, 0, 1361, 1118, 0, 0, 0, 0, 0, 1118, 0, 1121, 0, 0, 0, 0, 0, 0, 0, 1030, 0, 0, 0, 0, 0, 0, 0, 0, 0, 0, 1366, 0, 0, 0, 0, 0, 1032, 0, 0, 0, 0, 0, 1200, 0, 0, 0, 0, 1203, 0, 0, 0, 0, 0, 0, 1030, 0, 0, 0, 0, 0, 1192, 0, 0, 0, 0, 0, 0, 0, 0, 0, 0, 0, 0, 0, 0, 1211, 0, 0, 0] = true := by decide +kernel
theorem zk_X12_joinOf : zch (zy 223).cls (zby 223) (zcode 223) [0, 1030, 0, 0, 0, 0, 0, 1030, 0, 0, 0, 0, 1296, 0, 0, 0, 0, 0, 0, 0, 0, 0, 0, 0, 0, 0, 0, 0, 1030, 0, 0, 0, 0, 0, 0, 0, 0, 1192, 0, 0, 0, 1192, 0, 0, 0, 0, 0, 0, 0, 0, 0, 0, 0, 0, 0, 0, 0] = true := by decide +kernel
theorem zk_X12_join : zch (zy 224).cls (zby 224) (zcode 224) [0, 0, 0, 1357, 0, 0, 0, 0, 1382, 0, 1226, 0] = true := by decide +kernel
theorem zk_X12_nextOrder : zch (zy 225).cls (zby 225) (zcode 225) [0, 0, 0, 0, 0, 0, 0, 1055, 0, 0, 0, 1055, 0, 0, 0, 0, 0, 0, 0, 0, 0, 0, 0, 0, 0, 0, 0, 0, 1055, 0, 0, 0, 1055, 0, 0, 0, 0, 0, 0, 1055, 0, 0, 0, 0, 1055, 0, 0, 1055, 0, 0, 0, 0, 1055, 0, 0, 0, 0, 0, 0, 0, 0, 0, 0, 0, 0, 0, 0, 0, 1055, 0, 0, 0, 0, 1055, 0, 0, 1055, 0, 0, 0, 0, 1055, 0, 0, 0, 0, 0, 0, 0, 0] = true := by decide +kernel
theorem zk_X12_shortest : zch (zy 226).cls (zby 226) (zcode 226) [0, 0, 0, 0, 1118, 0, 1121, 0, 0, 1030, 0, 0, 0, 0, 0, 0, 0, 0, 0, 0, 0, 0, 0, 0, 0, 1055, 0, 0, 0, 0, 0, 1030, 0, 0, 0, 0, 0, 0, 0, 0, 0, 0, 0, 0, 1056, 0, 0, 0, 0, 0, 0, 0, 0, 0, 0, 0, 0, 0, 1382, 0, 0, 0, 0, 0, 1390, 0, 0, 0, 0, 0, 0, 0, 0, 0, 0, 1055, 0, 0, 0, 0, 0, 0, 0, 0, 0, 0, 0, 0, 1056, 0, 0, 1055, 0, 0, 0, 0, 0, 0, 1055, 0, 0, 0, 0, 0, 0, 0, 0, 0, 0, 1055, 0, 0, 0, 0, 0, 0, 0, 0, 0, 0, 0, 0, 0, 0, 0, 0, 0, 1296, 0, 0, 0, 1391, 0, 0, 0, 0, 0, 0, 0, 0] = true := by decide +kernel
theorem zk_X12_apart : zch (zy 227).cls (zby 227) (zcode 227) [0, 0, 1227, 0, 0, 1227, 0, 0, 0, 0, 0, 0, 0, 0, 0, 0, 0, 0, 0, 1296, 0] = true := by decide +kernel
theorem zk_X12_nearest : zch (zy 228).cls (zby 228) (zcode 228) [0, 0, 1222, 0, 1226, 0, 0, 0, 0, 0, 0, 0, 1030, 0, 0, 0, 0, 0, 0, 0, 0, 0, 0, 0, 0, 1399, 0, 0, 0, 1399, 0, 0, 0, 0, 0, 0, 0, 0, 0] = true := by decide +kernel
theorem zk_X12_modulation : zch (zy 229).cls (zby 229) (zcode 229) [0, 0, 1222, 0, 0, 0, 1222, 0, 1226, 0, 0, 0, 0, 0, 0, 0, 0, 0, 0, 0, 0, 1200, 0, 0, 0, 0, 0, 0, 0, 0, 0, 1030, 0, 0, 0, 0, 0, 0, 0, 1030, 0, 0, 0, 0, 0, 0, 1200, 0, 0, 0, 0, 1399, 0, 0, 0, 0, 0, 0, 0, 0, 0, 0, 0, 0, 0, 0, 0, 0, 0] = true := by decide +kernel
theorem zk_X12_sounds : zch (zy 230).cls (zby 230) (zcode 230) [0, 0, 0, 1315, 1118, 0, 1121, 0, 0, 0, 0, 0, 0, 0, 1030, 0, 0, 0, 0, 0, 0, 1032, 0, 0, 0, 0, 0, 1032, 0, 0, 0, 0, 1192, 0, 0, 0, 0, 0, 0, 0, 0, 0, 0, 0, 0, 0] = true := by decide +kernel
theorem zk_X12_dry : zch (zy 231).cls (zby 231) (zcode 231) [0, 0, 0, 1415, 1118, 0, 0, 0, 0, 1416, 1118, 0, 1121, 0, 1417, 0, 0, 0, 0, 0, 0, 0, 0, 0, 0, 1416, 0, 0, 0, 0, 0, 0, 0] = true := by decide +kernel
theorem zk_X12_see : zch (zy 232).cls (zby 232) (zcode 232) [0, 0, 0, 1361, 1118, 0, 0, 0, 0, 1315, 1118, 0, 1121, 0, 0, 1043, 0, 0, 1122, 0, 0, 1042, 0, 0, 1043, 0, 0, 0, 0, 1042, 0, 0, 1043, 0, 0, 0, 0, 0, 0, 0, 1043, 0, 0, 1043, 0, 1043, 0] = true := by decide +kernel
theorem zk_X12_isSo : zch (zy 233).cls (zby 233) (zcode 233) [0, 0, 0, 0, 0, 0, 0, 1043, 0, 0, 0, 0, 0, 0, 0, 0, 1042, 0, 0, 0, 0, 1030, 0, 0, 0, 0, 0, 1192, 0, 1042, 0, 0, 0, 0, 0, 0, 0, 0, 0, 0, 0, 0, 0] = true := by decide +kernel
theorem zk_X12_places : zch (zy 234).cls (zby 234) (zcode 234) [0, 0, 0, 1243, 1118, 0, 1121, 0, 0, 0, 0, 0, 0, 0, 0, 1030, 0, 0, 0, 0, 0, 0, 0, 0, 1030, 0, 0, 0, 0, 0, 0, 0, 0, 0, 0, 0, 0, 1426, 0, 0, 0, 0, 0, 0, 0, 0, 0, 0, 0, 0, 0, 0, 0, 0, 0, 0, 0, 0, 0, 0, 0, 0, 0, 0, 0, 0, 0] = true := by decide +kernel
theorem zk_X12_greatestPart : zch (zy 235).cls (zby 235) (zcode 235) [0, 0, 0, 0, 0, 0, 1053, 0, 0, 0, 0, 0, 0, 0, 0, 0, 0, 0, 1030, 0, 0, 0, 0, 0, 0, 0, 1030, 0, 0, 0, 0, 0, 0, 0, 0, 1426, 0, 0, 0, 0, 0, 0, 0, 1030, 0, 0, 0, 0, 0, 1192, 0, 0, 1053, 0, 0, 0, 0, 0, 0, 0, 1053, 0, 0, 0, 0, 0, 1053, 0, 0, 0, 0, 0, 0, 0, 0, 0, 0, 0] = true := by decide +kernel
theorem zk_X12_lookAt : zch (zy 236).cls (zby 236) (zcode 236) [0, 0, 1434, 0, 0, 0, 0, 0, 0, 0, 0, 0, 0, 1435, 0, 0, 0, 0, 0, 0, 0, 0, 0, 0, 1296, 0, 0, 0, 0, 0] = true := by decide +kernel
theorem zk_X12_write : zch (zy 237).cls (zby 237) (zcode 237) [0, 0, 0, 1239, 0, 1226, 0, 0, 0, 0, 1315, 1118, 0, 1121, 0, 0, 1045, 0, 0, 1122, 0, 0, 1044, 0, 0, 1045, 0, 0, 0, 0, 1044, 0, 0, 1045, 0, 0, 0, 0, 0, 0, 1044, 0, 0, 1045, 0, 0, 0, 0, 0, 0, 0, 1045, 0, 0, 1045, 0, 1045, 0] = true := by decide +kernel
theorem zk_X12_judge : zch (zy 238).cls (zby 238) (zcode 238) [0, 0, 0, 0, 1045, 0, 0, 0, 1044, 0, 0, 0, 0, 0, 1044, 0, 0, 0, 0, 0, 0, 1192, 0, 1044, 0, 0, 0, 0, 0, 0, 0, 0, 0, 0, 0, 0, 0] = true := by decide +kernel
theorem zk_X12_tear : zch (zy 239).cls (zby 239) (zcode 239) [0, 1043, 0, 1045, 0, 0, 0, 0, 1043, 0, 0, 1045, 0, 0] = true := by decide +kernel
theorem zk_X12_seed : zch (zy 240).cls (zby 240) (zcode 240) [0, 0, 1121, 0, 0, 1038, 0, 0, 0, 0, 0, 1038, 0, 0] = true := by decide +kernel
theorem zk_X12_keep : zch (zy 241).cls (zby 241) (zcode 241) [0, 0, 0, 0, 1118, 0, 1226, 0, 0, 1032, 0, 0, 1036, 0, 0, 0, 0, 1173, 0, 1036, 0, 0, 0, 0, 0, 0, 1038, 0, 0, 0, 1037, 0, 0, 0, 0, 0, 1035, 0, 0] = true := by decide +kernel
theorem zk_X12_goBack : zch (zy 242).cls (zby 242) (zcode 242) [0, 0, 0, 0, 1118, 0, 1226, 0, 0, 1037, 0, 0, 0, 1270, 0, 0, 1036, 0, 0, 0, 0, 1032, 0, 0, 1173, 0, 0, 1036, 0, 0, 0, 0, 0, 0, 0, 1038, 0, 0, 1035, 0, 0] = true := by decide +kernel
end
section
/-! the law itself, piece by piece -/
def zche (own : String) (b : ByteArray) (q : zE × Nat) : Bool := decide (decode b q.1.1 = .ok (q.1.2.2.1, q.1.2.1)) && zok q.1 && zlk own q.1 q.2
def zlaw_ps : List Nat := [0, 0, 0, 0, 0, 0, 0, 0, 0, 0, 0, 0, 0, 0, 0, 0, 0, 0, 0, 0, 0, 0, 0, 0, 0, 0, 0, 0, 342, 0, 0, 0, 0, 0, 0, 1113, 0, 0, 0, 0, 362, 0, 1123, 0, 0, 0, 0, 511, 0, 1180, 0, 0, 0, 0, 0, 0, 0, 0, 0, 519, 0, 0, 0, 0, 0, 0, 1184, 0, 0, 0, 0, 0, 0, 0, 0, 0, 0, 0, 0, 0, 0, 582, 0, 0, 0, 0, 0, 0, 0, 0, 0, 0, 0, 1218, 0, 0, 0, 0, 0, 0, 0, 0, 0, 0, 0, 0, 0, 0, 0, 0, 0, 0, 0, 612, 0, 0, 0, 0, 0, 0, 0, 0, 0, 0, 0, 0, 0, 0, 0, 0, 1235, 0, 0, 0, 0, 0, 0, 0, 0, 0, 0, 0, 0, 0, 0, 625, 0, 0, 0, 0, 0, 0, 0, 0, 0, 0, 0, 1244, 0, 0, 0, 0, 0, 0, 0, 0, 0, 0, 0, 0, 0, 0, 651, 0, 0, 0, 0, 0, 0, 0, 0, 0, 0, 0, 1253, 0, 0, 0, 0, 0, 0, 0, 0, 0, 0, 0, 0, 0, 0, 663, 0, 0, 0, 0, 0, 0, 0, 0, 0, 0, 0, 1257, 0, 0, 0, 0, 0, 0, 0, 0, 0, 671, 0, 0, 0, 0, 0, 0, 1261, 0, 0, 0, 0, 0, 0, 0, 0, 0, 0, 0, 0, 0, 0, 735, 0, 0, 0, 0, 0, 0, 0, 0, 0, 0, 0, 1299, 0, 0, 0, 0, 0, 0, 0, 0, 0, 0, 0, 0, 0, 0, 745, 0, 0, 0, 0, 0, 0, 0, 0, 0, 0, 0, 1303, 0, 0, 0, 0, 0, 0, 0, 0, 0, 0, 0, 0, 0, 0, 749, 0, 0, 0, 0, 0, 0, 0, 0, 0, 0, 0, 1307, 0, 0, 0, 0, 0, 0, 0, 0, 0, 0, 0, 0, 0, 0, 757, 0, 0, 0, 0, 0, 0, 0, 0, 0, 0, 0, 1311, 0, 0, 0, 0, 0, 0, 0, 0, 0, 762, 0, 0, 0, 0, 0, 0, 1316, 0, 0, 0, 0, 0, 0, 0, 0, 0, 779, 0, 0, 0, 0, 0, 0, 1332, 0, 0, 0, 0, 0, 0, 0, 0, 0, 0, 0, 0, 0, 0, 787, 0, 0, 0, 0, 0, 0, 0, 0, 0, 0, 0, 1336, 0, 0, 0, 0, 0, 0, 0, 0, 0, 796, 0, 0, 0, 0, 0, 0, 1345, 0, 0, 0, 0, 0, 0, 0, 0, 0, 0, 0, 0, 0, 0, 800, 0, 0, 0, 0, 0, 0, 0, 0, 0, 0, 0, 1349, 0, 0, 0, 0, 0, 0, 0, 0, 0, 0, 0, 0, 0, 0, 0, 0, 0, 0, 0, 807, 0, 0, 0, 0, 0, 0, 0, 0, 0, 0, 0, 0, 0, 0, 0, 0, 1353, 0, 0, 0, 0, 0, 0, 0, 0, 0, 0, 0, 0, 0, 0, 0, 0, 0, 0, 0, 821, 0, 0, 0, 0, 0, 0, 0, 0, 0, 0, 0, 0, 0, 0, 0, 0, 1370, 0, 0, 0, 0, 0, 0, 0, 0, 0, 0, 0, 0, 0, 0, 0, 0, 0, 0, 0, 0, 0, 0, 0, 0, 829, 0, 0, 0, 0, 0, 0, 0, 0, 0, 0, 0, 0, 0, 0, 0, 0, 0, 0, 0, 0, 0, 1374, 0, 0, 0, 0, 0, 0, 0, 0, 0, 0, 0, 0, 0, 0, 840, 0, 0, 0, 0, 0, 0, 0, 0, 0, 0, 0, 1378, 0, 0, 0, 0, 0, 0, 0, 0, 0, 851, 0, 0, 0, 0, 0, 0, 1386, 0, 0, 0, 0, 0, 0, 0, 0, 0, 884, 0, 0, 0, 0, 0, 0, 1395, 0, 0, 0, 0, 0, 0, 0, 0, 0, 0, 0, 0, 0, 0, 898, 0, 0, 0, 0, 0, 0, 0, 0, 0, 0, 0, 1403, 0, 0, 0, 0, 0, 0, 0, 0, 0, 909, 0, 0, 0, 0, 0, 0, 1407, 0, 0, 0, 0, 0, 0, 0, 0, 0, 0, 0, 0, 0, 0, 913, 0, 0, 0, 0, 0, 0, 0, 0, 0, 0, 0, 1411, 0, 0, 0, 0, 0, 0, 0, 0, 0, 0, 0, 0, 0, 0, 919, 0, 0, 0, 0, 0, 0, 0, 0, 0, 0, 0, 1418, 0, 0, 0, 0, 0, 0, 0, 0, 0, 928, 0, 0, 0, 0, 0, 0, 1422, 0, 0, 0, 0, 955, 0, 1430, 0, 0, 0, 0, 0, 0, 0, 0, 0, 0, 0, 0, 0, 0, 0, 0, 0, 0, 0, 971, 0, 0, 0, 0, 0, 0, 0, 0, 0, 0, 0, 0, 0, 0, 0, 0, 1439, 0, 0, 0, 0, 979, 0, 1443, 0, 0, 0, 0, 988, 0, 1447, 0, 0, 0, 0, 0, 0, 0, 0, 0, 992, 0, 0, 0, 0, 0, 0, 1451, 0, 0, 0, 0, 0, 0, 0, 0, 0, 996, 0, 0, 0, 0, 0, 0, 1455, 0, 0, 0, 0, 0, 0, 0, 0, 0, 1006, 0, 0, 0, 0, 0, 0, 1459, 0, 0, 0, 0, 0, 0, 0]
def zlw_0 : List (zE × Nat) := [((0, 3, .new 7, 0, 0, 0), 0), ((3, 1, .dup, 0, 0, 0), 0), ((4, 3, .invokespecial 9, 0, 0, 0), 0), ((7, 1, .astore_n 1, 0, 0, 0), 0), ((8, 3, .new 10, 0, 0, 0), 0), ((11, 1, .dup, 0, 0, 0), 0), ((12, 3, .invokespecial 12, 0, 0, 0), 0), ((15, 1, .astore_n 2, 0, 0, 0), 0), ((16, 1, .iconst 0, 0, 0, 0), 0), ((17, 1, .istore_n 3, 0, 0, 0), 0), ((18, 1, .iload_n 3, 0, 0, 0), 0), ((19, 1, .aload_n 0, 0, 0, 0), 0), ((20, 1, .arraylength, 0, 0, 0), 0), ((21, 1, .iconst 5, 0, 0, 0), 0), ((22, 1, .isub, 0, 0, 0), 0), ((23, 3, .if_icmp .gt 1230, 0, 0, 0), 0), ((26, 1, .aload_n 0, 0, 0, 0), 0), ((27, 1, .iload_n 3, 0, 0, 0), 0), ((28, 1, .iaload, 0, 0, 0), 0), ((29, 2, .bipush 63, 0, 0, 0), 0), ((31, 1, .iand, 0, 0, 0), 0), ((32, 164, .tableswitch 1215 0 36 #[164, 187, 200, 213, 236, 269, 312, 345, 378, 411, 434, 467, 500, 533, 566, 589, 612, 645, 668, 701, 744, 787, 840, 873, 896, 919, 952, 975, 1008, 1041, 1064, 1077, 1120, 1133, 1146, 1169, 1192], 0, 0, 0), 0), ((196, 1, .aload_n 1, 0, 0, 0), 0), ((197, 1, .aload_n 0, 0, 0, 0), 0), ((198, 1, .iload_n 3, 0, 0, 0), 0), ((199, 1, .iconst 1, 0, 0, 0), 0), ((200, 1, .iadd, 0, 0, 0), 0), ((201, 1, .iaload, 0, 0, 0), 0), ((202, 3, .invokevirtual 13, 116, 2, 1), 342), ((205, 1, .aload_n 2, 0, 0, 0), 0), ((206, 1, .aload_n 0, 0, 0, 0), 0), ((207, 1, .iload_n 3, 0, 0, 0), 0), ((208, 1, .iconst 1, 0, 0, 0), 0), ((209, 1, .iadd, 0, 0, 0), 0), ((210, 1, .iaload, 0, 0, 0), 0), ((211, 3, .invokevirtual 17, 166, 2, 9), 1113), ((214, 3, .if_icmp .eq 1033, 0, 0, 0), 0), ((217, 1, .iconst 0, 0, 0, 0), 0), ((218, 1, .ireturn, 0, 0, 0), 0), ((219, 1, .aload_n 1, 0, 0, 0), 0), ((220, 3, .invokevirtual 18, 117, 1, 1), 362), ((223, 1, .aload_n 2, 0, 0, 0), 0), ((224, 3, .invokevirtual 22, 178, 1, 9), 1123), ((227, 3, .if_icmp .eq 1020, 0, 0, 0), 0), ((230, 1, .iconst 0, 0, 0, 0), 0)]
theorem zlc_0 : zlw_0.all (zche RL cL_law) = true := by decide +kernel
def zlw_1 : List (zE × Nat) := [((231, 1, .ireturn, 0, 0, 0), 0), ((232, 1, .aload_n 1, 0, 0, 0), 0), ((233, 3, .invokevirtual 23, 118, 1, 1), 511), ((236, 1, .aload_n 2, 0, 0, 0), 0), ((237, 3, .invokevirtual 26, 179, 1, 9), 1180), ((240, 3, .if_icmp .eq 1007, 0, 0, 0), 0), ((243, 1, .iconst 0, 0, 0, 0), 0), ((244, 1, .ireturn, 0, 0, 0), 0), ((245, 1, .aload_n 1, 0, 0, 0), 0), ((246, 1, .aload_n 0, 0, 0, 0), 0), ((247, 1, .iload_n 3, 0, 0, 0), 0), ((248, 1, .iconst 1, 0, 0, 0), 0), ((249, 1, .iadd, 0, 0, 0), 0), ((250, 1, .iaload, 0, 0, 0), 0), ((251, 3, .invokevirtual 27, 119, 2, 1), 519), ((254, 1, .aload_n 2, 0, 0, 0), 0), ((255, 1, .aload_n 0, 0, 0, 0), 0), ((256, 1, .iload_n 3, 0, 0, 0), 0), ((257, 1, .iconst 1, 0, 0, 0), 0), ((258, 1, .iadd, 0, 0, 0), 0), ((259, 1, .iaload, 0, 0, 0), 0), ((260, 3, .invokevirtual 30, 192, 2, 9), 1184), ((263, 3, .if_icmp .eq 984, 0, 0, 0), 0), ((266, 1, .iconst 0, 0, 0, 0), 0), ((267, 1, .ireturn, 0, 0, 0), 0), ((268, 1, .aload_n 1, 0, 0, 0), 0), ((269, 1, .aload_n 0, 0, 0, 0), 0), ((270, 1, .iload_n 3, 0, 0, 0), 0), ((271, 1, .iconst 1, 0, 0, 0), 0), ((272, 1, .iadd, 0, 0, 0), 0), ((273, 1, .iaload, 0, 0, 0), 0), ((274, 1, .aload_n 0, 0, 0, 0), 0), ((275, 1, .iload_n 3, 0, 0, 0), 0), ((276, 1, .iconst 2, 0, 0, 0), 0), ((277, 1, .iadd, 0, 0, 0), 0), ((278, 1, .iaload, 0, 0, 0), 0), ((279, 3, .invokevirtual 31, 120, 3, 1), 582), ((282, 1, .aload_n 2, 0, 0, 0), 0), ((283, 1, .aload_n 0, 0, 0, 0), 0), ((284, 1, .iload_n 3, 0, 0, 0), 0), ((285, 1, .iconst 1, 0, 0, 0), 0), ((286, 1, .iadd, 0, 0, 0), 0), ((287, 1, .iaload, 0, 0, 0), 0), ((288, 1, .aload_n 0, 0, 0, 0), 0), ((289, 1, .iload_n 3, 0, 0, 0), 0)]
theorem zlc_1 : zlw_1.all (zche RL cL_law) = true := by decide +kernel
def zlw_2 : List (zE × Nat) := [((290, 1, .iconst 2, 0, 0, 0), 0), ((291, 1, .iadd, 0, 0, 0), 0), ((292, 1, .iaload, 0, 0, 0), 0), ((293, 3, .invokevirtual 35, 193, 3, 9), 1218), ((296, 3, .if_icmp .eq 951, 0, 0, 0), 0), ((299, 1, .iconst 0, 0, 0, 0), 0), ((300, 1, .ireturn, 0, 0, 0), 0), ((301, 1, .aload_n 1, 0, 0, 0), 0), ((302, 1, .aload_n 0, 0, 0, 0), 0), ((303, 1, .iload_n 3, 0, 0, 0), 0), ((304, 1, .iconst 1, 0, 0, 0), 0), ((305, 1, .iadd, 0, 0, 0), 0), ((306, 1, .iaload, 0, 0, 0), 0), ((307, 1, .aload_n 0, 0, 0, 0), 0), ((308, 1, .iload_n 3, 0, 0, 0), 0), ((309, 1, .iconst 2, 0, 0, 0), 0), ((310, 1, .iadd, 0, 0, 0), 0), ((311, 1, .iaload, 0, 0, 0), 0), ((312, 1, .aload_n 0, 0, 0, 0), 0), ((313, 1, .iload_n 3, 0, 0, 0), 0), ((314, 1, .iconst 3, 0, 0, 0), 0), ((315, 1, .iadd, 0, 0, 0), 0), ((316, 1, .iaload, 0, 0, 0), 0), ((317, 3, .invokevirtual 36, 121, 4, 1), 612), ((320, 1, .aload_n 2, 0, 0, 0), 0), ((321, 1, .aload_n 0, 0, 0, 0), 0), ((322, 1, .iload_n 3, 0, 0, 0), 0), ((323, 1, .iconst 1, 0, 0, 0), 0), ((324, 1, .iadd, 0, 0, 0), 0), ((325, 1, .iaload, 0, 0, 0), 0), ((326, 1, .aload_n 0, 0, 0, 0), 0), ((327, 1, .iload_n 3, 0, 0, 0), 0), ((328, 1, .iconst 2, 0, 0, 0), 0), ((329, 1, .iadd, 0, 0, 0), 0), ((330, 1, .iaload, 0, 0, 0), 0), ((331, 1, .aload_n 0, 0, 0, 0), 0), ((332, 1, .iload_n 3, 0, 0, 0), 0), ((333, 1, .iconst 3, 0, 0, 0), 0), ((334, 1, .iadd, 0, 0, 0), 0), ((335, 1, .iaload, 0, 0, 0), 0), ((336, 3, .invokevirtual 40, 194, 4, 9), 1235), ((339, 3, .if_icmp .eq 908, 0, 0, 0), 0), ((342, 1, .iconst 0, 0, 0, 0), 0), ((343, 1, .ireturn, 0, 0, 0), 0), ((344, 1, .aload_n 1, 0, 0, 0), 0)]
theorem zlc_2 : zlw_2.all (zche RL cL_law) = true := by decide +kernel
def zlw_3 : List (zE × Nat) := [((345, 1, .aload_n 0, 0, 0, 0), 0), ((346, 1, .iload_n 3, 0, 0, 0), 0), ((347, 1, .iconst 1, 0, 0, 0), 0), ((348, 1, .iadd, 0, 0, 0), 0), ((349, 1, .iaload, 0, 0, 0), 0), ((350, 1, .aload_n 0, 0, 0, 0), 0), ((351, 1, .iload_n 3, 0, 0, 0), 0), ((352, 1, .iconst 2, 0, 0, 0), 0), ((353, 1, .iadd, 0, 0, 0), 0), ((354, 1, .iaload, 0, 0, 0), 0), ((355, 3, .invokevirtual 41, 122, 3, 1), 625), ((358, 1, .aload_n 2, 0, 0, 0), 0), ((359, 1, .aload_n 0, 0, 0, 0), 0), ((360, 1, .iload_n 3, 0, 0, 0), 0), ((361, 1, .iconst 1, 0, 0, 0), 0), ((362, 1, .iadd, 0, 0, 0), 0), ((363, 1, .iaload, 0, 0, 0), 0), ((364, 1, .aload_n 0, 0, 0, 0), 0), ((365, 1, .iload_n 3, 0, 0, 0), 0), ((366, 1, .iconst 2, 0, 0, 0), 0), ((367, 1, .iadd, 0, 0, 0), 0), ((368, 1, .iaload, 0, 0, 0), 0), ((369, 3, .invokevirtual 44, 195, 3, 9), 1244), ((372, 3, .if_icmp .eq 875, 0, 0, 0), 0), ((375, 1, .iconst 0, 0, 0, 0), 0), ((376, 1, .ireturn, 0, 0, 0), 0), ((377, 1, .aload_n 1, 0, 0, 0), 0), ((378, 1, .aload_n 0, 0, 0, 0), 0), ((379, 1, .iload_n 3, 0, 0, 0), 0), ((380, 1, .iconst 1, 0, 0, 0), 0), ((381, 1, .iadd, 0, 0, 0), 0), ((382, 1, .iaload, 0, 0, 0), 0), ((383, 1, .aload_n 0, 0, 0, 0), 0), ((384, 1, .iload_n 3, 0, 0, 0), 0), ((385, 1, .iconst 2, 0, 0, 0), 0), ((386, 1, .iadd, 0, 0, 0), 0), ((387, 1, .iaload, 0, 0, 0), 0), ((388, 3, .invokevirtual 45, 123, 3, 1), 651), ((391, 1, .aload_n 2, 0, 0, 0), 0), ((392, 1, .aload_n 0, 0, 0, 0), 0), ((393, 1, .iload_n 3, 0, 0, 0), 0), ((394, 1, .iconst 1, 0, 0, 0), 0), ((395, 1, .iadd, 0, 0, 0), 0), ((396, 1, .iaload, 0, 0, 0), 0), ((397, 1, .aload_n 0, 0, 0, 0), 0)]
theorem zlc_3 : zlw_3.all (zche RL cL_law) = true := by decide +kernel
def zlw_4 : List (zE × Nat) := [((398, 1, .iload_n 3, 0, 0, 0), 0), ((399, 1, .iconst 2, 0, 0, 0), 0), ((400, 1, .iadd, 0, 0, 0), 0), ((401, 1, .iaload, 0, 0, 0), 0), ((402, 3, .invokevirtual 48, 196, 3, 9), 1253), ((405, 3, .if_icmp .eq 842, 0, 0, 0), 0), ((408, 1, .iconst 0, 0, 0, 0), 0), ((409, 1, .ireturn, 0, 0, 0), 0), ((410, 1, .aload_n 1, 0, 0, 0), 0), ((411, 1, .aload_n 0, 0, 0, 0), 0), ((412, 1, .iload_n 3, 0, 0, 0), 0), ((413, 1, .iconst 1, 0, 0, 0), 0), ((414, 1, .iadd, 0, 0, 0), 0), ((415, 1, .iaload, 0, 0, 0), 0), ((416, 1, .aload_n 0, 0, 0, 0), 0), ((417, 1, .iload_n 3, 0, 0, 0), 0), ((418, 1, .iconst 2, 0, 0, 0), 0), ((419, 1, .iadd, 0, 0, 0), 0), ((420, 1, .iaload, 0, 0, 0), 0), ((421, 3, .invokevirtual 49, 124, 3, 1), 663), ((424, 1, .aload_n 2, 0, 0, 0), 0), ((425, 1, .aload_n 0, 0, 0, 0), 0), ((426, 1, .iload_n 3, 0, 0, 0), 0), ((427, 1, .iconst 1, 0, 0, 0), 0), ((428, 1, .iadd, 0, 0, 0), 0), ((429, 1, .iaload, 0, 0, 0), 0), ((430, 1, .aload_n 0, 0, 0, 0), 0), ((431, 1, .iload_n 3, 0, 0, 0), 0), ((432, 1, .iconst 2, 0, 0, 0), 0), ((433, 1, .iadd, 0, 0, 0), 0), ((434, 1, .iaload, 0, 0, 0), 0), ((435, 3, .invokevirtual 52, 197, 3, 9), 1257), ((438, 3, .if_icmp .eq 809, 0, 0, 0), 0), ((441, 1, .iconst 0, 0, 0, 0), 0), ((442, 1, .ireturn, 0, 0, 0), 0), ((443, 1, .aload_n 1, 0, 0, 0), 0), ((444, 1, .aload_n 0, 0, 0, 0), 0), ((445, 1, .iload_n 3, 0, 0, 0), 0), ((446, 1, .iconst 1, 0, 0, 0), 0), ((447, 1, .iadd, 0, 0, 0), 0), ((448, 1, .iaload, 0, 0, 0), 0), ((449, 3, .invokevirtual 53, 125, 2, 1), 671), ((452, 1, .aload_n 2, 0, 0, 0), 0), ((453, 1, .aload_n 0, 0, 0, 0), 0), ((454, 1, .iload_n 3, 0, 0, 0), 0)]
theorem zlc_4 : zlw_4.all (zche RL cL_law) = true := by decide +kernel
def zlw_5 : List (zE × Nat) := [((455, 1, .iconst 1, 0, 0, 0), 0), ((456, 1, .iadd, 0, 0, 0), 0), ((457, 1, .iaload, 0, 0, 0), 0), ((458, 3, .invokevirtual 56, 205, 2, 9), 1261), ((461, 3, .if_icmp .eq 786, 0, 0, 0), 0), ((464, 1, .iconst 0, 0, 0, 0), 0), ((465, 1, .ireturn, 0, 0, 0), 0), ((466, 1, .aload_n 1, 0, 0, 0), 0), ((467, 1, .aload_n 0, 0, 0, 0), 0), ((468, 1, .iload_n 3, 0, 0, 0), 0), ((469, 1, .iconst 1, 0, 0, 0), 0), ((470, 1, .iadd, 0, 0, 0), 0), ((471, 1, .iaload, 0, 0, 0), 0), ((472, 1, .aload_n 0, 0, 0, 0), 0), ((473, 1, .iload_n 3, 0, 0, 0), 0), ((474, 1, .iconst 2, 0, 0, 0), 0), ((475, 1, .iadd, 0, 0, 0), 0), ((476, 1, .iaload, 0, 0, 0), 0), ((477, 3, .invokevirtual 57, 126, 3, 1), 735), ((480, 1, .aload_n 2, 0, 0, 0), 0), ((481, 1, .aload_n 0, 0, 0, 0), 0), ((482, 1, .iload_n 3, 0, 0, 0), 0), ((483, 1, .iconst 1, 0, 0, 0), 0), ((484, 1, .iadd, 0, 0, 0), 0), ((485, 1, .iaload, 0, 0, 0), 0), ((486, 1, .aload_n 0, 0, 0, 0), 0), ((487, 1, .iload_n 3, 0, 0, 0), 0), ((488, 1, .iconst 2, 0, 0, 0), 0), ((489, 1, .iadd, 0, 0, 0), 0), ((490, 1, .iaload, 0, 0, 0), 0), ((491, 3, .invokevirtual 60, 206, 3, 9), 1299), ((494, 3, .if_icmp .eq 753, 0, 0, 0), 0), ((497, 1, .iconst 0, 0, 0, 0), 0), ((498, 1, .ireturn, 0, 0, 0), 0), ((499, 1, .aload_n 1, 0, 0, 0), 0), ((500, 1, .aload_n 0, 0, 0, 0), 0), ((501, 1, .iload_n 3, 0, 0, 0), 0), ((502, 1, .iconst 1, 0, 0, 0), 0), ((503, 1, .iadd, 0, 0, 0), 0), ((504, 1, .iaload, 0, 0, 0), 0), ((505, 1, .aload_n 0, 0, 0, 0), 0), ((506, 1, .iload_n 3, 0, 0, 0), 0), ((507, 1, .iconst 2, 0, 0, 0), 0), ((508, 1, .iadd, 0, 0, 0), 0), ((509, 1, .iaload, 0, 0, 0), 0)]
theorem zlc_5 : zlw_5.all (zche RL cL_law) = true := by decide +kernel
def zlw_6 : List (zE × Nat) := [((510, 3, .invokevirtual 61, 127, 3, 1), 745), ((513, 1, .aload_n 2, 0, 0, 0), 0), ((514, 1, .aload_n 0, 0, 0, 0), 0), ((515, 1, .iload_n 3, 0, 0, 0), 0), ((516, 1, .iconst 1, 0, 0, 0), 0), ((517, 1, .iadd, 0, 0, 0), 0), ((518, 1, .iaload, 0, 0, 0), 0), ((519, 1, .aload_n 0, 0, 0, 0), 0), ((520, 1, .iload_n 3, 0, 0, 0), 0), ((521, 1, .iconst 2, 0, 0, 0), 0), ((522, 1, .iadd, 0, 0, 0), 0), ((523, 1, .iaload, 0, 0, 0), 0), ((524, 3, .invokevirtual 64, 207, 3, 9), 1303), ((527, 3, .if_icmp .eq 720, 0, 0, 0), 0), ((530, 1, .iconst 0, 0, 0, 0), 0), ((531, 1, .ireturn, 0, 0, 0), 0), ((532, 1, .aload_n 1, 0, 0, 0), 0), ((533, 1, .aload_n 0, 0, 0, 0), 0), ((534, 1, .iload_n 3, 0, 0, 0), 0), ((535, 1, .iconst 1, 0, 0, 0), 0), ((536, 1, .iadd, 0, 0, 0), 0), ((537, 1, .iaload, 0, 0, 0), 0), ((538, 1, .aload_n 0, 0, 0, 0), 0), ((539, 1, .iload_n 3, 0, 0, 0), 0), ((540, 1, .iconst 2, 0, 0, 0), 0), ((541, 1, .iadd, 0, 0, 0), 0), ((542, 1, .iaload, 0, 0, 0), 0), ((543, 3, .invokevirtual 65, 128, 3, 1), 749), ((546, 1, .aload_n 2, 0, 0, 0), 0), ((547, 1, .aload_n 0, 0, 0, 0), 0), ((548, 1, .iload_n 3, 0, 0, 0), 0), ((549, 1, .iconst 1, 0, 0, 0), 0), ((550, 1, .iadd, 0, 0, 0), 0), ((551, 1, .iaload, 0, 0, 0), 0), ((552, 1, .aload_n 0, 0, 0, 0), 0), ((553, 1, .iload_n 3, 0, 0, 0), 0), ((554, 1, .iconst 2, 0, 0, 0), 0), ((555, 1, .iadd, 0, 0, 0), 0), ((556, 1, .iaload, 0, 0, 0), 0), ((557, 3, .invokevirtual 68, 208, 3, 9), 1307), ((560, 3, .if_icmp .eq 687, 0, 0, 0), 0), ((563, 1, .iconst 0, 0, 0, 0), 0), ((564, 1, .ireturn, 0, 0, 0), 0), ((565, 1, .aload_n 1, 0, 0, 0), 0), ((566, 1, .aload_n 0, 0, 0, 0), 0)]
theorem zlc_6 : zlw_6.all (zche RL cL_law) = true := by decide +kernel
def zlw_7 : List (zE × Nat) := [((567, 1, .iload_n 3, 0, 0, 0), 0), ((568, 1, .iconst 1, 0, 0, 0), 0), ((569, 1, .iadd, 0, 0, 0), 0), ((570, 1, .iaload, 0, 0, 0), 0), ((571, 1, .aload_n 0, 0, 0, 0), 0), ((572, 1, .iload_n 3, 0, 0, 0), 0), ((573, 1, .iconst 2, 0, 0, 0), 0), ((574, 1, .iadd, 0, 0, 0), 0), ((575, 1, .iaload, 0, 0, 0), 0), ((576, 3, .invokevirtual 69, 129, 3, 1), 757), ((579, 1, .aload_n 2, 0, 0, 0), 0), ((580, 1, .aload_n 0, 0, 0, 0), 0), ((581, 1, .iload_n 3, 0, 0, 0), 0), ((582, 1, .iconst 1, 0, 0, 0), 0), ((583, 1, .iadd, 0, 0, 0), 0), ((584, 1, .iaload, 0, 0, 0), 0), ((585, 1, .aload_n 0, 0, 0, 0), 0), ((586, 1, .iload_n 3, 0, 0, 0), 0), ((587, 1, .iconst 2, 0, 0, 0), 0), ((588, 1, .iadd, 0, 0, 0), 0), ((589, 1, .iaload, 0, 0, 0), 0), ((590, 3, .invokevirtual 72, 209, 3, 9), 1311), ((593, 3, .if_icmp .eq 654, 0, 0, 0), 0), ((596, 1, .iconst 0, 0, 0, 0), 0), ((597, 1, .ireturn, 0, 0, 0), 0), ((598, 1, .aload_n 1, 0, 0, 0), 0), ((599, 1, .aload_n 0, 0, 0, 0), 0), ((600, 1, .iload_n 3, 0, 0, 0), 0), ((601, 1, .iconst 1, 0, 0, 0), 0), ((602, 1, .iadd, 0, 0, 0), 0), ((603, 1, .iaload, 0, 0, 0), 0), ((604, 3, .invokevirtual 73, 130, 2, 1), 762), ((607, 1, .aload_n 2, 0, 0, 0), 0), ((608, 1, .aload_n 0, 0, 0, 0), 0), ((609, 1, .iload_n 3, 0, 0, 0), 0), ((610, 1, .iconst 1, 0, 0, 0), 0), ((611, 1, .iadd, 0, 0, 0), 0), ((612, 1, .iaload, 0, 0, 0), 0), ((613, 3, .invokevirtual 76, 212, 2, 9), 1316), ((616, 3, .if_icmp .eq 631, 0, 0, 0), 0), ((619, 1, .iconst 0, 0, 0, 0), 0), ((620, 1, .ireturn, 0, 0, 0), 0), ((621, 1, .aload_n 1, 0, 0, 0), 0), ((622, 1, .aload_n 0, 0, 0, 0), 0), ((623, 1, .iload_n 3, 0, 0, 0), 0)]
theorem zlc_7 : zlw_7.all (zche RL cL_law) = true := by decide +kernel
def zlw_8 : List (zE × Nat) := [((624, 1, .iconst 1, 0, 0, 0), 0), ((625, 1, .iadd, 0, 0, 0), 0), ((626, 1, .iaload, 0, 0, 0), 0), ((627, 3, .invokevirtual 77, 131, 2, 1), 779), ((630, 1, .aload_n 2, 0, 0, 0), 0), ((631, 1, .aload_n 0, 0, 0, 0), 0), ((632, 1, .iload_n 3, 0, 0, 0), 0), ((633, 1, .iconst 1, 0, 0, 0), 0), ((634, 1, .iadd, 0, 0, 0), 0), ((635, 1, .iaload, 0, 0, 0), 0), ((636, 3, .invokevirtual 80, 213, 2, 9), 1332), ((639, 3, .if_icmp .eq 608, 0, 0, 0), 0), ((642, 1, .iconst 0, 0, 0, 0), 0), ((643, 1, .ireturn, 0, 0, 0), 0), ((644, 1, .aload_n 1, 0, 0, 0), 0), ((645, 1, .aload_n 0, 0, 0, 0), 0), ((646, 1, .iload_n 3, 0, 0, 0), 0), ((647, 1, .iconst 1, 0, 0, 0), 0), ((648, 1, .iadd, 0, 0, 0), 0), ((649, 1, .iaload, 0, 0, 0), 0), ((650, 1, .aload_n 0, 0, 0, 0), 0), ((651, 1, .iload_n 3, 0, 0, 0), 0), ((652, 1, .iconst 2, 0, 0, 0), 0), ((653, 1, .iadd, 0, 0, 0), 0), ((654, 1, .iaload, 0, 0, 0), 0), ((655, 3, .invokevirtual 81, 132, 3, 1), 787), ((658, 1, .aload_n 2, 0, 0, 0), 0), ((659, 1, .aload_n 0, 0, 0, 0), 0), ((660, 1, .iload_n 3, 0, 0, 0), 0), ((661, 1, .iconst 1, 0, 0, 0), 0), ((662, 1, .iadd, 0, 0, 0), 0), ((663, 1, .iaload, 0, 0, 0), 0), ((664, 1, .aload_n 0, 0, 0, 0), 0), ((665, 1, .iload_n 3, 0, 0, 0), 0), ((666, 1, .iconst 2, 0, 0, 0), 0), ((667, 1, .iadd, 0, 0, 0), 0), ((668, 1, .iaload, 0, 0, 0), 0), ((669, 3, .invokevirtual 84, 215, 3, 9), 1336), ((672, 3, .if_icmp .eq 575, 0, 0, 0), 0), ((675, 1, .iconst 0, 0, 0, 0), 0), ((676, 1, .ireturn, 0, 0, 0), 0), ((677, 1, .aload_n 1, 0, 0, 0), 0), ((678, 1, .aload_n 0, 0, 0, 0), 0), ((679, 1, .iload_n 3, 0, 0, 0), 0), ((680, 1, .iconst 1, 0, 0, 0), 0)]
theorem zlc_8 : zlw_8.all (zche RL cL_law) = true := by decide +kernel
def zlw_9 : List (zE × Nat) := [((681, 1, .iadd, 0, 0, 0), 0), ((682, 1, .iaload, 0, 0, 0), 0), ((683, 3, .invokevirtual 85, 133, 2, 1), 796), ((686, 1, .aload_n 2, 0, 0, 0), 0), ((687, 1, .aload_n 0, 0, 0, 0), 0), ((688, 1, .iload_n 3, 0, 0, 0), 0), ((689, 1, .iconst 1, 0, 0, 0), 0), ((690, 1, .iadd, 0, 0, 0), 0), ((691, 1, .iaload, 0, 0, 0), 0), ((692, 3, .invokevirtual 88, 216, 2, 9), 1345), ((695, 3, .if_icmp .eq 552, 0, 0, 0), 0), ((698, 1, .iconst 0, 0, 0, 0), 0), ((699, 1, .ireturn, 0, 0, 0), 0), ((700, 1, .aload_n 1, 0, 0, 0), 0), ((701, 1, .aload_n 0, 0, 0, 0), 0), ((702, 1, .iload_n 3, 0, 0, 0), 0), ((703, 1, .iconst 1, 0, 0, 0), 0), ((704, 1, .iadd, 0, 0, 0), 0), ((705, 1, .iaload, 0, 0, 0), 0), ((706, 1, .aload_n 0, 0, 0, 0), 0), ((707, 1, .iload_n 3, 0, 0, 0), 0), ((708, 1, .iconst 2, 0, 0, 0), 0), ((709, 1, .iadd, 0, 0, 0), 0), ((710, 1, .iaload, 0, 0, 0), 0), ((711, 3, .invokevirtual 89, 134, 3, 1), 800), ((714, 1, .aload_n 2, 0, 0, 0), 0), ((715, 1, .aload_n 0, 0, 0, 0), 0), ((716, 1, .iload_n 3, 0, 0, 0), 0), ((717, 1, .iconst 1, 0, 0, 0), 0), ((718, 1, .iadd, 0, 0, 0), 0), ((719, 1, .iaload, 0, 0, 0), 0), ((720, 1, .aload_n 0, 0, 0, 0), 0), ((721, 1, .iload_n 3, 0, 0, 0), 0), ((722, 1, .iconst 2, 0, 0, 0), 0), ((723, 1, .iadd, 0, 0, 0), 0), ((724, 1, .iaload, 0, 0, 0), 0), ((725, 3, .invokevirtual 92, 217, 3, 9), 1349), ((728, 3, .if_icmp .eq 519, 0, 0, 0), 0), ((731, 1, .iconst 0, 0, 0, 0), 0), ((732, 1, .ireturn, 0, 0, 0), 0), ((733, 1, .aload_n 1, 0, 0, 0), 0), ((734, 1, .aload_n 0, 0, 0, 0), 0), ((735, 1, .iload_n 3, 0, 0, 0), 0), ((736, 1, .iconst 1, 0, 0, 0), 0), ((737, 1, .iadd, 0, 0, 0), 0)]
theorem zlc_9 : zlw_9.all (zche RL cL_law) = true := by decide +kernel
def zlw_10 : List (zE × Nat) := [((738, 1, .iaload, 0, 0, 0), 0), ((739, 1, .aload_n 0, 0, 0, 0), 0), ((740, 1, .iload_n 3, 0, 0, 0), 0), ((741, 1, .iconst 2, 0, 0, 0), 0), ((742, 1, .iadd, 0, 0, 0), 0), ((743, 1, .iaload, 0, 0, 0), 0), ((744, 1, .aload_n 0, 0, 0, 0), 0), ((745, 1, .iload_n 3, 0, 0, 0), 0), ((746, 1, .iconst 3, 0, 0, 0), 0), ((747, 1, .iadd, 0, 0, 0), 0), ((748, 1, .iaload, 0, 0, 0), 0), ((749, 3, .invokevirtual 93, 135, 4, 1), 807), ((752, 1, .aload_n 2, 0, 0, 0), 0), ((753, 1, .aload_n 0, 0, 0, 0), 0), ((754, 1, .iload_n 3, 0, 0, 0), 0), ((755, 1, .iconst 1, 0, 0, 0), 0), ((756, 1, .iadd, 0, 0, 0), 0), ((757, 1, .iaload, 0, 0, 0), 0), ((758, 1, .aload_n 0, 0, 0, 0), 0), ((759, 1, .iload_n 3, 0, 0, 0), 0), ((760, 1, .iconst 2, 0, 0, 0), 0), ((761, 1, .iadd, 0, 0, 0), 0), ((762, 1, .iaload, 0, 0, 0), 0), ((763, 1, .aload_n 0, 0, 0, 0), 0), ((764, 1, .iload_n 3, 0, 0, 0), 0), ((765, 1, .iconst 3, 0, 0, 0), 0), ((766, 1, .iadd, 0, 0, 0), 0), ((767, 1, .iaload, 0, 0, 0), 0), ((768, 3, .invokevirtual 96, 220, 4, 9), 1353), ((771, 3, .if_icmp .eq 476, 0, 0, 0), 0), ((774, 1, .iconst 0, 0, 0, 0), 0), ((775, 1, .ireturn, 0, 0, 0), 0), ((776, 1, .aload_n 1, 0, 0, 0), 0), ((777, 1, .aload_n 0, 0, 0, 0), 0), ((778, 1, .iload_n 3, 0, 0, 0), 0), ((779, 1, .iconst 1, 0, 0, 0), 0), ((780, 1, .iadd, 0, 0, 0), 0), ((781, 1, .iaload, 0, 0, 0), 0), ((782, 1, .aload_n 0, 0, 0, 0), 0), ((783, 1, .iload_n 3, 0, 0, 0), 0), ((784, 1, .iconst 2, 0, 0, 0), 0), ((785, 1, .iadd, 0, 0, 0), 0), ((786, 1, .iaload, 0, 0, 0), 0), ((787, 1, .aload_n 0, 0, 0, 0), 0), ((788, 1, .iload_n 3, 0, 0, 0), 0)]
theorem zlc_10 : zlw_10.all (zche RL cL_law) = true := by decide +kernel
def zlw_11 : List (zE × Nat) := [((789, 1, .iconst 3, 0, 0, 0), 0), ((790, 1, .iadd, 0, 0, 0), 0), ((791, 1, .iaload, 0, 0, 0), 0), ((792, 3, .invokevirtual 97, 136, 4, 1), 821), ((795, 1, .aload_n 2, 0, 0, 0), 0), ((796, 1, .aload_n 0, 0, 0, 0), 0), ((797, 1, .iload_n 3, 0, 0, 0), 0), ((798, 1, .iconst 1, 0, 0, 0), 0), ((799, 1, .iadd, 0, 0, 0), 0), ((800, 1, .iaload, 0, 0, 0), 0), ((801, 1, .aload_n 0, 0, 0, 0), 0), ((802, 1, .iload_n 3, 0, 0, 0), 0), ((803, 1, .iconst 2, 0, 0, 0), 0), ((804, 1, .iadd, 0, 0, 0), 0), ((805, 1, .iaload, 0, 0, 0), 0), ((806, 1, .aload_n 0, 0, 0, 0), 0), ((807, 1, .iload_n 3, 0, 0, 0), 0), ((808, 1, .iconst 3, 0, 0, 0), 0), ((809, 1, .iadd, 0, 0, 0), 0), ((810, 1, .iaload, 0, 0, 0), 0), ((811, 3, .invokevirtual 100, 221, 4, 9), 1370), ((814, 3, .if_icmp .eq 433, 0, 0, 0), 0), ((817, 1, .iconst 0, 0, 0, 0), 0), ((818, 1, .ireturn, 0, 0, 0), 0), ((819, 1, .aload_n 1, 0, 0, 0), 0), ((820, 1, .aload_n 0, 0, 0, 0), 0), ((821, 1, .iload_n 3, 0, 0, 0), 0), ((822, 1, .iconst 1, 0, 0, 0), 0), ((823, 1, .iadd, 0, 0, 0), 0), ((824, 1, .iaload, 0, 0, 0), 0), ((825, 1, .aload_n 0, 0, 0, 0), 0), ((826, 1, .iload_n 3, 0, 0, 0), 0), ((827, 1, .iconst 2, 0, 0, 0), 0), ((828, 1, .iadd, 0, 0, 0), 0), ((829, 1, .iaload, 0, 0, 0), 0), ((830, 1, .aload_n 0, 0, 0, 0), 0), ((831, 1, .iload_n 3, 0, 0, 0), 0), ((832, 1, .iconst 3, 0, 0, 0), 0), ((833, 1, .iadd, 0, 0, 0), 0), ((834, 1, .iaload, 0, 0, 0), 0), ((835, 1, .aload_n 0, 0, 0, 0), 0), ((836, 1, .iload_n 3, 0, 0, 0), 0), ((837, 1, .iconst 4, 0, 0, 0), 0), ((838, 1, .iadd, 0, 0, 0), 0), ((839, 1, .iaload, 0, 0, 0), 0)]
theorem zlc_11 : zlw_11.all (zche RL cL_law) = true := by decide +kernel
def zlw_12 : List (zE × Nat) := [((840, 3, .invokevirtual 101, 137, 5, 1), 829), ((843, 1, .aload_n 2, 0, 0, 0), 0), ((844, 1, .aload_n 0, 0, 0, 0), 0), ((845, 1, .iload_n 3, 0, 0, 0), 0), ((846, 1, .iconst 1, 0, 0, 0), 0), ((847, 1, .iadd, 0, 0, 0), 0), ((848, 1, .iaload, 0, 0, 0), 0), ((849, 1, .aload_n 0, 0, 0, 0), 0), ((850, 1, .iload_n 3, 0, 0, 0), 0), ((851, 1, .iconst 2, 0, 0, 0), 0), ((852, 1, .iadd, 0, 0, 0), 0), ((853, 1, .iaload, 0, 0, 0), 0), ((854, 1, .aload_n 0, 0, 0, 0), 0), ((855, 1, .iload_n 3, 0, 0, 0), 0), ((856, 1, .iconst 3, 0, 0, 0), 0), ((857, 1, .iadd, 0, 0, 0), 0), ((858, 1, .iaload, 0, 0, 0), 0), ((859, 1, .aload_n 0, 0, 0, 0), 0), ((860, 1, .iload_n 3, 0, 0, 0), 0), ((861, 1, .iconst 4, 0, 0, 0), 0), ((862, 1, .iadd, 0, 0, 0), 0), ((863, 1, .iaload, 0, 0, 0), 0), ((864, 3, .invokevirtual 105, 222, 5, 9), 1374), ((867, 3, .if_icmp .eq 380, 0, 0, 0), 0), ((870, 1, .iconst 0, 0, 0, 0), 0), ((871, 1, .ireturn, 0, 0, 0), 0), ((872, 1, .aload_n 1, 0, 0, 0), 0), ((873, 1, .aload_n 0, 0, 0, 0), 0), ((874, 1, .iload_n 3, 0, 0, 0), 0), ((875, 1, .iconst 1, 0, 0, 0), 0), ((876, 1, .iadd, 0, 0, 0), 0), ((877, 1, .iaload, 0, 0, 0), 0), ((878, 1, .aload_n 0, 0, 0, 0), 0), ((879, 1, .iload_n 3, 0, 0, 0), 0), ((880, 1, .iconst 2, 0, 0, 0), 0), ((881, 1, .iadd, 0, 0, 0), 0), ((882, 1, .iaload, 0, 0, 0), 0), ((883, 3, .invokevirtual 106, 138, 3, 1), 840), ((886, 1, .aload_n 2, 0, 0, 0), 0), ((887, 1, .aload_n 0, 0, 0, 0), 0), ((888, 1, .iload_n 3, 0, 0, 0), 0), ((889, 1, .iconst 1, 0, 0, 0), 0), ((890, 1, .iadd, 0, 0, 0), 0), ((891, 1, .iaload, 0, 0, 0), 0), ((892, 1, .aload_n 0, 0, 0, 0), 0)]
theorem zlc_12 : zlw_12.all (zche RL cL_law) = true := by decide +kernel
def zlw_13 : List (zE × Nat) := [((893, 1, .iload_n 3, 0, 0, 0), 0), ((894, 1, .iconst 2, 0, 0, 0), 0), ((895, 1, .iadd, 0, 0, 0), 0), ((896, 1, .iaload, 0, 0, 0), 0), ((897, 3, .invokevirtual 109, 224, 3, 9), 1378), ((900, 3, .if_icmp .eq 347, 0, 0, 0), 0), ((903, 1, .iconst 0, 0, 0, 0), 0), ((904, 1, .ireturn, 0, 0, 0), 0), ((905, 1, .aload_n 1, 0, 0, 0), 0), ((906, 1, .aload_n 0, 0, 0, 0), 0), ((907, 1, .iload_n 3, 0, 0, 0), 0), ((908, 1, .iconst 1, 0, 0, 0), 0), ((909, 1, .iadd, 0, 0, 0), 0), ((910, 1, .iaload, 0, 0, 0), 0), ((911, 3, .invokevirtual 110, 139, 2, 1), 851), ((914, 1, .aload_n 2, 0, 0, 0), 0), ((915, 1, .aload_n 0, 0, 0, 0), 0), ((916, 1, .iload_n 3, 0, 0, 0), 0), ((917, 1, .iconst 1, 0, 0, 0), 0), ((918, 1, .iadd, 0, 0, 0), 0), ((919, 1, .iaload, 0, 0, 0), 0), ((920, 3, .invokevirtual 113, 226, 2, 9), 1386), ((923, 3, .if_icmp .eq 324, 0, 0, 0), 0), ((926, 1, .iconst 0, 0, 0, 0), 0), ((927, 1, .ireturn, 0, 0, 0), 0), ((928, 1, .aload_n 1, 0, 0, 0), 0), ((929, 1, .aload_n 0, 0, 0, 0), 0), ((930, 1, .iload_n 3, 0, 0, 0), 0), ((931, 1, .iconst 1, 0, 0, 0), 0), ((932, 1, .iadd, 0, 0, 0), 0), ((933, 1, .iaload, 0, 0, 0), 0), ((934, 3, .invokevirtual 114, 140, 2, 1), 884), ((937, 1, .aload_n 2, 0, 0, 0), 0), ((938, 1, .aload_n 0, 0, 0, 0), 0), ((939, 1, .iload_n 3, 0, 0, 0), 0), ((940, 1, .iconst 1, 0, 0, 0), 0), ((941, 1, .iadd, 0, 0, 0), 0), ((942, 1, .iaload, 0, 0, 0), 0), ((943, 3, .invokevirtual 117, 228, 2, 9), 1395), ((946, 3, .if_icmp .eq 301, 0, 0, 0), 0), ((949, 1, .iconst 0, 0, 0, 0), 0), ((950, 1, .ireturn, 0, 0, 0), 0), ((951, 1, .aload_n 1, 0, 0, 0), 0), ((952, 1, .aload_n 0, 0, 0, 0), 0), ((953, 1, .iload_n 3, 0, 0, 0), 0)]
theorem zlc_13 : zlw_13.all (zche RL cL_law) = true := by decide +kernel
def zlw_14 : List (zE × Nat) := [((954, 1, .iconst 1, 0, 0, 0), 0), ((955, 1, .iadd, 0, 0, 0), 0), ((956, 1, .iaload, 0, 0, 0), 0), ((957, 1, .aload_n 0, 0, 0, 0), 0), ((958, 1, .iload_n 3, 0, 0, 0), 0), ((959, 1, .iconst 2, 0, 0, 0), 0), ((960, 1, .iadd, 0, 0, 0), 0), ((961, 1, .iaload, 0, 0, 0), 0), ((962, 3, .invokevirtual 118, 141, 3, 1), 898), ((965, 1, .aload_n 2, 0, 0, 0), 0), ((966, 1, .aload_n 0, 0, 0, 0), 0), ((967, 1, .iload_n 3, 0, 0, 0), 0), ((968, 1, .iconst 1, 0, 0, 0), 0), ((969, 1, .iadd, 0, 0, 0), 0), ((970, 1, .iaload, 0, 0, 0), 0), ((971, 1, .aload_n 0, 0, 0, 0), 0), ((972, 1, .iload_n 3, 0, 0, 0), 0), ((973, 1, .iconst 2, 0, 0, 0), 0), ((974, 1, .iadd, 0, 0, 0), 0), ((975, 1, .iaload, 0, 0, 0), 0), ((976, 3, .invokevirtual 121, 229, 3, 9), 1403), ((979, 3, .if_icmp .eq 268, 0, 0, 0), 0), ((982, 1, .iconst 0, 0, 0, 0), 0), ((983, 1, .ireturn, 0, 0, 0), 0), ((984, 1, .aload_n 1, 0, 0, 0), 0), ((985, 1, .aload_n 0, 0, 0, 0), 0), ((986, 1, .iload_n 3, 0, 0, 0), 0), ((987, 1, .iconst 1, 0, 0, 0), 0), ((988, 1, .iadd, 0, 0, 0), 0), ((989, 1, .iaload, 0, 0, 0), 0), ((990, 3, .invokevirtual 122, 142, 2, 1), 909), ((993, 1, .aload_n 2, 0, 0, 0), 0), ((994, 1, .aload_n 0, 0, 0, 0), 0), ((995, 1, .iload_n 3, 0, 0, 0), 0), ((996, 1, .iconst 1, 0, 0, 0), 0), ((997, 1, .iadd, 0, 0, 0), 0), ((998, 1, .iaload, 0, 0, 0), 0), ((999, 3, .invokevirtual 125, 230, 2, 9), 1407), ((1002, 3, .if_icmp .eq 245, 0, 0, 0), 0), ((1005, 1, .iconst 0, 0, 0, 0), 0), ((1006, 1, .ireturn, 0, 0, 0), 0), ((1007, 1, .aload_n 1, 0, 0, 0), 0), ((1008, 1, .aload_n 0, 0, 0, 0), 0), ((1009, 1, .iload_n 3, 0, 0, 0), 0), ((1010, 1, .iconst 1, 0, 0, 0), 0)]
theorem zlc_14 : zlw_14.all (zche RL cL_law) = true := by decide +kernel
def zlw_15 : List (zE × Nat) := [((1011, 1, .iadd, 0, 0, 0), 0), ((1012, 1, .iaload, 0, 0, 0), 0), ((1013, 1, .aload_n 0, 0, 0, 0), 0), ((1014, 1, .iload_n 3, 0, 0, 0), 0), ((1015, 1, .iconst 2, 0, 0, 0), 0), ((1016, 1, .iadd, 0, 0, 0), 0), ((1017, 1, .iaload, 0, 0, 0), 0), ((1018, 3, .invokevirtual 126, 143, 3, 1), 913), ((1021, 1, .aload_n 2, 0, 0, 0), 0), ((1022, 1, .aload_n 0, 0, 0, 0), 0), ((1023, 1, .iload_n 3, 0, 0, 0), 0), ((1024, 1, .iconst 1, 0, 0, 0), 0), ((1025, 1, .iadd, 0, 0, 0), 0), ((1026, 1, .iaload, 0, 0, 0), 0), ((1027, 1, .aload_n 0, 0, 0, 0), 0), ((1028, 1, .iload_n 3, 0, 0, 0), 0), ((1029, 1, .iconst 2, 0, 0, 0), 0), ((1030, 1, .iadd, 0, 0, 0), 0), ((1031, 1, .iaload, 0, 0, 0), 0), ((1032, 3, .invokevirtual 129, 231, 3, 9), 1411), ((1035, 3, .if_icmp .eq 212, 0, 0, 0), 0), ((1038, 1, .iconst 0, 0, 0, 0), 0), ((1039, 1, .ireturn, 0, 0, 0), 0), ((1040, 1, .aload_n 1, 0, 0, 0), 0), ((1041, 1, .aload_n 0, 0, 0, 0), 0), ((1042, 1, .iload_n 3, 0, 0, 0), 0), ((1043, 1, .iconst 1, 0, 0, 0), 0), ((1044, 1, .iadd, 0, 0, 0), 0), ((1045, 1, .iaload, 0, 0, 0), 0), ((1046, 1, .aload_n 0, 0, 0, 0), 0), ((1047, 1, .iload_n 3, 0, 0, 0), 0), ((1048, 1, .iconst 2, 0, 0, 0), 0), ((1049, 1, .iadd, 0, 0, 0), 0), ((1050, 1, .iaload, 0, 0, 0), 0), ((1051, 3, .invokevirtual 130, 144, 3, 1), 919), ((1054, 1, .aload_n 2, 0, 0, 0), 0), ((1055, 1, .aload_n 0, 0, 0, 0), 0), ((1056, 1, .iload_n 3, 0, 0, 0), 0), ((1057, 1, .iconst 1, 0, 0, 0), 0), ((1058, 1, .iadd, 0, 0, 0), 0), ((1059, 1, .iaload, 0, 0, 0), 0), ((1060, 1, .aload_n 0, 0, 0, 0), 0), ((1061, 1, .iload_n 3, 0, 0, 0), 0), ((1062, 1, .iconst 2, 0, 0, 0), 0), ((1063, 1, .iadd, 0, 0, 0), 0)]
theorem zlc_15 : zlw_15.all (zche RL cL_law) = true := by decide +kernel
def zlw_16 : List (zE × Nat) := [((1064, 1, .iaload, 0, 0, 0), 0), ((1065, 3, .invokevirtual 133, 232, 3, 9), 1418), ((1068, 3, .if_icmp .eq 179, 0, 0, 0), 0), ((1071, 1, .iconst 0, 0, 0, 0), 0), ((1072, 1, .ireturn, 0, 0, 0), 0), ((1073, 1, .aload_n 1, 0, 0, 0), 0), ((1074, 1, .aload_n 0, 0, 0, 0), 0), ((1075, 1, .iload_n 3, 0, 0, 0), 0), ((1076, 1, .iconst 1, 0, 0, 0), 0), ((1077, 1, .iadd, 0, 0, 0), 0), ((1078, 1, .iaload, 0, 0, 0), 0), ((1079, 3, .invokevirtual 134, 145, 2, 1), 928), ((1082, 1, .aload_n 2, 0, 0, 0), 0), ((1083, 1, .aload_n 0, 0, 0, 0), 0), ((1084, 1, .iload_n 3, 0, 0, 0), 0), ((1085, 1, .iconst 1, 0, 0, 0), 0), ((1086, 1, .iadd, 0, 0, 0), 0), ((1087, 1, .iaload, 0, 0, 0), 0), ((1088, 3, .invokevirtual 137, 234, 2, 9), 1422), ((1091, 3, .if_icmp .eq 156, 0, 0, 0), 0), ((1094, 1, .iconst 0, 0, 0, 0), 0), ((1095, 1, .ireturn, 0, 0, 0), 0), ((1096, 1, .aload_n 1, 0, 0, 0), 0), ((1097, 3, .invokevirtual 138, 146, 1, 1), 955), ((1100, 1, .aload_n 2, 0, 0, 0), 0), ((1101, 3, .invokevirtual 141, 236, 1, 9), 1430), ((1104, 3, .if_icmp .eq 143, 0, 0, 0), 0), ((1107, 1, .iconst 0, 0, 0, 0), 0), ((1108, 1, .ireturn, 0, 0, 0), 0), ((1109, 1, .aload_n 1, 0, 0, 0), 0), ((1110, 1, .aload_n 0, 0, 0, 0), 0), ((1111, 1, .iload_n 3, 0, 0, 0), 0), ((1112, 1, .iconst 1, 0, 0, 0), 0), ((1113, 1, .iadd, 0, 0, 0), 0), ((1114, 1, .iaload, 0, 0, 0), 0), ((1115, 1, .aload_n 0, 0, 0, 0), 0), ((1116, 1, .iload_n 3, 0, 0, 0), 0), ((1117, 1, .iconst 2, 0, 0, 0), 0), ((1118, 1, .iadd, 0, 0, 0), 0), ((1119, 1, .iaload, 0, 0, 0), 0), ((1120, 1, .aload_n 0, 0, 0, 0), 0), ((1121, 1, .iload_n 3, 0, 0, 0), 0), ((1122, 1, .iconst 3, 0, 0, 0), 0), ((1123, 1, .iadd, 0, 0, 0), 0), ((1124, 1, .iaload, 0, 0, 0), 0)]
theorem zlc_16 : zlw_16.all (zche RL cL_law) = true := by decide +kernel
def zlw_17 : List (zE × Nat) := [((1125, 3, .invokevirtual 142, 147, 4, 1), 971), ((1128, 1, .aload_n 2, 0, 0, 0), 0), ((1129, 1, .aload_n 0, 0, 0, 0), 0), ((1130, 1, .iload_n 3, 0, 0, 0), 0), ((1131, 1, .iconst 1, 0, 0, 0), 0), ((1132, 1, .iadd, 0, 0, 0), 0), ((1133, 1, .iaload, 0, 0, 0), 0), ((1134, 1, .aload_n 0, 0, 0, 0), 0), ((1135, 1, .iload_n 3, 0, 0, 0), 0), ((1136, 1, .iconst 2, 0, 0, 0), 0), ((1137, 1, .iadd, 0, 0, 0), 0), ((1138, 1, .iaload, 0, 0, 0), 0), ((1139, 1, .aload_n 0, 0, 0, 0), 0), ((1140, 1, .iload_n 3, 0, 0, 0), 0), ((1141, 1, .iconst 3, 0, 0, 0), 0), ((1142, 1, .iadd, 0, 0, 0), 0), ((1143, 1, .iaload, 0, 0, 0), 0), ((1144, 3, .invokevirtual 145, 237, 4, 9), 1439), ((1147, 3, .if_icmp .eq 100, 0, 0, 0), 0), ((1150, 1, .iconst 0, 0, 0, 0), 0), ((1151, 1, .ireturn, 0, 0, 0), 0), ((1152, 1, .aload_n 1, 0, 0, 0), 0), ((1153, 3, .invokevirtual 146, 148, 1, 1), 979), ((1156, 1, .aload_n 2, 0, 0, 0), 0), ((1157, 3, .invokevirtual 149, 238, 1, 9), 1443), ((1160, 3, .if_icmp .eq 87, 0, 0, 0), 0), ((1163, 1, .iconst 0, 0, 0, 0), 0), ((1164, 1, .ireturn, 0, 0, 0), 0), ((1165, 1, .aload_n 1, 0, 0, 0), 0), ((1166, 3, .invokevirtual 150, 149, 1, 1), 988), ((1169, 1, .aload_n 2, 0, 0, 0), 0), ((1170, 3, .invokevirtual 153, 239, 1, 9), 1447), ((1173, 3, .if_icmp .eq 74, 0, 0, 0), 0), ((1176, 1, .iconst 0, 0, 0, 0), 0), ((1177, 1, .ireturn, 0, 0, 0), 0), ((1178, 1, .aload_n 1, 0, 0, 0), 0), ((1179, 1, .aload_n 0, 0, 0, 0), 0), ((1180, 1, .iload_n 3, 0, 0, 0), 0), ((1181, 1, .iconst 1, 0, 0, 0), 0), ((1182, 1, .iadd, 0, 0, 0), 0), ((1183, 1, .iaload, 0, 0, 0), 0), ((1184, 3, .invokevirtual 154, 150, 2, 1), 992), ((1187, 1, .aload_n 2, 0, 0, 0), 0), ((1188, 1, .aload_n 0, 0, 0, 0), 0), ((1189, 1, .iload_n 3, 0, 0, 0), 0)]
theorem zlc_17 : zlw_17.all (zche RL cL_law) = true := by decide +kernel
def zlw_18 : List (zE × Nat) := [((1190, 1, .iconst 1, 0, 0, 0), 0), ((1191, 1, .iadd, 0, 0, 0), 0), ((1192, 1, .iaload, 0, 0, 0), 0), ((1193, 3, .invokevirtual 157, 240, 2, 9), 1451), ((1196, 3, .if_icmp .eq 51, 0, 0, 0), 0), ((1199, 1, .iconst 0, 0, 0, 0), 0), ((1200, 1, .ireturn, 0, 0, 0), 0), ((1201, 1, .aload_n 1, 0, 0, 0), 0), ((1202, 1, .aload_n 0, 0, 0, 0), 0), ((1203, 1, .iload_n 3, 0, 0, 0), 0), ((1204, 1, .iconst 1, 0, 0, 0), 0), ((1205, 1, .iadd, 0, 0, 0), 0), ((1206, 1, .iaload, 0, 0, 0), 0), ((1207, 3, .invokevirtual 158, 151, 2, 1), 996), ((1210, 1, .aload_n 2, 0, 0, 0), 0), ((1211, 1, .aload_n 0, 0, 0, 0), 0), ((1212, 1, .iload_n 3, 0, 0, 0), 0), ((1213, 1, .iconst 1, 0, 0, 0), 0), ((1214, 1, .iadd, 0, 0, 0), 0), ((1215, 1, .iaload, 0, 0, 0), 0), ((1216, 3, .invokevirtual 161, 241, 2, 9), 1455), ((1219, 3, .if_icmp .eq 28, 0, 0, 0), 0), ((1222, 1, .iconst 0, 0, 0, 0), 0), ((1223, 1, .ireturn, 0, 0, 0), 0), ((1224, 1, .aload_n 1, 0, 0, 0), 0), ((1225, 1, .aload_n 0, 0, 0, 0), 0), ((1226, 1, .iload_n 3, 0, 0, 0), 0), ((1227, 1, .iconst 1, 0, 0, 0), 0), ((1228, 1, .iadd, 0, 0, 0), 0), ((1229, 1, .iaload, 0, 0, 0), 0), ((1230, 3, .invokevirtual 162, 152, 2, 1), 1006), ((1233, 1, .aload_n 2, 0, 0, 0), 0), ((1234, 1, .aload_n 0, 0, 0, 0), 0), ((1235, 1, .iload_n 3, 0, 0, 0), 0), ((1236, 1, .iconst 1, 0, 0, 0), 0), ((1237, 1, .iadd, 0, 0, 0), 0), ((1238, 1, .iaload, 0, 0, 0), 0), ((1239, 3, .invokevirtual 165, 242, 2, 9), 1459), ((1242, 3, .if_icmp .eq 5, 0, 0, 0), 0), ((1245, 1, .iconst 0, 0, 0, 0), 0), ((1246, 1, .ireturn, 0, 0, 0), 0), ((1247, 3, .iinc 3 5, 0, 0, 0), 0), ((1250, 3, .goto (-1232), 0, 0, 0), 0), ((1253, 1, .iconst 1, 0, 0, 0), 0), ((1254, 1, .ireturn, 0, 0, 0), 0)]
theorem zlc_18 : zlw_18.all (zche RL cL_law) = true := by decide +kernel
def zlws : List (List (zE × Nat)) := [zlw_0, zlw_1, zlw_2, zlw_3, zlw_4, zlw_5, zlw_6, zlw_7, zlw_8, zlw_9, zlw_10, zlw_11, zlw_12, zlw_13, zlw_14, zlw_15, zlw_16, zlw_17, zlw_18]
theorem zlws_ok : ∀ w ∈ zlws, w.all (zche RL cL_law) = true := by
  intro w hw
  simp only [zlws, List.mem_cons, List.not_mem_nil, or_false] at hw
  rcases hw with rfl | rfl | rfl | rfl | rfl | rfl | rfl | rfl | rfl | rfl | rfl | rfl | rfl | rfl | rfl | rfl | rfl | rfl | rfl
  · exact zlc_0
  · exact zlc_1
  · exact zlc_2
  · exact zlc_3
  · exact zlc_4
  · exact zlc_5
  · exact zlc_6
  · exact zlc_7
  · exact zlc_8
  · exact zlc_9
  · exact zlc_10
  · exact zlc_11
  · exact zlc_12
  · exact zlc_13
  · exact zlc_14
  · exact zlc_15
  · exact zlc_16
  · exact zlc_17
  · exact zlc_18
set_option maxRecDepth 1000000 in
theorem zlaw_eq : (zcode 243).zip zlaw_ps = zlws.flatten := by rfl
theorem zlaw_co : zco (zcode 243) = true := by decide +kernel
theorem zlaw_ln : (zcode 243).length = zlaw_ps.length := by decide +kernel
end
section
/-! FACTS of the tables, by the kernel -/
def zlg : List Cond := lw_tbl.filter goodWord
def zln : List Cond := lw_tbl.filter (fun w => match w with | .fieldLinkNest _ _ _ _ _ _ => true | _ => false)
theorem zat_in {p : Nat} {w : Cond} (h : zat p w = true) : w ∈ zlg := by
  simp only [zat, Bool.and_eq_true, decide_eq_true_eq] at h
  exact List.mem_filter.mpr ⟨List.mem_of_getElem? h.1, h.2⟩
theorem zat_inN {p i : Nat} {a b n d q : String} (h : zatN p (.fieldLinkNest a i b n d q) = true) : Cond.fieldLinkNest a i b n d q ∈ zln := by
  simp only [zatN, decide_eq_true_eq] at h
  exact List.mem_filter.mpr ⟨List.mem_of_getElem? h, rfl⟩
/-- all objects -/
def zob : List (Nat × Nat) := (List.range 44).flatMap fun t => (List.range (zcn t)).map fun i => (t, i)
theorem zcn_44 {t : Nat} (h : 44 ≤ t) : zcn t = 0 := by
  have e : ∀ (l : List Nat) (n : Nat), l.length ≤ n → zgd l n 0 = 0 := by
    intro l
    induction l with
    | nil => intro n _; cases n <;> rfl
    | cons a l ih =>
      intro n hn
      cases n with
      | zero => simp at hn
      | succ n => exact ih n (by simpa using hn)
  exact e zcnl t (Nat.le_trans (Nat.le_of_ble_eq_true rfl) h)
theorem zcn_lt {t i : Nat} (h : i < zcn t) : t < 44 := by
  rcases Nat.lt_or_ge t 44 with q | q
  · exact q
  · rw [zcn_44 q] at h; omega
theorem zob_mem {t i : Nat} (h : i < zcn t) : (t, i) ∈ zob := by
  refine List.mem_flatMap.mpr ⟨t, List.mem_range.mpr (zcn_lt h), List.mem_map.mpr ⟨i, List.mem_range.mpr h, rfl⟩⟩
theorem zob_nd : zob.Nodup := by decide +kernel
theorem zob_of {t i : Nat} (h : (t, i) ∈ zob) : i < zcn t := by
  obtain ⟨u, hu, h⟩ := List.mem_flatMap.mp h
  obtain ⟨j, hj, h⟩ := List.mem_map.mp h
  cases h
  exact List.mem_range.mp hj
/-- references lead to objects -/
theorem zrt_ok1 : ∀ q ∈ zob, ∀ k, k < 28 → zfk q.1 k = 4 → (zrt q.1 q.2 k).2 < zcn (zrt q.1 q.2 k).1 := by decide +kernel
theorem zrt_ok2 : ∀ q ∈ zob, zak q.1 = 3 → ∀ k, k < zal q.1 → (zrt q.1 q.2 k).2 < zcn (zrt q.1 q.2 k).1 := by decide +kernel
theorem zak_9 : ∀ t, t < 44 → 0 < zcn t → zak t ≠ 9 := by decide +kernel
theorem zal_lt : ∀ t, t < 44 → zal t < 2147483648 := by decide +kernel
theorem zkind : ∀ t, t < 44 → 0 < zcn t → zak t = 0 ∨ zak t = 1 ∨ zak t = 2 ∨ zak t = 3 := by decide +kernel
theorem zfk_ob : ∀ t, t < 44 → ∀ k, k < 28 → zfk t k ≠ 0 → zak t = 0 ∧ 0 < t ∧ t < 10 := by decide +kernel
theorem zfk_N : ∀ t, t < 44 → zTN t ≤ 27 := by decide +kernel
def zty (t : Nat) : Nat → FieldType := zgd [fun _ => .int, tyX11, tyX7, tyX1, tyX3, tyX6, tyX2, tyX10, tyX4, tyX12] t (fun _ => .int)
theorem zty_k : ∀ t, t < 10 → ∀ k, k < 27 → (zfk t k = 1 → zty t k = .int) ∧ (zfk t k = 2 → zty t k = .boolean) ∧ (zfk t k = 3 → zty t k = .long) := by decide +kernel
theorem zuw_1 : ∀ w ∈ u_ws RX11 TX11 9, w ∈ zlg := by decide +kernel
theorem zuw_2 : ∀ w ∈ u_ws RX7 TX7 7, w ∈ zlg := by decide +kernel
theorem zuw_3 : ∀ w ∈ u_ws RX1 TX1 11, w ∈ zlg := by decide +kernel
theorem zuw_4 : ∀ w ∈ u_ws RX3 TX3 9, w ∈ zlg := by decide +kernel
theorem zuw_5 : ∀ w ∈ u_ws RX6 TX6 3, w ∈ zlg := by decide +kernel
theorem zuw_6 : ∀ w ∈ u_ws RX2 TX2 3, w ∈ zlg := by decide +kernel
theorem zuw_7 : ∀ w ∈ u_ws RX10 TX10 10, w ∈ zlg := by decide +kernel
theorem zuw_8 : ∀ w ∈ u_ws RX4 TX4 3, w ∈ zlg := by decide +kernel
theorem zuw_9 : ∀ w ∈ u_ws RX12 TX12 27, w ∈ zlg := by decide +kernel
/-- what the rows of objects want of a kind -/
def zTg (t : Nat) : Prop := vwCl[zci t]? = some (zTn t, zTf t, zTN t) ∧ (∀ w ∈ u_ws (zTn t) (zTf t) (zTN t), w ∈ zlg) ∧ (∀ k, k < zTN t → parseFieldDescriptor (zTf t k).2.2.1 = some (zty t k)) ∧ (∀ a, a < zTN t → ∀ b, b < zTN t → a ≠ b → (zTf t a).2.1 ≠ (zTf t b).2.1) ∧ (∀ k, k < zTN t → (zTf t k).1 = zTn t)
theorem zTg_1 : zTg 1 := ⟨rfl, zuw_1, tyX11_ok, nmX11, show ∀ k, k < 9 → (TX11 k).1 = RX11 by decide +kernel⟩
theorem zTg_2 : zTg 2 := ⟨rfl, zuw_2, tyX7_ok, nmX7, show ∀ k, k < 7 → (TX7 k).1 = RX7 by decide +kernel⟩
theorem zTg_3 : zTg 3 := ⟨rfl, zuw_3, tyX1_ok, nmX1, show ∀ k, k < 11 → (TX1 k).1 = RX1 by decide +kernel⟩
theorem zTg_4 : zTg 4 := ⟨rfl, zuw_4, tyX3_ok, nmX3, show ∀ k, k < 9 → (TX3 k).1 = RX3 by decide +kernel⟩
theorem zTg_5 : zTg 5 := ⟨rfl, zuw_5, tyX6_ok, nmX6, show ∀ k, k < 3 → (TX6 k).1 = RX6 by decide +kernel⟩
theorem zTg_6 : zTg 6 := ⟨rfl, zuw_6, tyX2_ok, nmX2, show ∀ k, k < 3 → (TX2 k).1 = RX2 by decide +kernel⟩
theorem zTg_7 : zTg 7 := ⟨rfl, zuw_7, tyX10_ok, nmX10, show ∀ k, k < 10 → (TX10 k).1 = RX10 by decide +kernel⟩
theorem zTg_8 : zTg 8 := ⟨rfl, zuw_8, tyX4_ok, nmX4, show ∀ k, k < 3 → (TX4 k).1 = RX4 by decide +kernel⟩
theorem zTg_9 : zTg 9 := ⟨rfl, zuw_9, tyX12_ok, nmX12, show ∀ k, k < 27 → (TX12 k).1 = RX12 by decide +kernel⟩
theorem zTg_all : ∀ t, 0 < t → t < 10 → zTg t := by
  intro t h1 h2
  rcases (show t = 1 ∨ t = 2 ∨ t = 3 ∨ t = 4 ∨ t = 5 ∨ t = 6 ∨ t = 7 ∨ t = 8 ∨ t = 9 by omega) with rfl | rfl | rfl | rfl | rfl | rfl | rfl | rfl | rfl
  · exact zTg_1
  · exact zTg_2
  · exact zTg_3
  · exact zTg_4
  · exact zTg_5
  · exact zTg_6
  · exact zTg_7
  · exact zTg_8
  · exact zTg_9
/-- the words of a method: its code, and what calls of it want (st: it is static) -/
def zchf (f : Nat) (ps : List Nat) : Bool := match ps with
  | [a, b, c, d] => zat a (.code (zy f) (zby f) (zml f) (zrf f)) && (if c = 9999 then zat b (.static (zy f)) else zat b (.instanceMethod (zy f)) && zat c (.selects (zy f).cls (zy f) (zy f))) && zat d (.initialized (zy f).cls) && decide (zml f ≤ 17) && plainName (zy f).cls && decide ((zy f).cls ≠ "java/lang/invoke/MethodHandle" ∧ (zy f).cls ≠ "java/lang/invoke/VarHandle") && decide ((zmk f = 0 → zrf f = none) ∧ (zmk f = 1 → zrf f = some .int) ∧ (zmk f = 2 → zrf f = some .boolean))
  | _ => false
theorem zf_J6_bitCount_0f7a4 : zchf 1 [560, 559, 9999, 79] = true := by decide +kernel
theorem zma_abs : Cond.code Lib.Math.abs.name Lib.Math.abs.code 1 (some .int) ∈ zlg ∧ Cond.static Lib.Math.abs.name ∈ zlg ∧ Cond.initialized "java/lang/Math" ∈ zlg ∧ zy 2 = Lib.Math.abs.name := ⟨zat_in (p := 897) (by decide +kernel), zat_in (p := 896) (by decide +kernel), zat_in (p := 76) (by decide +kernel), by decide +kernel⟩
theorem zma_max : Cond.code Lib.Math.max.name Lib.Math.max.code 2 (some .int) ∈ zlg ∧ Cond.static Lib.Math.max.name ∈ zlg ∧ Cond.initialized "java/lang/Math" ∈ zlg ∧ zy 3 = Lib.Math.max.name := ⟨zat_in (p := 970) (by decide +kernel), zat_in (p := 969) (by decide +kernel), zat_in (p := 76) (by decide +kernel), by decide +kernel⟩
theorem zma_min : Cond.code Lib.Math.min.name Lib.Math.min.code 2 (some .int) ∈ zlg ∧ Cond.static Lib.Math.min.name ∈ zlg ∧ Cond.initialized "java/lang/Math" ∈ zlg ∧ zy 4 = Lib.Math.min.name := ⟨zat_in (p := 406) (by decide +kernel), zat_in (p := 405) (by decide +kernel), zat_in (p := 76) (by decide +kernel), by decide +kernel⟩
theorem zf_J7_fill_53178 : zchf 5 [376, 375, 9999, 75] = true := by decide +kernel
theorem zf_X0_alike : zchf 6 [817, 816, 9999, 81] = true := by decide +kernel
theorem zf_X0_bestShift : zchf 7 [827, 826, 9999, 81] = true := by decide +kernel
theorem zf_X0_barsToTurn : zchf 8 [835, 834, 9999, 81] = true := by decide +kernel
theorem zf_X1_clear : zchf 9 [373, 371, 372, 67] = true := by decide +kernel
theorem zf_X1_become : zchf 10 [473, 471, 472, 67] = true := by decide +kernel
theorem zf_X1_hasRoom : zchf 11 [589, 587, 588, 67] = true := by decide +kernel
theorem zf_X1_hasBar : zchf 12 [619, 617, 618, 67] = true := by decide +kernel
theorem zf_X1_hasPerson : zchf 13 [632, 630, 631, 67] = true := by decide +kernel
theorem zf_X1_hasWall : zchf 14 [658, 656, 657, 67] = true := by decide +kernel
theorem zf_X1_hasUnder : zchf 15 [435, 433, 434, 67] = true := by decide +kernel
theorem zf_X1_barsOf : zchf 16 [442, 440, 441, 67] = true := by decide +kernel
theorem zf_X1_paperOf : zchf 17 [549, 547, 548, 67] = true := by decide +kernel
theorem zf_X1_underOf : zchf 18 [545, 543, 544, 67] = true := by decide +kernel
theorem zf_X1_personPart : zchf 19 [489, 487, 488, 67] = true := by decide +kernel
theorem zf_X1_wallPart : zchf 20 [662, 660, 661, 67] = true := by decide +kernel
theorem zf_X1_putPaper : zchf 21 [418, 416, 417, 67] = true := by decide +kernel
theorem zf_X1_putUnder : zchf 22 [449, 447, 448, 67] = true := by decide +kernel
theorem zf_X1_putPerson : zchf 23 [457, 455, 456, 67] = true := by decide +kernel
theorem zf_X1_putWall : zchf 24 [465, 463, 464, 67] = true := by decide +kernel
theorem zf_X1_addRoom : zchf 25 [427, 425, 426, 67] = true := by decide +kernel
theorem zf_X2_forget : zchf 26 [506, 504, 505, 70] = true := by decide +kernel
theorem zf_X2_has : zchf 27 [1013, 1011, 1012, 70] = true := by decide +kernel
theorem zf_X2_store : zchf 28 [1003, 1001, 1002, 70] = true := by decide +kernel
theorem zf_X2_restore : zchf 29 [1018, 1016, 1017, 70] = true := by decide +kernel
theorem zf_X2_chanceOf : zchf 30 [1022, 1020, 1021, 70] = true := by decide +kernel
theorem zf_X3_begin : zchf 31 [484, 482, 483, 68] = true := by decide +kernel
theorem zf_X3_become : zchf 32 [692, 690, 691, 68] = true := by decide +kernel
theorem zf_X3_liftedIn : zchf 33 [557, 555, 556, 68] = true := by decide +kernel
theorem zf_X3_liftedInAll : zchf 34 [553, 551, 552, 68] = true := by decide +kernel
theorem zf_X3_isLifted : zchf 35 [539, 537, 538, 68] = true := by decide +kernel
theorem zf_X3_turn : zchf 36 [734, 732, 733, 68] = true := by decide +kernel
theorem zf_X3_reads : zchf 37 [535, 533, 534, 68] = true := by decide +kernel
theorem zf_X3_readsRound : zchf 38 [605, 603, 604, 68] = true := by decide +kernel
theorem zf_X3_roomOf : zchf 39 [636, 634, 635, 68] = true := by decide +kernel
theorem zf_X3_placeOf : zchf 40 [640, 638, 639, 68] = true := by decide +kernel
theorem zf_X3_paceOf : zchf 41 [644, 642, 643, 68] = true := by decide +kernel
theorem zf_X3_readBy : zchf 42 [648, 646, 647, 68] = true := by decide +kernel
theorem zf_X3_isAt : zchf 43 [718, 716, 717, 68] = true := by decide +kernel
theorem zf_X3_setPlace : zchf 44 [493, 491, 492, 68] = true := by decide +kernel
theorem zf_X3_setPace : zchf 45 [498, 496, 497, 68] = true := by decide +kernel
theorem zf_X3_addMeeting : zchf 46 [725, 723, 724, 68] = true := by decide +kernel
theorem zf_X3_loggedNow : zchf 47 [526, 524, 525, 68] = true := by decide +kernel
theorem zf_X3_meeting : zchf 48 [670, 668, 669, 68] = true := by decide +kernel
theorem zf_X4_reckon : zchf 49 [858, 856, 857, 72] = true := by decide +kernel
theorem zf_X4_fewestBars : zchf 50 [879, 877, 878, 72] = true := by decide +kernel
theorem zf_X4_leastNumber : zchf 51 [883, 881, 882, 72] = true := by decide +kernel
theorem zf_X4_barsBehind : zchf 52 [865, 864, 19, 72] = true := by decide +kernel
theorem zf_X4_firstBest : zchf 53 [869, 868, 20, 72] = true := by decide +kernel
theorem zf_X4_barsWith : zchf 54 [874, 873, 21, 72] = true := by decide +kernel
theorem zf_X5_anHour : zchf 55 [697, 696, 9999, 80] = true := by decide +kernel
theorem zf_X5_areAtOneWall : zchf 56 [806, 805, 9999, 80] = true := by decide +kernel
theorem zf_X5_goOn : zchf 57 [700, 699, 9999, 80] = true := by decide +kernel
theorem zf_X5_meetThrough : zchf 58 [710, 709, 9999, 80] = true := by decide +kernel
theorem zf_X5_isAtA : zchf 59 [713, 712, 9999, 80] = true := by decide +kernel
theorem zf_X5_isAtB : zchf 60 [721, 720, 9999, 80] = true := by decide +kernel
theorem zf_X5_dampLifts : zchf 61 [729, 728, 9999, 80] = true := by decide +kernel
theorem zf_X6_size : zchf 62 [581, 579, 580, 69] = true := by decide +kernel
theorem zf_X6_forget : zchf 63 [502, 500, 501, 69] = true := by decide +kernel
theorem zf_X6_add : zchf 64 [684, 682, 683, 69] = true := by decide +kernel
theorem zf_X6_takeBack : zchf 65 [786, 784, 785, 69] = true := by decide +kernel
theorem zf_X6_kept : zchf 66 [688, 687, 13, 69] = true := by decide +kernel
theorem zf_X7_letters : zchf 67 [360, 358, 359, 66] = true := by decide +kernel
theorem zf_X7_place : zchf 68 [518, 516, 517, 66] = true := by decide +kernel
theorem zf_X7_draft : zchf 69 [469, 467, 468, 66] = true := by decide +kernel
theorem zf_X7_add : zchf 70 [353, 351, 352, 66] = true := by decide +kernel
theorem zf_X7_read : zchf 71 [369, 367, 368, 66] = true := by decide +kernel
theorem zf_X7_readClause : zchf 72 [388, 387, 2, 66] = true := by decide +kernel
theorem zf_X7_readDamp : zchf 73 [396, 395, 4, 66] = true := by decide +kernel
theorem zf_X7_readRoom : zchf 74 [414, 413, 7, 66] = true := by decide +kernel
theorem zf_X7_readUnder : zchf 75 [431, 430, 9, 66] = true := by decide +kernel
theorem zf_X7_readPerson : zchf 76 [453, 452, 10, 66] = true := by decide +kernel
theorem zf_X7_readWall : zchf 77 [461, 460, 11, 66] = true := by decide +kernel
theorem zf_X7_readNumber : zchf 78 [400, 399, 5, 66] = true := by decide +kernel
theorem zf_X7_expect : zchf 79 [410, 409, 6, 66] = true := by decide +kernel
theorem zf_X7_accept : zchf 80 [423, 422, 8, 66] = true := by decide +kernel
theorem zf_X7_skipBlanks : zchf 81 [380, 379, 0, 66] = true := by decide +kernel
theorem zf_X7_letter : zchf 82 [384, 383, 1, 66] = true := by decide +kernel
theorem zf_X7_isFigure : zchf 83 [403, 402, 9999, 66] = true := by decide +kernel
theorem zf_X7_fail : zchf 84 [392, 391, 3, 66] = true := by decide +kernel
theorem zf_X8_keyOf : zchf 85 [595, 594, 9999, 78] = true := by decide +kernel
theorem zf_X8_repeatOf : zchf 86 [598, 597, 9999, 78] = true := by decide +kernel
theorem zf_X8_repeatsBy : zchf 87 [601, 600, 9999, 78] = true := by decide +kernel
theorem zf_X8_openRooms : zchf 88 [530, 529, 9999, 78] = true := by decide +kernel
theorem zf_X8_mostRead : zchf 89 [566, 565, 9999, 78] = true := by decide +kernel
theorem zf_X8_howManyRead : zchf 90 [569, 568, 9999, 78] = true := by decide +kernel
theorem zf_X8_firstThatReads : zchf 91 [755, 754, 9999, 78] = true := by decide +kernel
theorem zf_X8_sharedEnd : zchf 92 [846, 845, 9999, 78] = true := by decide +kernel
theorem zf_X8_endsAsBegins : zchf 93 [850, 849, 9999, 78] = true := by decide +kernel
theorem zf_X8_nearestRoom : zchf 94 [890, 889, 9999, 78] = true := by decide +kernel
theorem zf_X8_between : zchf 95 [894, 893, 9999, 78] = true := by decide +kernel
theorem zf_X8_stepsBetween : zchf 96 [904, 903, 9999, 78] = true := by decide +kernel
theorem zf_X8_oneStepOn : zchf 97 [908, 907, 9999, 78] = true := by decide +kernel
theorem zf_X9_at : zchf 98 [445, 444, 9999, 74] = true := by decide +kernel
theorem zf_X9_put : zchf 99 [356, 355, 9999, 74] = true := by decide +kernel
theorem zf_X9_copy : zchf 100 [476, 475, 9999, 74] = true := by decide +kernel
theorem zf_X9_leftOver : zchf 101 [609, 608, 9999, 74] = true := by decide +kernel
theorem zf_X9_isIn : zchf 102 [438, 437, 9999, 74] = true := by decide +kernel
theorem zf_X10_seen : zchf 103 [573, 571, 572, 71] = true := by decide +kernel
theorem zf_X10_entries : zchf 104 [577, 575, 576, 71] = true := by decide +kernel
theorem zf_X10_forget : zchf 105 [510, 508, 509, 71] = true := by decide +kernel
theorem zf_X10_addSeen : zchf 106 [926, 924, 925, 71] = true := by decide +kernel
theorem zf_X10_addEntry : zchf 107 [978, 976, 977, 71] = true := by decide +kernel
theorem zf_X10_firstWrong : zchf 108 [986, 984, 985, 71] = true := by decide +kernel
theorem zf_X10_findPlaces : zchf 109 [935, 933, 934, 71] = true := by decide +kernel
theorem zf_X10_found : zchf 110 [946, 944, 945, 71] = true := by decide +kernel
theorem zf_X10_firstFound : zchf 111 [950, 948, 949, 71] = true := by decide +kernel
theorem zf_X10_roomsFound : zchf 112 [954, 952, 953, 71] = true := by decide +kernel
theorem zf_X10_bestLook : zchf 113 [962, 960, 961, 71] = true := by decide +kernel
theorem zf_X10_fits : zchf 114 [940, 939, 22, 71] = true := by decide +kernel
theorem zf_X10_greatestPart : zchf 115 [966, 965, 23, 71] = true := by decide +kernel
theorem zf_X11_feed : zchf 116 [345, 343, 344, 65] = true := by decide +kernel
theorem zf_X11_house : zchf 117 [365, 363, 364, 65] = true := by decide +kernel
theorem zf_X11_fault : zchf 118 [514, 512, 513, 65] = true := by decide +kernel
theorem zf_X11_told : zchf 119 [522, 520, 521, 65] = true := by decide +kernel
theorem zf_X11_room : zchf 120 [585, 583, 584, 65] = true := by decide +kernel
theorem zf_X11_bar : zchf 121 [615, 613, 614, 65] = true := by decide +kernel
theorem zf_X11_person : zchf 122 [628, 626, 627, 65] = true := by decide +kernel
theorem zf_X11_wall : zchf 123 [654, 652, 653, 65] = true := by decide +kernel
theorem zf_X11_logged : zchf 124 [666, 664, 665, 65] = true := by decide +kernel
theorem zf_X11_hour : zchf 125 [674, 672, 673, 65] = true := by decide +kernel
theorem zf_X11_lift : zchf 126 [738, 736, 737, 65] = true := by decide +kernel
theorem zf_X11_paste : zchf 127 [748, 746, 747, 65] = true := by decide +kernel
theorem zf_X11_moveTo : zchf 128 [752, 750, 751, 65] = true := by decide +kernel
theorem zf_X11_pace : zchf 129 [760, 758, 759, 65] = true := by decide +kernel
theorem zf_X11_drift : zchf 130 [765, 763, 764, 65] = true := by decide +kernel
theorem zf_X11_undo : zchf 131 [782, 780, 781, 65] = true := by decide +kernel
theorem zf_X11_where : zchf 132 [790, 788, 789, 65] = true := by decide +kernel
theorem zf_X11_meets : zchf 133 [799, 797, 798, 65] = true := by decide +kernel
theorem zf_X11_together : zchf 134 [803, 801, 802, 65] = true := by decide +kernel
theorem zf_X11_canon : zchf 135 [810, 808, 809, 65] = true := by decide +kernel
theorem zf_X11_bestCanon : zchf 136 [824, 822, 823, 65] = true := by decide +kernel
theorem zf_X11_match : zchf 137 [832, 830, 831, 65] = true := by decide +kernel
theorem zf_X11_join : zchf 138 [843, 841, 842, 65] = true := by decide +kernel
theorem zf_X11_shortest : zchf 139 [854, 852, 853, 65] = true := by decide +kernel
theorem zf_X11_nearest : zchf 140 [887, 885, 886, 65] = true := by decide +kernel
theorem zf_X11_modulation : zchf 141 [901, 899, 900, 65] = true := by decide +kernel
theorem zf_X11_sounds : zchf 142 [912, 910, 911, 65] = true := by decide +kernel
theorem zf_X11_dry : zchf 143 [916, 914, 915, 65] = true := by decide +kernel
theorem zf_X11_see : zchf 144 [922, 920, 921, 65] = true := by decide +kernel
theorem zf_X11_places : zchf 145 [931, 929, 930, 65] = true := by decide +kernel
theorem zf_X11_lookAt : zchf 146 [958, 956, 957, 65] = true := by decide +kernel
theorem zf_X11_write : zchf 147 [974, 972, 973, 65] = true := by decide +kernel
theorem zf_X11_judge : zchf 148 [982, 980, 981, 65] = true := by decide +kernel
theorem zf_X11_tear : zchf 149 [991, 989, 990, 65] = true := by decide +kernel
theorem zf_X11_seed : zchf 150 [995, 993, 994, 65] = true := by decide +kernel
theorem zf_X11_keep : zchf 151 [999, 997, 998, 65] = true := by decide +kernel
theorem zf_X11_goBack : zchf 152 [1009, 1007, 1008, 65] = true := by decide +kernel
theorem zf_X11_beyond : zchf 153 [348, 347, 9999, 65] = true := by decide +kernel
theorem zf_X11_areTwoRooms : zchf 154 [814, 813, 18, 65] = true := by decide +kernel
theorem zf_X11_refusalOfHours : zchf 155 [678, 677, 12, 65] = true := by decide +kernel
theorem zf_X11_turnByHand : zchf 156 [742, 741, 14, 65] = true := by decide +kernel
theorem zf_X11_meetingsTried : zchf 157 [794, 793, 17, 65] = true := by decide +kernel
theorem zf_X11_draw : zchf 158 [773, 772, 16, 65] = true := by decide +kernel
theorem zf_X11_deedByDraws : zchf 159 [769, 768, 15, 65] = true := by decide +kernel
theorem zf_X12_in : zchf 160 [1120, 1119, 9999, 73] = true := by decide +kernel
theorem zf_X12_has : zchf 161 [1202, 1201, 9999, 73] = true := by decide +kernel
theorem zf_X12_bits : zchf 162 [1213, 1212, 9999, 73] = true := by decide +kernel
theorem zf_X12_lesser : zchf 163 [1298, 1297, 9999, 73] = true := by decide +kernel
theorem zf_X12_copies : zchf 164 [1175, 1174, 9999, 73] = true := by decide +kernel
theorem zf_X12_begins : zchf 165 [1179, 1178, 35, 73] = true := by decide +kernel
theorem zf_X12_feed : zchf 166 [1116, 1114, 1115, 73] = true := by decide +kernel
theorem zf_X12_here : zchf 167 [1134, 1133, 25, 73] = true := by decide +kernel
theorem zf_X12_step : zchf 168 [1130, 1129, 24, 73] = true := by decide +kernel
theorem zf_X12_fails : zchf 169 [1148, 1147, 28, 73] = true := by decide +kernel
theorem zf_X12_number : zchf 170 [1144, 1143, 27, 73] = true := by decide +kernel
theorem zf_X12_ends : zchf 171 [1152, 1151, 29, 73] = true := by decide +kernel
theorem zf_X12_row : zchf 172 [1160, 1159, 31, 73] = true := by decide +kernel
theorem zf_X12_readsRoom : zchf 173 [1156, 1155, 30, 73] = true := by decide +kernel
theorem zf_X12_readsUnder : zchf 174 [1164, 1163, 32, 73] = true := by decide +kernel
theorem zf_X12_readsPerson : zchf 175 [1168, 1167, 33, 73] = true := by decide +kernel
theorem zf_X12_readsWall : zchf 176 [1172, 1171, 34, 73] = true := by decide +kernel
theorem zf_X12_readsClause : zchf 177 [1140, 1139, 26, 73] = true := by decide +kernel
theorem zf_X12_house : zchf 178 [1126, 1124, 1125, 73] = true := by decide +kernel
theorem zf_X12_fault : zchf 179 [1183, 1181, 1182, 73] = true := by decide +kernel
theorem zf_X12_isRoom : zchf 180 [1225, 1224, 42, 73] = true := by decide +kernel
theorem zf_X12_isBar : zchf 181 [1242, 1241, 45, 73] = true := by decide +kernel
theorem zf_X12_isPerson : zchf 182 [1251, 1250, 46, 73] = true := by decide +kernel
theorem zf_X12_areTwo : zchf 183 [1360, 1359, 56, 73] = true := by decide +kernel
theorem zf_X12_turned : zchf 184 [1206, 1205, 39, 73] = true := by decide +kernel
theorem zf_X12_readsOn : zchf 185 [1199, 1198, 38, 73] = true := by decide +kernel
theorem zf_X12_reads : zchf 186 [1195, 1194, 37, 73] = true := by decide +kernel
theorem zf_X12_open : zchf 187 [1191, 1190, 36, 73] = true := by decide +kernel
theorem zf_X12_liftedInAll : zchf 188 [1210, 1209, 40, 73] = true := by decide +kernel
theorem zf_X12_mostRead : zchf 189 [1217, 1216, 41, 73] = true := by decide +kernel
theorem zf_X12_key : zchf 190 [1230, 1229, 43, 73] = true := by decide +kernel
theorem zf_X12_repeat : zchf 191 [1234, 1233, 44, 73] = true := by decide +kernel
theorem zf_X12_told : zchf 192 [1187, 1185, 1186, 73] = true := by decide +kernel
theorem zf_X12_room : zchf 193 [1221, 1219, 1220, 73] = true := by decide +kernel
theorem zf_X12_bar : zchf 194 [1238, 1236, 1237, 73] = true := by decide +kernel
theorem zf_X12_person : zchf 195 [1247, 1245, 1246, 73] = true := by decide +kernel
theorem zf_X12_wall : zchf 196 [1256, 1254, 1255, 73] = true := by decide +kernel
theorem zf_X12_logged : zchf 197 [1260, 1258, 1259, 73] = true := by decide +kernel
theorem zf_X12_walks : zchf 198 [1283, 1282, 50, 73] = true := by decide +kernel
theorem zf_X12_logs : zchf 199 [1294, 1293, 9999, 73] = true := by decide +kernel
theorem zf_X12_isAt : zchf 200 [1291, 1290, 52, 73] = true := by decide +kernel
theorem zf_X12_meetings : zchf 201 [1287, 1286, 51, 73] = true := by decide +kernel
theorem zf_X12_hourGoes : zchf 202 [1279, 1278, 49, 73] = true := by decide +kernel
theorem zf_X12_remember : zchf 203 [1275, 1274, 48, 73] = true := by decide +kernel
theorem zf_X12_refuses : zchf 204 [1268, 1267, 47, 73] = true := by decide +kernel
theorem zf_X12_hour : zchf 205 [1264, 1262, 1263, 73] = true := by decide +kernel
theorem zf_X12_lift : zchf 206 [1302, 1300, 1301, 73] = true := by decide +kernel
theorem zf_X12_paste : zchf 207 [1306, 1304, 1305, 73] = true := by decide +kernel
theorem zf_X12_moveTo : zchf 208 [1310, 1308, 1309, 73] = true := by decide +kernel
theorem zf_X12_pace : zchf 209 [1314, 1312, 1313, 73] = true := by decide +kernel
theorem zf_X12_draw : zchf 210 [1327, 1326, 54, 73] = true := by decide +kernel
theorem zf_X12_draws : zchf 211 [1323, 1322, 53, 73] = true := by decide +kernel
theorem zf_X12_drift : zchf 212 [1319, 1317, 1318, 73] = true := by decide +kernel
theorem zf_X12_undo : zchf 213 [1335, 1333, 1334, 73] = true := by decide +kernel
theorem zf_X12_layAside : zchf 214 [1344, 1343, 55, 73] = true := by decide +kernel
theorem zf_X12_where : zchf 215 [1339, 1337, 1338, 73] = true := by decide +kernel
theorem zf_X12_meets : zchf 216 [1348, 1346, 1347, 73] = true := by decide +kernel
theorem zf_X12_together : zchf 217 [1352, 1350, 1351, 73] = true := by decide +kernel
theorem zf_X12_isIn : zchf 218 [1369, 1368, 58, 73] = true := by decide +kernel
theorem zf_X12_inCanon : zchf 219 [1365, 1364, 57, 73] = true := by decide +kernel
theorem zf_X12_canon : zchf 220 [1356, 1354, 1355, 73] = true := by decide +kernel
theorem zf_X12_bestCanon : zchf 221 [1373, 1371, 1372, 73] = true := by decide +kernel
theorem zf_X12_match : zchf 222 [1377, 1375, 1376, 73] = true := by decide +kernel
theorem zf_X12_joinOf : zchf 223 [1385, 1384, 59, 73] = true := by decide +kernel
theorem zf_X12_join : zchf 224 [1381, 1379, 1380, 73] = true := by decide +kernel
theorem zf_X12_nextOrder : zchf 225 [1394, 1393, 60, 73] = true := by decide +kernel
theorem zf_X12_shortest : zchf 226 [1389, 1387, 1388, 73] = true := by decide +kernel
theorem zf_X12_apart : zchf 227 [1402, 1401, 61, 73] = true := by decide +kernel
theorem zf_X12_nearest : zchf 228 [1398, 1396, 1397, 73] = true := by decide +kernel
theorem zf_X12_modulation : zchf 229 [1406, 1404, 1405, 73] = true := by decide +kernel
theorem zf_X12_sounds : zchf 230 [1410, 1408, 1409, 73] = true := by decide +kernel
theorem zf_X12_dry : zchf 231 [1414, 1412, 1413, 73] = true := by decide +kernel
theorem zf_X12_see : zchf 232 [1421, 1419, 1420, 73] = true := by decide +kernel
theorem zf_X12_isSo : zchf 233 [1429, 1428, 62, 73] = true := by decide +kernel
theorem zf_X12_places : zchf 234 [1425, 1423, 1424, 73] = true := by decide +kernel
theorem zf_X12_greatestPart : zchf 235 [1438, 1437, 63, 73] = true := by decide +kernel
theorem zf_X12_lookAt : zchf 236 [1433, 1431, 1432, 73] = true := by decide +kernel
theorem zf_X12_write : zchf 237 [1442, 1440, 1441, 73] = true := by decide +kernel
theorem zf_X12_judge : zchf 238 [1446, 1444, 1445, 73] = true := by decide +kernel
theorem zf_X12_tear : zchf 239 [1450, 1448, 1449, 73] = true := by decide +kernel
theorem zf_X12_seed : zchf 240 [1454, 1452, 1453, 73] = true := by decide +kernel
theorem zf_X12_keep : zchf 241 [1458, 1456, 1457, 73] = true := by decide +kernel
theorem zf_X12_goBack : zchf 242 [1462, 1460, 1461, 73] = true := by decide +kernel
def zFP_0 : List (Nat × List Nat) := [(1, [560, 559, 9999, 79]), (5, [376, 375, 9999, 75]), (6, [817, 816, 9999, 81]), (7, [827, 826, 9999, 81]), (8, [835, 834, 9999, 81]), (9, [373, 371, 372, 67]), (10, [473, 471, 472, 67]), (11, [589, 587, 588, 67]), (12, [619, 617, 618, 67]), (13, [632, 630, 631, 67]), (14, [658, 656, 657, 67]), (15, [435, 433, 434, 67]), (16, [442, 440, 441, 67]), (17, [549, 547, 548, 67]), (18, [545, 543, 544, 67]), (19, [489, 487, 488, 67]), (20, [662, 660, 661, 67]), (21, [418, 416, 417, 67]), (22, [449, 447, 448, 67]), (23, [457, 455, 456, 67]), (24, [465, 463, 464, 67]), (25, [427, 425, 426, 67]), (26, [506, 504, 505, 70]), (27, [1013, 1011, 1012, 70]), (28, [1003, 1001, 1002, 70]), (29, [1018, 1016, 1017, 70]), (30, [1022, 1020, 1021, 70]), (31, [484, 482, 483, 68]), (32, [692, 690, 691, 68]), (33, [557, 555, 556, 68]), (34, [553, 551, 552, 68]), (35, [539, 537, 538, 68]), (36, [734, 732, 733, 68]), (37, [535, 533, 534, 68]), (38, [605, 603, 604, 68]), (39, [636, 634, 635, 68]), (40, [640, 638, 639, 68]), (41, [644, 642, 643, 68]), (42, [648, 646, 647, 68]), (43, [718, 716, 717, 68])]
theorem zFPo_0 : ∀ q ∈ zFP_0, zchf q.1 q.2 = true := List.forall_mem_cons.mpr ⟨zf_J6_bitCount_0f7a4, List.forall_mem_cons.mpr ⟨zf_J7_fill_53178, List.forall_mem_cons.mpr ⟨zf_X0_alike, List.forall_mem_cons.mpr ⟨zf_X0_bestShift, List.forall_mem_cons.mpr ⟨zf_X0_barsToTurn, List.forall_mem_cons.mpr ⟨zf_X1_clear, List.forall_mem_cons.mpr ⟨zf_X1_become, List.forall_mem_cons.mpr ⟨zf_X1_hasRoom, List.forall_mem_cons.mpr ⟨zf_X1_hasBar, List.forall_mem_cons.mpr ⟨zf_X1_hasPerson, List.forall_mem_cons.mpr ⟨zf_X1_hasWall, List.forall_mem_cons.mpr ⟨zf_X1_hasUnder, List.forall_mem_cons.mpr ⟨zf_X1_barsOf, List.forall_mem_cons.mpr ⟨zf_X1_paperOf, List.forall_mem_cons.mpr ⟨zf_X1_underOf, List.forall_mem_cons.mpr ⟨zf_X1_personPart, List.forall_mem_cons.mpr ⟨zf_X1_wallPart, List.forall_mem_cons.mpr ⟨zf_X1_putPaper, List.forall_mem_cons.mpr ⟨zf_X1_putUnder, List.forall_mem_cons.mpr ⟨zf_X1_putPerson, List.forall_mem_cons.mpr ⟨zf_X1_putWall, List.forall_mem_cons.mpr ⟨zf_X1_addRoom, List.forall_mem_cons.mpr ⟨zf_X2_forget, List.forall_mem_cons.mpr ⟨zf_X2_has, List.forall_mem_cons.mpr ⟨zf_X2_store, List.forall_mem_cons.mpr ⟨zf_X2_restore, List.forall_mem_cons.mpr ⟨zf_X2_chanceOf, List.forall_mem_cons.mpr ⟨zf_X3_begin, List.forall_mem_cons.mpr ⟨zf_X3_become, List.forall_mem_cons.mpr ⟨zf_X3_liftedIn, List.forall_mem_cons.mpr ⟨zf_X3_liftedInAll, List.forall_mem_cons.mpr ⟨zf_X3_isLifted, List.forall_mem_cons.mpr ⟨zf_X3_turn, List.forall_mem_cons.mpr ⟨zf_X3_reads, List.forall_mem_cons.mpr ⟨zf_X3_readsRound, List.forall_mem_cons.mpr ⟨zf_X3_roomOf, List.forall_mem_cons.mpr ⟨zf_X3_placeOf, List.forall_mem_cons.mpr ⟨zf_X3_paceOf, List.forall_mem_cons.mpr ⟨zf_X3_readBy, List.forall_mem_cons.mpr ⟨zf_X3_isAt, fun _ h => absurd h List.not_mem_nil⟩⟩⟩⟩⟩⟩⟩⟩⟩⟩⟩⟩⟩⟩⟩⟩⟩⟩⟩⟩⟩⟩⟩⟩⟩⟩⟩⟩⟩⟩⟩⟩⟩⟩⟩⟩⟩⟩⟩⟩
def zFP_1 : List (Nat × List Nat) := [(44, [493, 491, 492, 68]), (45, [498, 496, 497, 68]), (46, [725, 723, 724, 68]), (47, [526, 524, 525, 68]), (48, [670, 668, 669, 68]), (49, [858, 856, 857, 72]), (50, [879, 877, 878, 72]), (51, [883, 881, 882, 72]), (52, [865, 864, 19, 72]), (53, [869, 868, 20, 72]), (54, [874, 873, 21, 72]), (55, [697, 696, 9999, 80]), (56, [806, 805, 9999, 80]), (57, [700, 699, 9999, 80]), (58, [710, 709, 9999, 80]), (59, [713, 712, 9999, 80]), (60, [721, 720, 9999, 80]), (61, [729, 728, 9999, 80]), (62, [581, 579, 580, 69]), (63, [502, 500, 501, 69]), (64, [684, 682, 683, 69]), (65, [786, 784, 785, 69]), (66, [688, 687, 13, 69]), (67, [360, 358, 359, 66]), (68, [518, 516, 517, 66]), (69, [469, 467, 468, 66]), (70, [353, 351, 352, 66]), (71, [369, 367, 368, 66]), (72, [388, 387, 2, 66]), (73, [396, 395, 4, 66]), (74, [414, 413, 7, 66]), (75, [431, 430, 9, 66]), (76, [453, 452, 10, 66]), (77, [461, 460, 11, 66]), (78, [400, 399, 5, 66]), (79, [410, 409, 6, 66]), (80, [423, 422, 8, 66]), (81, [380, 379, 0, 66]), (82, [384, 383, 1, 66]), (83, [403, 402, 9999, 66])]
theorem zFPo_1 : ∀ q ∈ zFP_1, zchf q.1 q.2 = true := List.forall_mem_cons.mpr ⟨zf_X3_setPlace, List.forall_mem_cons.mpr ⟨zf_X3_setPace, List.forall_mem_cons.mpr ⟨zf_X3_addMeeting, List.forall_mem_cons.mpr ⟨zf_X3_loggedNow, List.forall_mem_cons.mpr ⟨zf_X3_meeting, List.forall_mem_cons.mpr ⟨zf_X4_reckon, List.forall_mem_cons.mpr ⟨zf_X4_fewestBars, List.forall_mem_cons.mpr ⟨zf_X4_leastNumber, List.forall_mem_cons.mpr ⟨zf_X4_barsBehind, List.forall_mem_cons.mpr ⟨zf_X4_firstBest, List.forall_mem_cons.mpr ⟨zf_X4_barsWith, List.forall_mem_cons.mpr ⟨zf_X5_anHour, List.forall_mem_cons.mpr ⟨zf_X5_areAtOneWall, List.forall_mem_cons.mpr ⟨zf_X5_goOn, List.forall_mem_cons.mpr ⟨zf_X5_meetThrough, List.forall_mem_cons.mpr ⟨zf_X5_isAtA, List.forall_mem_cons.mpr ⟨zf_X5_isAtB, List.forall_mem_cons.mpr ⟨zf_X5_dampLifts, List.forall_mem_cons.mpr ⟨zf_X6_size, List.forall_mem_cons.mpr ⟨zf_X6_forget, List.forall_mem_cons.mpr ⟨zf_X6_add, List.forall_mem_cons.mpr ⟨zf_X6_takeBack, List.forall_mem_cons.mpr ⟨zf_X6_kept, List.forall_mem_cons.mpr ⟨zf_X7_letters, List.forall_mem_cons.mpr ⟨zf_X7_place, List.forall_mem_cons.mpr ⟨zf_X7_draft, List.forall_mem_cons.mpr ⟨zf_X7_add, List.forall_mem_cons.mpr ⟨zf_X7_read, List.forall_mem_cons.mpr ⟨zf_X7_readClause, List.forall_mem_cons.mpr ⟨zf_X7_readDamp, List.forall_mem_cons.mpr ⟨zf_X7_readRoom, List.forall_mem_cons.mpr ⟨zf_X7_readUnder, List.forall_mem_cons.mpr ⟨zf_X7_readPerson, List.forall_mem_cons.mpr ⟨zf_X7_readWall, List.forall_mem_cons.mpr ⟨zf_X7_readNumber, List.forall_mem_cons.mpr ⟨zf_X7_expect, List.forall_mem_cons.mpr ⟨zf_X7_accept, List.forall_mem_cons.mpr ⟨zf_X7_skipBlanks, List.forall_mem_cons.mpr ⟨zf_X7_letter, List.forall_mem_cons.mpr ⟨zf_X7_isFigure, fun _ h => absurd h List.not_mem_nil⟩⟩⟩⟩⟩⟩⟩⟩⟩⟩⟩⟩⟩⟩⟩⟩⟩⟩⟩⟩⟩⟩⟩⟩⟩⟩⟩⟩⟩⟩⟩⟩⟩⟩⟩⟩⟩⟩⟩⟩
def zFP_2 : List (Nat × List Nat) := [(84, [392, 391, 3, 66]), (85, [595, 594, 9999, 78]), (86, [598, 597, 9999, 78]), (87, [601, 600, 9999, 78]), (88, [530, 529, 9999, 78]), (89, [566, 565, 9999, 78]), (90, [569, 568, 9999, 78]), (91, [755, 754, 9999, 78]), (92, [846, 845, 9999, 78]), (93, [850, 849, 9999, 78]), (94, [890, 889, 9999, 78]), (95, [894, 893, 9999, 78]), (96, [904, 903, 9999, 78]), (97, [908, 907, 9999, 78]), (98, [445, 444, 9999, 74]), (99, [356, 355, 9999, 74]), (100, [476, 475, 9999, 74]), (101, [609, 608, 9999, 74]), (102, [438, 437, 9999, 74]), (103, [573, 571, 572, 71]), (104, [577, 575, 576, 71]), (105, [510, 508, 509, 71]), (106, [926, 924, 925, 71]), (107, [978, 976, 977, 71]), (108, [986, 984, 985, 71]), (109, [935, 933, 934, 71]), (110, [946, 944, 945, 71]), (111, [950, 948, 949, 71]), (112, [954, 952, 953, 71]), (113, [962, 960, 961, 71]), (114, [940, 939, 22, 71]), (115, [966, 965, 23, 71]), (116, [345, 343, 344, 65]), (117, [365, 363, 364, 65]), (118, [514, 512, 513, 65]), (119, [522, 520, 521, 65]), (120, [585, 583, 584, 65]), (121, [615, 613, 614, 65]), (122, [628, 626, 627, 65]), (123, [654, 652, 653, 65])]
theorem zFPo_2 : ∀ q ∈ zFP_2, zchf q.1 q.2 = true := List.forall_mem_cons.mpr ⟨zf_X7_fail, List.forall_mem_cons.mpr ⟨zf_X8_keyOf, List.forall_mem_cons.mpr ⟨zf_X8_repeatOf, List.forall_mem_cons.mpr ⟨zf_X8_repeatsBy, List.forall_mem_cons.mpr ⟨zf_X8_openRooms, List.forall_mem_cons.mpr ⟨zf_X8_mostRead, List.forall_mem_cons.mpr ⟨zf_X8_howManyRead, List.forall_mem_cons.mpr ⟨zf_X8_firstThatReads, List.forall_mem_cons.mpr ⟨zf_X8_sharedEnd, List.forall_mem_cons.mpr ⟨zf_X8_endsAsBegins, List.forall_mem_cons.mpr ⟨zf_X8_nearestRoom, List.forall_mem_cons.mpr ⟨zf_X8_between, List.forall_mem_cons.mpr ⟨zf_X8_stepsBetween, List.forall_mem_cons.mpr ⟨zf_X8_oneStepOn, List.forall_mem_cons.mpr ⟨zf_X9_at, List.forall_mem_cons.mpr ⟨zf_X9_put, List.forall_mem_cons.mpr ⟨zf_X9_copy, List.forall_mem_cons.mpr ⟨zf_X9_leftOver, List.forall_mem_cons.mpr ⟨zf_X9_isIn, List.forall_mem_cons.mpr ⟨zf_X10_seen, List.forall_mem_cons.mpr ⟨zf_X10_entries, List.forall_mem_cons.mpr ⟨zf_X10_forget, List.forall_mem_cons.mpr ⟨zf_X10_addSeen, List.forall_mem_cons.mpr ⟨zf_X10_addEntry, List.forall_mem_cons.mpr ⟨zf_X10_firstWrong, List.forall_mem_cons.mpr ⟨zf_X10_findPlaces, List.forall_mem_cons.mpr ⟨zf_X10_found, List.forall_mem_cons.mpr ⟨zf_X10_firstFound, List.forall_mem_cons.mpr ⟨zf_X10_roomsFound, List.forall_mem_cons.mpr ⟨zf_X10_bestLook, List.forall_mem_cons.mpr ⟨zf_X10_fits, List.forall_mem_cons.mpr ⟨zf_X10_greatestPart, List.forall_mem_cons.mpr ⟨zf_X11_feed, List.forall_mem_cons.mpr ⟨zf_X11_house, List.forall_mem_cons.mpr ⟨zf_X11_fault, List.forall_mem_cons.mpr ⟨zf_X11_told, List.forall_mem_cons.mpr ⟨zf_X11_room, List.forall_mem_cons.mpr ⟨zf_X11_bar, List.forall_mem_cons.mpr ⟨zf_X11_person, List.forall_mem_cons.mpr ⟨zf_X11_wall, fun _ h => absurd h List.not_mem_nil⟩⟩⟩⟩⟩⟩⟩⟩⟩⟩⟩⟩⟩⟩⟩⟩⟩⟩⟩⟩⟩⟩⟩⟩⟩⟩⟩⟩⟩⟩⟩⟩⟩⟩⟩⟩⟩⟩⟩⟩
def zFP_3 : List (Nat × List Nat) := [(124, [666, 664, 665, 65]), (125, [674, 672, 673, 65]), (126, [738, 736, 737, 65]), (127, [748, 746, 747, 65]), (128, [752, 750, 751, 65]), (129, [760, 758, 759, 65]), (130, [765, 763, 764, 65]), (131, [782, 780, 781, 65]), (132, [790, 788, 789, 65]), (133, [799, 797, 798, 65]), (134, [803, 801, 802, 65]), (135, [810, 808, 809, 65]), (136, [824, 822, 823, 65]), (137, [832, 830, 831, 65]), (138, [843, 841, 842, 65]), (139, [854, 852, 853, 65]), (140, [887, 885, 886, 65]), (141, [901, 899, 900, 65]), (142, [912, 910, 911, 65]), (143, [916, 914, 915, 65]), (144, [922, 920, 921, 65]), (145, [931, 929, 930, 65]), (146, [958, 956, 957, 65]), (147, [974, 972, 973, 65]), (148, [982, 980, 981, 65]), (149, [991, 989, 990, 65]), (150, [995, 993, 994, 65]), (151, [999, 997, 998, 65]), (152, [1009, 1007, 1008, 65]), (153, [348, 347, 9999, 65]), (154, [814, 813, 18, 65]), (155, [678, 677, 12, 65]), (156, [742, 741, 14, 65]), (157, [794, 793, 17, 65]), (158, [773, 772, 16, 65]), (159, [769, 768, 15, 65]), (160, [1120, 1119, 9999, 73]), (161, [1202, 1201, 9999, 73]), (162, [1213, 1212, 9999, 73]), (163, [1298, 1297, 9999, 73])]
theorem zFPo_3 : ∀ q ∈ zFP_3, zchf q.1 q.2 = true := List.forall_mem_cons.mpr ⟨zf_X11_logged, List.forall_mem_cons.mpr ⟨zf_X11_hour, List.forall_mem_cons.mpr ⟨zf_X11_lift, List.forall_mem_cons.mpr ⟨zf_X11_paste, List.forall_mem_cons.mpr ⟨zf_X11_moveTo, List.forall_mem_cons.mpr ⟨zf_X11_pace, List.forall_mem_cons.mpr ⟨zf_X11_drift, List.forall_mem_cons.mpr ⟨zf_X11_undo, List.forall_mem_cons.mpr ⟨zf_X11_where, List.forall_mem_cons.mpr ⟨zf_X11_meets, List.forall_mem_cons.mpr ⟨zf_X11_together, List.forall_mem_cons.mpr ⟨zf_X11_canon, List.forall_mem_cons.mpr ⟨zf_X11_bestCanon, List.forall_mem_cons.mpr ⟨zf_X11_match, List.forall_mem_cons.mpr ⟨zf_X11_join, List.forall_mem_cons.mpr ⟨zf_X11_shortest, List.forall_mem_cons.mpr ⟨zf_X11_nearest, List.forall_mem_cons.mpr ⟨zf_X11_modulation, List.forall_mem_cons.mpr ⟨zf_X11_sounds, List.forall_mem_cons.mpr ⟨zf_X11_dry, List.forall_mem_cons.mpr ⟨zf_X11_see, List.forall_mem_cons.mpr ⟨zf_X11_places, List.forall_mem_cons.mpr ⟨zf_X11_lookAt, List.forall_mem_cons.mpr ⟨zf_X11_write, List.forall_mem_cons.mpr ⟨zf_X11_judge, List.forall_mem_cons.mpr ⟨zf_X11_tear, List.forall_mem_cons.mpr ⟨zf_X11_seed, List.forall_mem_cons.mpr ⟨zf_X11_keep, List.forall_mem_cons.mpr ⟨zf_X11_goBack, List.forall_mem_cons.mpr ⟨zf_X11_beyond, List.forall_mem_cons.mpr ⟨zf_X11_areTwoRooms, List.forall_mem_cons.mpr ⟨zf_X11_refusalOfHours, List.forall_mem_cons.mpr ⟨zf_X11_turnByHand, List.forall_mem_cons.mpr ⟨zf_X11_meetingsTried, List.forall_mem_cons.mpr ⟨zf_X11_draw, List.forall_mem_cons.mpr ⟨zf_X11_deedByDraws, List.forall_mem_cons.mpr ⟨zf_X12_in, List.forall_mem_cons.mpr ⟨zf_X12_has, List.forall_mem_cons.mpr ⟨zf_X12_bits, List.forall_mem_cons.mpr ⟨zf_X12_lesser, fun _ h => absurd h List.not_mem_nil⟩⟩⟩⟩⟩⟩⟩⟩⟩⟩⟩⟩⟩⟩⟩⟩⟩⟩⟩⟩⟩⟩⟩⟩⟩⟩⟩⟩⟩⟩⟩⟩⟩⟩⟩⟩⟩⟩⟩⟩
def zFP_4 : List (Nat × List Nat) := [(164, [1175, 1174, 9999, 73]), (165, [1179, 1178, 35, 73]), (166, [1116, 1114, 1115, 73]), (167, [1134, 1133, 25, 73]), (168, [1130, 1129, 24, 73]), (169, [1148, 1147, 28, 73]), (170, [1144, 1143, 27, 73]), (171, [1152, 1151, 29, 73]), (172, [1160, 1159, 31, 73]), (173, [1156, 1155, 30, 73]), (174, [1164, 1163, 32, 73]), (175, [1168, 1167, 33, 73]), (176, [1172, 1171, 34, 73]), (177, [1140, 1139, 26, 73]), (178, [1126, 1124, 1125, 73]), (179, [1183, 1181, 1182, 73]), (180, [1225, 1224, 42, 73]), (181, [1242, 1241, 45, 73]), (182, [1251, 1250, 46, 73]), (183, [1360, 1359, 56, 73]), (184, [1206, 1205, 39, 73]), (185, [1199, 1198, 38, 73]), (186, [1195, 1194, 37, 73]), (187, [1191, 1190, 36, 73]), (188, [1210, 1209, 40, 73]), (189, [1217, 1216, 41, 73]), (190, [1230, 1229, 43, 73]), (191, [1234, 1233, 44, 73]), (192, [1187, 1185, 1186, 73]), (193, [1221, 1219, 1220, 73]), (194, [1238, 1236, 1237, 73]), (195, [1247, 1245, 1246, 73]), (196, [1256, 1254, 1255, 73]), (197, [1260, 1258, 1259, 73]), (198, [1283, 1282, 50, 73]), (199, [1294, 1293, 9999, 73]), (200, [1291, 1290, 52, 73]), (201, [1287, 1286, 51, 73]), (202, [1279, 1278, 49, 73]), (203, [1275, 1274, 48, 73])]
theorem zFPo_4 : ∀ q ∈ zFP_4, zchf q.1 q.2 = true := List.forall_mem_cons.mpr ⟨zf_X12_copies, List.forall_mem_cons.mpr ⟨zf_X12_begins, List.forall_mem_cons.mpr ⟨zf_X12_feed, List.forall_mem_cons.mpr ⟨zf_X12_here, List.forall_mem_cons.mpr ⟨zf_X12_step, List.forall_mem_cons.mpr ⟨zf_X12_fails, List.forall_mem_cons.mpr ⟨zf_X12_number, List.forall_mem_cons.mpr ⟨zf_X12_ends, List.forall_mem_cons.mpr ⟨zf_X12_row, List.forall_mem_cons.mpr ⟨zf_X12_readsRoom, List.forall_mem_cons.mpr ⟨zf_X12_readsUnder, List.forall_mem_cons.mpr ⟨zf_X12_readsPerson, List.forall_mem_cons.mpr ⟨zf_X12_readsWall, List.forall_mem_cons.mpr ⟨zf_X12_readsClause, List.forall_mem_cons.mpr ⟨zf_X12_house, List.forall_mem_cons.mpr ⟨zf_X12_fault, List.forall_mem_cons.mpr ⟨zf_X12_isRoom, List.forall_mem_cons.mpr ⟨zf_X12_isBar, List.forall_mem_cons.mpr ⟨zf_X12_isPerson, List.forall_mem_cons.mpr ⟨zf_X12_areTwo, List.forall_mem_cons.mpr ⟨zf_X12_turned, List.forall_mem_cons.mpr ⟨zf_X12_readsOn, List.forall_mem_cons.mpr ⟨zf_X12_reads, List.forall_mem_cons.mpr ⟨zf_X12_open, List.forall_mem_cons.mpr ⟨zf_X12_liftedInAll, List.forall_mem_cons.mpr ⟨zf_X12_mostRead, List.forall_mem_cons.mpr ⟨zf_X12_key, List.forall_mem_cons.mpr ⟨zf_X12_repeat, List.forall_mem_cons.mpr ⟨zf_X12_told, List.forall_mem_cons.mpr ⟨zf_X12_room, List.forall_mem_cons.mpr ⟨zf_X12_bar, List.forall_mem_cons.mpr ⟨zf_X12_person, List.forall_mem_cons.mpr ⟨zf_X12_wall, List.forall_mem_cons.mpr ⟨zf_X12_logged, List.forall_mem_cons.mpr ⟨zf_X12_walks, List.forall_mem_cons.mpr ⟨zf_X12_logs, List.forall_mem_cons.mpr ⟨zf_X12_isAt, List.forall_mem_cons.mpr ⟨zf_X12_meetings, List.forall_mem_cons.mpr ⟨zf_X12_hourGoes, List.forall_mem_cons.mpr ⟨zf_X12_remember, fun _ h => absurd h List.not_mem_nil⟩⟩⟩⟩⟩⟩⟩⟩⟩⟩⟩⟩⟩⟩⟩⟩⟩⟩⟩⟩⟩⟩⟩⟩⟩⟩⟩⟩⟩⟩⟩⟩⟩⟩⟩⟩⟩⟩⟩⟩
def zFP_5 : List (Nat × List Nat) := [(204, [1268, 1267, 47, 73]), (205, [1264, 1262, 1263, 73]), (206, [1302, 1300, 1301, 73]), (207, [1306, 1304, 1305, 73]), (208, [1310, 1308, 1309, 73]), (209, [1314, 1312, 1313, 73]), (210, [1327, 1326, 54, 73]), (211, [1323, 1322, 53, 73]), (212, [1319, 1317, 1318, 73]), (213, [1335, 1333, 1334, 73]), (214, [1344, 1343, 55, 73]), (215, [1339, 1337, 1338, 73]), (216, [1348, 1346, 1347, 73]), (217, [1352, 1350, 1351, 73]), (218, [1369, 1368, 58, 73]), (219, [1365, 1364, 57, 73]), (220, [1356, 1354, 1355, 73]), (221, [1373, 1371, 1372, 73]), (222, [1377, 1375, 1376, 73]), (223, [1385, 1384, 59, 73]), (224, [1381, 1379, 1380, 73]), (225, [1394, 1393, 60, 73]), (226, [1389, 1387, 1388, 73]), (227, [1402, 1401, 61, 73]), (228, [1398, 1396, 1397, 73]), (229, [1406, 1404, 1405, 73]), (230, [1410, 1408, 1409, 73]), (231, [1414, 1412, 1413, 73]), (232, [1421, 1419, 1420, 73]), (233, [1429, 1428, 62, 73]), (234, [1425, 1423, 1424, 73]), (235, [1438, 1437, 63, 73]), (236, [1433, 1431, 1432, 73]), (237, [1442, 1440, 1441, 73]), (238, [1446, 1444, 1445, 73]), (239, [1450, 1448, 1449, 73]), (240, [1454, 1452, 1453, 73]), (241, [1458, 1456, 1457, 73]), (242, [1462, 1460, 1461, 73])]
theorem zFPo_5 : ∀ q ∈ zFP_5, zchf q.1 q.2 = true := List.forall_mem_cons.mpr ⟨zf_X12_refuses, List.forall_mem_cons.mpr ⟨zf_X12_hour, List.forall_mem_cons.mpr ⟨zf_X12_lift, List.forall_mem_cons.mpr ⟨zf_X12_paste, List.forall_mem_cons.mpr ⟨zf_X12_moveTo, List.forall_mem_cons.mpr ⟨zf_X12_pace, List.forall_mem_cons.mpr ⟨zf_X12_draw, List.forall_mem_cons.mpr ⟨zf_X12_draws, List.forall_mem_cons.mpr ⟨zf_X12_drift, List.forall_mem_cons.mpr ⟨zf_X12_undo, List.forall_mem_cons.mpr ⟨zf_X12_layAside, List.forall_mem_cons.mpr ⟨zf_X12_where, List.forall_mem_cons.mpr ⟨zf_X12_meets, List.forall_mem_cons.mpr ⟨zf_X12_together, List.forall_mem_cons.mpr ⟨zf_X12_isIn, List.forall_mem_cons.mpr ⟨zf_X12_inCanon, List.forall_mem_cons.mpr ⟨zf_X12_canon, List.forall_mem_cons.mpr ⟨zf_X12_bestCanon, List.forall_mem_cons.mpr ⟨zf_X12_match, List.forall_mem_cons.mpr ⟨zf_X12_joinOf, List.forall_mem_cons.mpr ⟨zf_X12_join, List.forall_mem_cons.mpr ⟨zf_X12_nextOrder, List.forall_mem_cons.mpr ⟨zf_X12_shortest, List.forall_mem_cons.mpr ⟨zf_X12_apart, List.forall_mem_cons.mpr ⟨zf_X12_nearest, List.forall_mem_cons.mpr ⟨zf_X12_modulation, List.forall_mem_cons.mpr ⟨zf_X12_sounds, List.forall_mem_cons.mpr ⟨zf_X12_dry, List.forall_mem_cons.mpr ⟨zf_X12_see, List.forall_mem_cons.mpr ⟨zf_X12_isSo, List.forall_mem_cons.mpr ⟨zf_X12_places, List.forall_mem_cons.mpr ⟨zf_X12_greatestPart, List.forall_mem_cons.mpr ⟨zf_X12_lookAt, List.forall_mem_cons.mpr ⟨zf_X12_write, List.forall_mem_cons.mpr ⟨zf_X12_judge, List.forall_mem_cons.mpr ⟨zf_X12_tear, List.forall_mem_cons.mpr ⟨zf_X12_seed, List.forall_mem_cons.mpr ⟨zf_X12_keep, List.forall_mem_cons.mpr ⟨zf_X12_goBack, fun _ h => absurd h List.not_mem_nil⟩⟩⟩⟩⟩⟩⟩⟩⟩⟩⟩⟩⟩⟩⟩⟩⟩⟩⟩⟩⟩⟩⟩⟩⟩⟩⟩⟩⟩⟩⟩⟩⟩⟩⟩⟩⟩⟩⟩
theorem zFP_all : ∀ q ∈ zFP_0 ++ (zFP_1 ++ (zFP_2 ++ (zFP_3 ++ (zFP_4 ++ (zFP_5))))), zchf q.1 q.2 = true := List.forall_mem_append.mpr ⟨zFPo_0, List.forall_mem_append.mpr ⟨zFPo_1, List.forall_mem_append.mpr ⟨zFPo_2, List.forall_mem_append.mpr ⟨zFPo_3, List.forall_mem_append.mpr ⟨zFPo_4, zFPo_5⟩⟩⟩⟩⟩
theorem zFP_in : ∀ f, f < 243 → zprim f = false → ((zFP_0 ++ (zFP_1 ++ (zFP_2 ++ (zFP_3 ++ (zFP_4 ++ (zFP_5)))))).any fun q => decide (q.1 = f)) = true := by decide +kernel
theorem zf_ok {f : Nat} (h0 : zprim f = false) (h : f < 243) : ∃ ps, zchf f ps = true := by
  have h1 := List.any_eq_true.mp (zFP_in f h h0)
  obtain ⟨q, hq, he⟩ := h1
  have e : q.1 = f := of_decide_eq_true he
  exact ⟨q.2, e ▸ zFP_all q hq⟩
def zKP_0 : List (Nat × List Nat) := [(1, [0, 0, 0, 0, 561, 0, 0, 0, 0, 562, 0, 0, 0, 0, 562, 0, 0, 0, 0, 0, 0, 0, 0, 563, 0, 0, 0, 0, 0, 0, 0, 0, 0, 0, 0, 0, 0, 0, 0, 0, 0, 0]), (2, [0, 0, 0, 0, 0, 0, 0]), (3, [0, 0, 0, 0, 0, 0, 0]), (4, [0, 0, 0, 0, 0, 0, 0]), (5, [0, 0, 0, 0, 0, 0, 0, 0, 0, 0, 0, 0, 0, 0, 0]), (6, [0, 0, 0, 191, 0, 818, 0, 0, 0, 0, 0, 0, 0, 0, 0, 819, 0, 0, 0, 0, 0, 820, 0, 0, 0, 0, 0, 0]), (7, [0, 0, 0, 0, 0, 191, 0, 818, 0, 0, 0, 0, 0, 0, 0, 0, 0, 0, 828, 0, 0, 0, 0, 0, 0, 0, 0, 0, 0, 0, 0]), (8, [0, 0, 0, 191, 0, 818, 0, 0, 0, 0, 0, 0, 0, 0, 0, 0, 0, 820, 0, 0, 0, 0, 819, 0, 0, 0, 0, 0, 0, 836, 0, 0, 191, 0, 0, 837, 0, 0, 191, 0, 0, 838, 0, 0, 0, 0, 0, 0, 0, 0, 0, 0, 0, 0, 0, 0, 0, 0]), (9, [0, 0, 102, 0, 0, 105, 0, 0, 110, 0, 0, 118, 0, 0, 122, 0, 0, 126, 0, 128, 0, 374, 0, 129, 0, 374, 0, 130, 0, 374, 0]), (10, [0, 0, 102, 102, 0, 0, 105, 105, 0, 0, 110, 110, 0, 0, 118, 118, 0, 0, 122, 122, 0, 0, 126, 126, 0, 128, 0, 128, 474, 0, 129, 0, 129, 474, 0, 130, 0, 130, 474, 0, 131, 0, 131, 474, 0, 132, 0, 132, 474, 0]), (11, [0, 0, 0, 0, 110, 0, 0, 0, 0, 0]), (12, [0, 0, 620, 0, 0, 0, 0, 0, 0, 621, 0, 0, 0, 0, 0]), (13, [0, 0, 0, 0, 118, 0, 0, 0, 0, 0]), (14, [0, 0, 0, 0, 122, 0, 0, 0, 0, 0]), (15, [0, 126, 0, 436, 0]), (16, [0, 128, 0, 443, 0]), (17, [0, 129, 0, 0, 0, 0, 0, 443, 0]), (18, [0, 130, 0, 0, 0, 0, 0, 443, 0]), (19, [0, 131, 0, 0, 0, 0, 0, 443, 0]), (20, [0, 132, 0, 0, 0, 0, 0, 443, 0]), (21, [0, 129, 0, 0, 0, 0, 0, 0, 419, 0]), (22, [0, 130, 0, 0, 0, 0, 0, 0, 419, 0]), (23, [0, 131, 0, 118, 0, 0, 0, 0, 0, 419, 0]), (24, [0, 132, 0, 122, 0, 0, 0, 0, 0, 419, 0]), (25, [0, 128, 0, 110, 0, 419, 0, 0, 110, 0, 0, 110, 0]), (26, [0, 0, 253, 0]), (27, [0, 253, 0, 1014, 0]), (28, [0, 0, 0, 0, 251, 0, 0, 0, 251, 0, 0, 0, 0, 0, 251, 0, 0, 0, 1004, 0, 252, 0, 0, 1005, 0, 0, 253, 0, 0, 0, 0, 253, 0]), (29, [0, 0, 0, 0, 251, 0, 0, 0, 251, 0, 0, 0, 0, 0, 0, 251, 0, 0, 1004, 0]), (30, [0, 252, 0, 1023, 0]), (31, [0, 0, 193, 0, 0, 196, 0, 0, 198, 0, 200, 0, 485, 0, 0, 0, 0, 187, 119, 0, 0, 0, 0, 187, 0, 0, 486, 0, 187, 0, 0, 486, 490, 0, 0, 0, 187, 0, 0, 486, 495, 0, 0, 0]), (32, [0, 0, 193, 193, 0, 0, 196, 196, 0, 0, 198, 198, 0, 200, 0, 200, 693, 0, 201, 0, 201, 693, 0, 202, 0, 202, 693, 0, 203, 0, 203, 693, 0, 204, 0, 204, 693, 0]), (33, [0, 200, 0, 540, 0]), (34, [0, 0, 0, 0, 0, 0, 187, 113, 0, 0, 0, 0, 554, 558, 0, 0, 0, 0, 0, 0]), (35, [0, 200, 0, 540, 0, 541, 0]), (36, [0, 200, 0, 0, 0, 554, 0, 0, 0, 0, 494, 0]), (37, [0, 0, 0, 536, 0, 0, 187, 0, 0, 542, 0, 0, 187, 0, 0, 546, 0]), (38, [0, 0, 0, 0, 187, 0, 606, 607, 610, 0]), (39, [0, 201, 0, 540, 0]), (40, [0, 202, 0, 540, 0])]
theorem zKPo_0 : ∀ q ∈ zKP_0, zch (zy q.1).cls (zby q.1) (zcode q.1) q.2 = true := List.forall_mem_cons.mpr ⟨zk_J6_bitCount_0f7a4, List.forall_mem_cons.mpr ⟨zk_J9_abs_0f7a4, List.forall_mem_cons.mpr ⟨zk_J9_max_7cf53, List.forall_mem_cons.mpr ⟨zk_J9_min_7cf53, List.forall_mem_cons.mpr ⟨zk_J7_fill_53178, List.forall_mem_cons.mpr ⟨zk_X0_alike, List.forall_mem_cons.mpr ⟨zk_X0_bestShift, List.forall_mem_cons.mpr ⟨zk_X0_barsToTurn, List.forall_mem_cons.mpr ⟨zk_X1_clear, List.forall_mem_cons.mpr ⟨zk_X1_become, List.forall_mem_cons.mpr ⟨zk_X1_hasRoom, List.forall_mem_cons.mpr ⟨zk_X1_hasBar, List.forall_mem_cons.mpr ⟨zk_X1_hasPerson, List.forall_mem_cons.mpr ⟨zk_X1_hasWall, List.forall_mem_cons.mpr ⟨zk_X1_hasUnder, List.forall_mem_cons.mpr ⟨zk_X1_barsOf, List.forall_mem_cons.mpr ⟨zk_X1_paperOf, List.forall_mem_cons.mpr ⟨zk_X1_underOf, List.forall_mem_cons.mpr ⟨zk_X1_personPart, List.forall_mem_cons.mpr ⟨zk_X1_wallPart, List.forall_mem_cons.mpr ⟨zk_X1_putPaper, List.forall_mem_cons.mpr ⟨zk_X1_putUnder, List.forall_mem_cons.mpr ⟨zk_X1_putPerson, List.forall_mem_cons.mpr ⟨zk_X1_putWall, List.forall_mem_cons.mpr ⟨zk_X1_addRoom, List.forall_mem_cons.mpr ⟨zk_X2_forget, List.forall_mem_cons.mpr ⟨zk_X2_has, List.forall_mem_cons.mpr ⟨zk_X2_store, List.forall_mem_cons.mpr ⟨zk_X2_restore, List.forall_mem_cons.mpr ⟨zk_X2_chanceOf, List.forall_mem_cons.mpr ⟨zk_X3_begin, List.forall_mem_cons.mpr ⟨zk_X3_become, List.forall_mem_cons.mpr ⟨zk_X3_liftedIn, List.forall_mem_cons.mpr ⟨zk_X3_liftedInAll, List.forall_mem_cons.mpr ⟨zk_X3_isLifted, List.forall_mem_cons.mpr ⟨zk_X3_turn, List.forall_mem_cons.mpr ⟨zk_X3_reads, List.forall_mem_cons.mpr ⟨zk_X3_readsRound, List.forall_mem_cons.mpr ⟨zk_X3_roomOf, List.forall_mem_cons.mpr ⟨zk_X3_placeOf, fun _ h => absurd h List.not_mem_nil⟩⟩⟩⟩⟩⟩⟩⟩⟩⟩⟩⟩⟩⟩⟩⟩⟩⟩⟩⟩⟩⟩⟩⟩⟩⟩⟩⟩⟩⟩⟩⟩⟩⟩⟩⟩⟩⟩⟩⟩
def zKP_1 : List (Nat × List Nat) := [(41, [0, 203, 0, 540, 0]), (42, [0, 0, 0, 649, 0, 0, 650, 610, 0]), (43, [0, 201, 0, 540, 0, 0, 0, 202, 0, 540, 0, 0, 0, 0, 0, 0]), (44, [0, 201, 0, 0, 494, 0, 202, 0, 0, 494, 0]), (45, [0, 203, 0, 0, 494, 0]), (46, [0, 726, 0, 196, 0, 0, 527, 196, 0, 204, 0, 198, 0, 607, 0, 0, 0, 0, 0, 0, 0, 0, 0, 494, 0, 0, 198, 0, 0, 198, 0]), (47, [0, 0, 198, 527, 0]), (48, [0, 204, 0, 198, 0, 0, 0, 0, 0, 607, 540, 0, 0, 0, 0, 0, 0, 0, 0, 0, 0, 0, 0, 0, 0, 0, 0, 0, 0, 0, 0]), (49, [0, 0, 189, 109, 306, 0, 0, 0, 0, 306, 0, 0, 189, 0, 859, 0, 0, 0, 0, 0, 306, 0, 0, 0, 0, 0, 0, 0, 0, 0, 860, 0, 0, 304, 0, 0, 0, 0, 0, 0, 0, 0, 861, 0, 0, 0, 304, 0, 0, 0, 0, 861, 0, 0, 0, 0, 0, 0, 0, 306, 0, 0, 0, 0, 0, 0, 0, 0, 305, 0, 0, 0, 0, 0, 0, 0, 0, 862, 861, 0, 0, 0, 0, 0]), (50, [0, 305, 0, 0, 306, 0, 0, 0, 0, 0, 0, 0, 875, 0]), (51, [0, 0, 0, 0, 306, 0, 0, 0, 0, 0, 0, 0, 0, 0, 0, 306, 0, 0, 0, 0, 866, 0, 0, 0, 0, 0, 0, 0, 0, 0, 0, 0, 0, 0, 0, 0, 0, 0, 0, 0, 0, 0, 0, 0]), (52, [0, 0, 0, 0, 0, 0, 0, 0, 0, 0, 866, 871, 0]), (53, [0, 0, 0, 0, 0, 0, 0, 0, 306, 0, 0, 0, 870, 0, 0, 0, 0, 0, 0, 871, 0, 0, 0, 0, 0, 0, 0, 0, 0, 0, 0, 0]), (54, [0, 304, 0, 0, 0, 0, 0, 875, 0, 305, 0, 0, 0, 0, 0, 0, 0, 0, 0, 0, 0, 875, 0, 0]), (55, [0, 188, 0, 0, 0, 0, 0, 117, 0, 0, 0, 698, 0, 0, 0, 199, 0, 0, 0, 0, 0, 123, 0, 0, 0, 708, 0, 0, 0, 0, 194, 0, 0, 194, 0, 106, 0, 0, 194, 0, 106, 0, 0, 0, 0, 194, 0, 106, 0, 0, 0, 727, 0, 199, 0, 0, 0]), (56, [0, 0, 0, 0, 188, 123, 0, 0, 0, 0, 711, 0, 0, 0, 0, 719, 0, 0, 0, 0, 0, 0, 711, 0, 0, 0, 0, 719, 0, 0, 0, 0, 0, 0, 0]), (57, [0, 0, 701, 0, 0, 0, 702, 0, 0, 188, 0, 703, 0, 0, 0, 704, 0, 0, 0, 0, 0, 0, 0, 0, 0, 0, 705, 0, 0, 0, 0, 706, 0, 0, 0, 0, 0, 0, 0, 0, 707, 0]), (58, [0, 188, 117, 0, 0, 0, 0, 0, 0, 0, 0, 0, 711, 0, 0, 0, 0, 0, 0, 0, 0, 0, 0, 719, 0, 0, 0, 0, 0, 722, 0, 0, 0, 0, 0]), (59, [0, 0, 0, 188, 0, 0, 714, 0, 188, 0, 0, 714, 715, 0]), (60, [0, 0, 0, 188, 0, 0, 714, 0, 188, 0, 0, 714, 715, 0]), (61, [0, 188, 114, 0, 0, 0, 0, 0, 0, 0, 0, 0, 0, 0, 0, 188, 0, 703, 705, 0, 0, 0, 0, 730, 0, 0, 0, 0, 731, 0]), (62, [0, 234, 0]), (63, [0, 0, 234, 0]), (64, [0, 0, 235, 685, 0, 0, 0, 0, 0, 0, 689, 0, 0, 235, 0, 0, 0, 0, 235, 0, 0, 0, 234, 0, 0, 694, 234, 0]), (65, [0, 235, 0, 0, 0, 0, 0, 0, 0, 0, 0, 685, 0, 0, 0, 0, 0, 0, 689, 0, 0, 235, 0, 0, 234, 0, 0, 234, 0]), (66, [0, 0, 0, 0, 233, 0, 0, 0, 233, 0, 0, 0, 0, 0]), (67, [0, 159, 0]), (68, [0, 163, 0]), (69, [0, 157, 0]), (70, [0, 159, 0, 0, 0, 0, 0, 158, 0, 159, 0, 354, 0, 0, 159, 0, 0, 159, 0, 0]), (71, [0, 157, 370, 0, 0, 160, 0, 0, 162, 0, 0, 163, 0, 377, 0, 0, 0, 0, 0, 0, 162, 0, 0, 160, 0, 159, 0, 0, 385, 0, 377, 0, 0, 0, 0, 159, 0, 162, 0]), (72, [0, 381, 0, 0, 157, 104, 0, 0, 0, 0, 0, 0, 0, 160, 389, 0, 0, 0, 0, 393, 0, 0, 411, 0, 0, 428, 0, 0, 450, 0, 0, 458, 0, 0, 0, 0, 160, 389, 0]), (73, [0, 157, 104, 0, 0, 0, 0, 160, 389, 0, 0, 160, 0, 0, 160, 0, 157, 0, 104, 0, 157, 0, 0, 397, 108, 0, 0, 407, 0]), (74, [0, 157, 116, 0, 0, 0, 0, 0, 160, 389, 0, 0, 160, 0, 0, 160, 0, 0, 0, 157, 0, 157, 116, 0, 0, 0, 397, 415, 0, 0, 0, 0, 0, 0, 420, 0, 0, 0, 407, 0, 157, 0, 424, 0]), (75, [0, 0, 160, 0, 0, 160, 0, 0, 157, 116, 0, 0, 397, 0, 0, 157, 0, 432, 0, 0, 0, 0, 161, 389, 0, 157, 0, 439, 0, 0, 0, 0, 0, 0, 0, 0, 0, 0, 407, 0, 157, 0, 0, 0, 0, 397, 446, 0, 0, 0, 0, 407, 0, 157, 0, 127, 0, 0, 0, 0, 127, 0]), (76, [0, 157, 121, 0, 0, 0, 0, 0, 160, 389, 0, 0, 160, 0, 0, 160, 0, 0, 157, 116, 0, 0, 397, 0, 0, 157, 0, 0, 454, 0, 157, 0, 0, 0, 157, 0, 439, 0, 0, 397, 454, 0, 157, 0, 0, 0, 397, 454, 0, 0, 407, 0, 157, 0, 121, 0, 0, 121, 0]), (77, [0, 157, 125, 0, 0, 0, 0, 0, 160, 389, 0, 0, 160, 0, 0, 160, 0, 0, 157, 116, 0, 0, 397, 0, 0, 157, 0, 0, 462, 0, 157, 0, 0, 0, 157, 0, 439, 0, 0, 397, 462, 0, 0, 157, 116, 0, 0, 397, 0, 0, 0, 0, 0, 0, 0, 161, 389, 0, 157, 0, 0, 462, 0, 157, 0, 0, 0, 157, 0, 439, 0, 0, 397, 462, 0, 0, 407, 0, 157, 0, 125, 0, 0, 125, 0]), (78, [0, 377, 0, 0, 160, 161, 0, 0, 0, 160, 0, 159, 0, 0, 381, 401, 0, 0, 0, 0, 0, 0, 381, 0, 0, 0, 404, 0, 0, 0, 160, 0, 0, 160, 0, 0, 160, 0, 161, 0, 0, 0, 0, 161, 389, 0, 0, 160, 0, 161, 0, 0, 0, 0, 0, 0, 0, 0, 0, 161, 389, 0, 0]), (79, [0, 377, 0, 381, 0, 0, 0, 0, 160, 0, 0, 160, 0, 0, 0, 0, 160, 389, 0]), (80, [0, 377, 0, 381, 0, 0, 0, 0, 0, 0, 160, 0, 0, 160, 0, 0])]
theorem zKPo_1 : ∀ q ∈ zKP_1, zch (zy q.1).cls (zby q.1) (zcode q.1) q.2 = true := List.forall_mem_cons.mpr ⟨zk_X3_paceOf, List.forall_mem_cons.mpr ⟨zk_X3_readBy, List.forall_mem_cons.mpr ⟨zk_X3_isAt, List.forall_mem_cons.mpr ⟨zk_X3_setPlace, List.forall_mem_cons.mpr ⟨zk_X3_setPace, List.forall_mem_cons.mpr ⟨zk_X3_addMeeting, List.forall_mem_cons.mpr ⟨zk_X3_loggedNow, List.forall_mem_cons.mpr ⟨zk_X3_meeting, List.forall_mem_cons.mpr ⟨zk_X4_reckon, List.forall_mem_cons.mpr ⟨zk_X4_fewestBars, List.forall_mem_cons.mpr ⟨zk_X4_leastNumber, List.forall_mem_cons.mpr ⟨zk_X4_barsBehind, List.forall_mem_cons.mpr ⟨zk_X4_firstBest, List.forall_mem_cons.mpr ⟨zk_X4_barsWith, List.forall_mem_cons.mpr ⟨zk_X5_anHour, List.forall_mem_cons.mpr ⟨zk_X5_areAtOneWall, List.forall_mem_cons.mpr ⟨zk_X5_goOn, List.forall_mem_cons.mpr ⟨zk_X5_meetThrough, List.forall_mem_cons.mpr ⟨zk_X5_isAtA, List.forall_mem_cons.mpr ⟨zk_X5_isAtB, List.forall_mem_cons.mpr ⟨zk_X5_dampLifts, List.forall_mem_cons.mpr ⟨zk_X6_size, List.forall_mem_cons.mpr ⟨zk_X6_forget, List.forall_mem_cons.mpr ⟨zk_X6_add, List.forall_mem_cons.mpr ⟨zk_X6_takeBack, List.forall_mem_cons.mpr ⟨zk_X6_kept, List.forall_mem_cons.mpr ⟨zk_X7_letters, List.forall_mem_cons.mpr ⟨zk_X7_place, List.forall_mem_cons.mpr ⟨zk_X7_draft, List.forall_mem_cons.mpr ⟨zk_X7_add, List.forall_mem_cons.mpr ⟨zk_X7_read, List.forall_mem_cons.mpr ⟨zk_X7_readClause, List.forall_mem_cons.mpr ⟨zk_X7_readDamp, List.forall_mem_cons.mpr ⟨zk_X7_readRoom, List.forall_mem_cons.mpr ⟨zk_X7_readUnder, List.forall_mem_cons.mpr ⟨zk_X7_readPerson, List.forall_mem_cons.mpr ⟨zk_X7_readWall, List.forall_mem_cons.mpr ⟨zk_X7_readNumber, List.forall_mem_cons.mpr ⟨zk_X7_expect, List.forall_mem_cons.mpr ⟨zk_X7_accept, fun _ h => absurd h List.not_mem_nil⟩⟩⟩⟩⟩⟩⟩⟩⟩⟩⟩⟩⟩⟩⟩⟩⟩⟩⟩⟩⟩⟩⟩⟩⟩⟩⟩⟩⟩⟩⟩⟩⟩⟩⟩⟩⟩⟩⟩⟩
def zKP_2 : List (Nat × List Nat) := [(81, [0, 160, 0, 159, 0, 0, 381, 0, 0, 0, 0, 160, 0, 0, 160, 0, 0]), (82, [0, 160, 0, 0, 160, 0, 159, 0, 0, 160, 0, 158, 0, 0, 0, 158, 0, 160, 0, 0, 0, 0]), (83, [0, 0, 0, 0, 0, 0, 0, 0, 0, 0]), (84, [0, 162, 0, 0, 0, 0, 162, 0, 0, 163, 0]), (85, [0, 0, 0, 190, 0, 531, 0, 0, 0, 0, 0, 0, 0, 0, 0, 0, 532, 0, 0, 0, 0, 0, 0, 0, 0]), (86, [0, 190, 0, 531, 0, 0, 0, 0, 0, 0, 0, 0, 0, 599, 0, 0, 0, 0, 0, 0, 0]), (87, [0, 190, 0, 531, 0, 0, 0, 0, 0, 0, 0, 0, 0, 532, 0, 0, 0, 0, 0, 602, 0, 0, 0, 0, 0, 0, 0]), (88, [0, 0, 0, 0, 0, 0, 190, 112, 0, 0, 0, 0, 190, 0, 531, 0, 0, 532, 0, 0, 0, 532, 0, 0, 0, 0, 0, 0, 0, 0, 0, 0, 0]), (89, [0, 0, 0, 0, 0, 0, 0, 0, 0, 0, 0, 567, 0, 0, 0, 0, 0, 0, 0, 0, 0, 0, 0, 0]), (90, [0, 0, 0, 0, 0, 0, 190, 112, 0, 0, 190, 0, 531, 0, 0, 0, 0, 0, 0, 0, 0, 0, 532, 0, 0, 0, 0, 0, 0, 0, 0, 0]), (91, [0, 190, 0, 531, 0, 0, 0, 0, 0, 0, 0, 0, 0, 532, 0, 0, 0, 0, 0, 0, 0, 0]), (92, [0, 190, 0, 531, 0, 0, 0, 190, 0, 531, 847, 0, 0, 0, 0, 0, 0, 0, 848, 0, 0, 0, 0, 0, 0, 0]), (93, [0, 190, 0, 531, 0, 0, 0, 0, 0, 0, 0, 0, 0, 0, 0, 0, 0, 532, 0, 0, 0, 532, 0, 0, 0, 0, 0, 0, 0]), (94, [0, 0, 891, 0, 0, 0, 0, 0, 0, 0, 0, 0, 190, 112, 0, 0, 0, 0, 891, 892, 0, 0, 0, 0, 0, 0, 0, 0, 0, 0, 0, 0, 0, 0, 0]), (95, [0, 0, 0, 895, 0, 0, 0, 0, 0, 847, 0]), (96, [0, 0, 0, 0, 0, 0, 0, 0, 0, 0, 0, 905, 0, 0, 0, 0, 0, 906, 0, 0, 0, 0, 0]), (97, [0, 0, 0, 0, 0, 0, 190, 112, 0, 0, 0, 905, 0, 0, 0, 0, 891, 0, 0, 0, 0, 0, 190, 112, 0, 0, 0, 0, 891, 892, 0, 0, 0, 0, 0, 0, 0, 0, 0, 0, 0, 0, 0, 0]), (98, [0, 0, 0, 0, 0, 0, 0, 0, 0, 0, 0, 0]), (99, [0, 0, 0, 0, 0, 0, 0, 0, 0, 0, 0]), (100, [0, 0, 0, 0, 0, 0, 0, 0, 477, 478, 0]), (101, [0, 0, 0, 0, 0, 0, 0, 0]), (102, [0, 0, 0, 0, 0, 0, 0, 0, 0, 0, 0, 0, 0, 0, 0, 0]), (103, [0, 274, 0]), (104, [0, 275, 0]), (105, [0, 0, 274, 0, 0, 275, 0]), (106, [0, 274, 0, 0, 0, 0, 0, 267, 0, 274, 0, 927, 0, 268, 0, 274, 0, 927, 0, 0, 274, 0, 0, 274, 0, 0]), (107, [0, 275, 0, 0, 0, 0, 0, 269, 0, 275, 0, 927, 0, 270, 0, 275, 0, 927, 0, 271, 0, 275, 0, 927, 0, 0, 275, 0, 0, 275, 0, 0]), (108, [0, 0, 0, 0, 275, 0, 0, 0, 269, 0, 941, 0, 270, 0, 941, 987, 0, 0, 0, 271, 0, 941, 0, 0, 0, 0, 0, 0, 0]), (109, [0, 0, 276, 0, 0, 0, 0, 192, 115, 0, 0, 192, 0, 936, 0, 0, 0, 0, 0, 0, 0, 0, 0, 0, 937, 0, 0, 0, 272, 0, 276, 0, 0, 0, 0, 0, 927, 0, 0, 276, 0, 0, 276, 0, 0, 0, 0, 0]), (110, [0, 276, 0]), (111, [0, 276, 0, 0, 0, 0, 272, 0, 941, 0]), (112, [0, 0, 0, 0, 0, 0, 276, 0, 0, 0, 0, 272, 0, 941, 0, 0, 0, 0, 0, 0, 0, 0, 0]), (113, [0, 0, 0, 276, 0, 0, 0, 0, 0, 0, 0, 0, 0, 963, 0, 0, 0, 0, 0, 0, 0, 0, 0, 0, 0, 0]), (114, [0, 0, 0, 0, 274, 0, 0, 0, 0, 0, 267, 0, 941, 0, 942, 0, 268, 0, 941, 0, 0, 0, 0, 0, 0, 0]), (115, [0, 273, 0, 967, 0, 0, 0, 0, 0, 0, 276, 0, 0, 272, 0, 941, 0, 0, 0, 0, 0, 0, 0, 0, 0, 0, 942, 0, 0, 273, 0, 941, 0, 0, 0, 0, 273, 0, 0, 927, 0, 0, 968, 0, 0, 0, 0, 0]), (116, [0, 0, 346, 0, 349, 0, 0, 314, 0, 350, 0, 0, 314, 357, 0, 361, 0]), (117, [0, 314, 366, 0, 0, 0, 0, 0, 0, 0, 0, 315, 0, 314, 466, 470, 0, 316, 481, 0, 318, 499, 0, 319, 503, 0, 320, 507, 0, 315, 111, 0]), (118, [0, 314, 515, 0]), (119, [0, 0, 0, 315, 103, 0, 0, 315, 107, 0, 0, 0, 0, 315, 111, 0, 0, 315, 120, 0, 0, 315, 124, 0, 0, 314, 357, 0, 0, 316, 195, 0, 0, 316, 197, 0, 0, 316, 523, 0, 0, 316, 528, 0, 0, 316, 550, 0, 0, 316, 564, 0, 0, 320, 570, 0, 0, 320, 574, 0, 0, 318, 578, 0, 349, 0]), (120, [0, 315, 0, 586, 0, 590, 0, 0, 0, 0, 315, 0, 591, 0, 0, 316, 0, 592, 0, 0, 316, 0, 593, 0, 0, 316, 0, 596, 0, 0, 315, 0, 611, 0, 0, 0, 0, 0, 349, 0])]
theorem zKPo_2 : ∀ q ∈ zKP_2, zch (zy q.1).cls (zby q.1) (zcode q.1) q.2 = true := List.forall_mem_cons.mpr ⟨zk_X7_skipBlanks, List.forall_mem_cons.mpr ⟨zk_X7_letter, List.forall_mem_cons.mpr ⟨zk_X7_isFigure, List.forall_mem_cons.mpr ⟨zk_X7_fail, List.forall_mem_cons.mpr ⟨zk_X8_keyOf, List.forall_mem_cons.mpr ⟨zk_X8_repeatOf, List.forall_mem_cons.mpr ⟨zk_X8_repeatsBy, List.forall_mem_cons.mpr ⟨zk_X8_openRooms, List.forall_mem_cons.mpr ⟨zk_X8_mostRead, List.forall_mem_cons.mpr ⟨zk_X8_howManyRead, List.forall_mem_cons.mpr ⟨zk_X8_firstThatReads, List.forall_mem_cons.mpr ⟨zk_X8_sharedEnd, List.forall_mem_cons.mpr ⟨zk_X8_endsAsBegins, List.forall_mem_cons.mpr ⟨zk_X8_nearestRoom, List.forall_mem_cons.mpr ⟨zk_X8_between, List.forall_mem_cons.mpr ⟨zk_X8_stepsBetween, List.forall_mem_cons.mpr ⟨zk_X8_oneStepOn, List.forall_mem_cons.mpr ⟨zk_X9_at, List.forall_mem_cons.mpr ⟨zk_X9_put, List.forall_mem_cons.mpr ⟨zk_X9_copy, List.forall_mem_cons.mpr ⟨zk_X9_leftOver, List.forall_mem_cons.mpr ⟨zk_X9_isIn, List.forall_mem_cons.mpr ⟨zk_X10_seen, List.forall_mem_cons.mpr ⟨zk_X10_entries, List.forall_mem_cons.mpr ⟨zk_X10_forget, List.forall_mem_cons.mpr ⟨zk_X10_addSeen, List.forall_mem_cons.mpr ⟨zk_X10_addEntry, List.forall_mem_cons.mpr ⟨zk_X10_firstWrong, List.forall_mem_cons.mpr ⟨zk_X10_findPlaces, List.forall_mem_cons.mpr ⟨zk_X10_found, List.forall_mem_cons.mpr ⟨zk_X10_firstFound, List.forall_mem_cons.mpr ⟨zk_X10_roomsFound, List.forall_mem_cons.mpr ⟨zk_X10_bestLook, List.forall_mem_cons.mpr ⟨zk_X10_fits, List.forall_mem_cons.mpr ⟨zk_X10_greatestPart, List.forall_mem_cons.mpr ⟨zk_X11_feed, List.forall_mem_cons.mpr ⟨zk_X11_house, List.forall_mem_cons.mpr ⟨zk_X11_fault, List.forall_mem_cons.mpr ⟨zk_X11_told, List.forall_mem_cons.mpr ⟨zk_X11_room, fun _ h => absurd h List.not_mem_nil⟩⟩⟩⟩⟩⟩⟩⟩⟩⟩⟩⟩⟩⟩⟩⟩⟩⟩⟩⟩⟩⟩⟩⟩⟩⟩⟩⟩⟩⟩⟩⟩⟩⟩⟩⟩⟩⟩⟩⟩
def zKP_3 : List (Nat × List Nat) := [(121, [0, 315, 0, 0, 616, 0, 590, 0, 0, 0, 0, 315, 0, 0, 622, 0, 0, 315, 0, 0, 623, 0, 0, 316, 0, 0, 624, 0, 349, 0]), (122, [0, 315, 0, 629, 0, 590, 0, 0, 0, 0, 316, 0, 633, 0, 0, 316, 0, 637, 0, 0, 316, 0, 641, 0, 0, 316, 0, 645, 0, 349, 0]), (123, [0, 315, 0, 655, 0, 590, 0, 0, 0, 346, 0, 349, 0, 0, 315, 0, 0, 659, 0]), (124, [0, 0, 346, 0, 349, 0, 0, 0, 316, 523, 0, 0, 346, 0, 0, 0, 0, 316, 0, 0, 667, 0]), (125, [0, 0, 675, 0, 0, 0, 0, 0, 0, 0, 0, 0, 0, 0, 318, 0, 316, 681, 0, 316, 695, 0, 0, 0, 0, 316, 197, 0]), (126, [0, 0, 0, 0, 739, 0]), (127, [0, 0, 0, 0, 739, 0]), (128, [0, 315, 0, 629, 0, 0, 315, 0, 586, 0, 590, 0, 0, 316, 0, 633, 0, 0, 0, 0, 0, 316, 0, 0, 316, 0, 645, 753, 0, 0, 0, 0, 679, 0, 0, 318, 0, 316, 681, 0, 316, 0, 0, 0, 756, 0, 0]), (129, [0, 315, 0, 629, 0, 590, 0, 0, 0, 346, 0, 349, 0, 0, 316, 0, 641, 0, 0, 318, 0, 316, 681, 0, 316, 0, 0, 761, 0, 0]), (130, [0, 0, 675, 0, 0, 0, 0, 0, 0, 0, 0, 0, 0, 0, 318, 0, 316, 681, 0, 766, 0, 316, 695, 0, 0, 0, 0, 316, 197, 0]), (131, [0, 0, 0, 0, 0, 0, 349, 0, 0, 0, 318, 578, 0, 679, 0, 0, 318, 0, 0, 316, 783, 0, 316, 195, 0]), (132, [0, 315, 0, 629, 0, 590, 0, 0, 0, 346, 0, 349, 0, 0, 0, 791, 0, 0, 317, 0, 637, 0]), (133, [0, 0, 346, 0, 349, 0, 0, 0, 791, 0]), (134, [0, 315, 0, 629, 0, 0, 315, 0, 629, 0, 0, 0, 0, 590, 0, 0, 317, 0, 316, 795, 0, 0, 0, 0, 0, 0, 317, 695, 0, 0, 317, 0, 0, 804, 0, 0, 0, 0, 0, 0, 0]), (135, [0, 0, 0, 811, 0, 590, 0, 0, 0, 346, 0, 349, 0, 0, 316, 0, 0, 0, 815, 0]), (136, [0, 0, 0, 811, 0, 590, 0, 0, 0, 346, 0, 349, 0, 0, 316, 0, 0, 825, 0, 0, 0, 0, 0, 0, 316, 0, 0, 0, 815, 0]), (137, [0, 0, 0, 811, 0, 590, 0, 0, 0, 346, 0, 0, 0, 346, 0, 349, 0, 0, 316, 0, 0, 0, 833, 0, 0, 0, 0, 0, 0, 0, 0, 0, 0, 839, 0]), (138, [0, 0, 0, 811, 0, 590, 0, 0, 316, 0, 0, 844, 0]), (139, [0, 0, 346, 0, 349, 0, 0, 315, 111, 0, 0, 0, 0, 321, 0, 316, 855, 0, 0, 0, 321, 876, 0, 0, 321, 880, 0]), (140, [0, 315, 0, 586, 0, 590, 0, 0, 316, 0, 888, 0]), (141, [0, 315, 0, 586, 0, 0, 315, 0, 586, 0, 590, 0, 0, 316, 0, 0, 902, 0]), (142, [0, 0, 346, 0, 349, 0, 0, 0, 0, 0, 0, 0, 315, 120, 0, 0, 316, 0, 645, 0, 0, 0, 0, 0, 0, 0, 0, 0, 0, 0, 0]), (143, [0, 0, 346, 0, 0, 0, 346, 0, 349, 0, 917, 0, 0, 0, 0, 0, 0, 0, 0, 0, 0, 918, 0, 0, 0, 0, 0, 0, 0]), (144, [0, 0, 346, 0, 0, 0, 346, 0, 349, 0, 0, 320, 0, 0, 923, 0, 0, 320, 570, 0, 361, 0]), (145, [0, 0, 346, 0, 349, 0, 0, 320, 0, 316, 932, 0, 0, 0, 320, 943, 0, 0, 0, 0, 0, 320, 947, 0, 0, 320, 951, 0]), (146, [0, 320, 0, 316, 932, 0, 320, 0, 316, 959, 0]), (147, [0, 315, 0, 0, 616, 0, 590, 0, 0, 0, 346, 0, 349, 0, 0, 320, 0, 0, 0, 975, 0, 0, 320, 574, 0, 361, 0]), (148, [0, 320, 0, 316, 983, 0]), (149, [0, 320, 570, 0, 320, 574, 0, 0, 0, 320, 507, 0, 0]), (150, [0, 0, 349, 0, 0, 322, 0, 0, 0, 322, 0, 0]), (151, [0, 0, 346, 0, 590, 0, 0, 319, 0, 0, 316, 0, 322, 1000, 0, 318, 499, 0, 0]), (152, [0, 0, 346, 0, 590, 0, 0, 319, 0, 1010, 0, 679, 0, 0, 319, 0, 0, 316, 1015, 0, 0, 319, 0, 1019, 322, 0, 318, 499, 0, 0]), (153, [0, 0, 0, 0, 0, 0, 0, 0, 0]), (154, [0, 315, 0, 586, 0, 0, 315, 0, 586, 0, 0, 0, 0, 0, 0, 0, 0]), (155, [0, 0, 0, 0, 0, 0, 349, 0, 0, 315, 103, 0, 679, 0, 0, 316, 195, 680, 0, 361, 0, 0, 0]), (156, [0, 315, 0, 0, 616, 0, 590, 0, 0, 316, 0, 0, 743, 0, 0, 679, 0, 0, 318, 0, 316, 681, 0, 316, 0, 0, 744, 0, 316, 0, 0, 624, 0]), (157, [0, 317, 0, 316, 795, 0, 0, 0, 0, 0, 0, 0, 0, 0, 317, 695, 0, 0, 0, 0, 0, 0]), (158, [0, 0, 322, 0, 774, 0, 775, 0, 776, 0, 0, 322, 0, 322, 777, 0, 0, 778, 0]), (159, [0, 315, 111, 0, 0, 0, 0, 770, 0, 0, 0, 0, 0, 315, 111, 770, 0, 0, 316, 0, 0, 0, 315, 0, 591, 770, 744, 0, 0, 0, 0, 0, 315, 120, 0, 0, 0, 315, 120, 770, 0, 0, 316, 0, 0, 0, 770, 761, 0]), (160, [0, 0, 0, 0, 0, 0, 0, 0, 0, 0, 0, 0])]
theorem zKPo_3 : ∀ q ∈ zKP_3, zch (zy q.1).cls (zby q.1) (zcode q.1) q.2 = true := List.forall_mem_cons.mpr ⟨zk_X11_bar, List.forall_mem_cons.mpr ⟨zk_X11_person, List.forall_mem_cons.mpr ⟨zk_X11_wall, List.forall_mem_cons.mpr ⟨zk_X11_logged, List.forall_mem_cons.mpr ⟨zk_X11_hour, List.forall_mem_cons.mpr ⟨zk_X11_lift, List.forall_mem_cons.mpr ⟨zk_X11_paste, List.forall_mem_cons.mpr ⟨zk_X11_moveTo, List.forall_mem_cons.mpr ⟨zk_X11_pace, List.forall_mem_cons.mpr ⟨zk_X11_drift, List.forall_mem_cons.mpr ⟨zk_X11_undo, List.forall_mem_cons.mpr ⟨zk_X11_where, List.forall_mem_cons.mpr ⟨zk_X11_meets, List.forall_mem_cons.mpr ⟨zk_X11_together, List.forall_mem_cons.mpr ⟨zk_X11_canon, List.forall_mem_cons.mpr ⟨zk_X11_bestCanon, List.forall_mem_cons.mpr ⟨zk_X11_match, List.forall_mem_cons.mpr ⟨zk_X11_join, List.forall_mem_cons.mpr ⟨zk_X11_shortest, List.forall_mem_cons.mpr ⟨zk_X11_nearest, List.forall_mem_cons.mpr ⟨zk_X11_modulation, List.forall_mem_cons.mpr ⟨zk_X11_sounds, List.forall_mem_cons.mpr ⟨zk_X11_dry, List.forall_mem_cons.mpr ⟨zk_X11_see, List.forall_mem_cons.mpr ⟨zk_X11_places, List.forall_mem_cons.mpr ⟨zk_X11_lookAt, List.forall_mem_cons.mpr ⟨zk_X11_write, List.forall_mem_cons.mpr ⟨zk_X11_judge, List.forall_mem_cons.mpr ⟨zk_X11_tear, List.forall_mem_cons.mpr ⟨zk_X11_seed, List.forall_mem_cons.mpr ⟨zk_X11_keep, List.forall_mem_cons.mpr ⟨zk_X11_goBack, List.forall_mem_cons.mpr ⟨zk_X11_beyond, List.forall_mem_cons.mpr ⟨zk_X11_areTwoRooms, List.forall_mem_cons.mpr ⟨zk_X11_refusalOfHours, List.forall_mem_cons.mpr ⟨zk_X11_turnByHand, List.forall_mem_cons.mpr ⟨zk_X11_meetingsTried, List.forall_mem_cons.mpr ⟨zk_X11_draw, List.forall_mem_cons.mpr ⟨zk_X11_deedByDraws, List.forall_mem_cons.mpr ⟨zk_X12_in, fun _ h => absurd h List.not_mem_nil⟩⟩⟩⟩⟩⟩⟩⟩⟩⟩⟩⟩⟩⟩⟩⟩⟩⟩⟩⟩⟩⟩⟩⟩⟩⟩⟩⟩⟩⟩⟩⟩⟩⟩⟩⟩⟩⟩⟩⟩
def zKP_4 : List (Nat × List Nat) := [(161, [0, 0, 0, 0, 0, 0, 0, 0, 0, 0, 0]), (162, [0, 0, 0, 0, 0, 0, 0, 0, 0, 0, 0, 0, 0, 0, 0, 0]), (163, [0, 0, 0, 0, 0, 0, 0]), (164, [0, 0, 0, 0, 0, 0, 0, 0, 0, 0, 0, 0, 0, 0, 0, 0, 0, 0]), (165, [0, 0, 0, 0, 0, 0, 1032, 0, 0, 0, 0, 0, 0, 1030, 0, 0, 1032, 0, 0, 1173, 0, 1030, 0, 0, 1032, 0, 0, 1173, 0, 1030, 0, 0, 1032, 0, 0, 1173, 0, 0, 1035, 0, 0, 1043, 0, 0, 1045, 0, 1037, 0, 0, 0, 0, 1037, 0, 0, 0, 0]), (166, [0, 0, 0, 1117, 1118, 0, 1121, 0, 0, 1040, 0, 0, 1122, 0, 0, 1039, 0, 1040, 0, 0, 0, 0, 1040, 0, 0, 1040, 0, 1040, 0]), (167, [0, 1046, 0, 1040, 0, 0, 1039, 0, 1046, 0, 0, 0, 0]), (168, [0, 1131, 0, 0, 0, 0, 1046, 0, 0, 1046, 0, 0, 0, 1046, 1047, 0, 0, 1131, 1048, 0, 0, 1049, 0, 0, 1050, 0, 1048, 0, 1135, 1136, 1118, 0, 0, 0, 1046, 0, 1048, 0, 0, 0, 0, 0, 1046, 0, 0, 0, 1048, 0, 1131, 0, 1135, 1136, 1118, 0, 0, 0, 1049, 0, 0, 0, 0, 1050, 0, 0, 1131, 0, 0, 0, 0, 0, 1050, 1050, 0, 0, 1049, 0, 0, 1049, 0, 0, 1046, 0, 0, 1046, 0, 0]), (169, [0, 0, 1051, 0, 0]), (170, [0, 1127, 0, 1048, 0, 0, 0, 0, 1145, 0, 0, 1049, 0, 0, 0, 1050, 0, 0, 0, 0, 0, 1118, 0, 0, 0, 1145, 0, 0, 1031, 0, 0, 1050, 0, 0, 0]), (171, [0, 1127, 0, 1048, 0, 0, 0, 0, 1145, 0, 0, 0, 0, 0]), (172, [0, 0, 0, 0, 0, 0, 0, 0, 0, 0, 0, 0, 1141, 0, 0, 0, 0, 0, 1127, 0, 1048, 0, 0, 0, 0, 0, 0, 0, 0, 0, 0, 0, 0, 0, 1145, 0, 0, 0, 1052, 0, 1048, 0, 0, 0, 0, 0, 0, 0, 1145, 0, 0, 0, 0, 0]), (173, [0, 1031, 0, 0, 0, 0, 0, 0, 0, 0, 1145, 0, 0, 0, 0, 0, 0, 0, 0, 0, 1157, 0, 0, 0, 0, 1031, 0, 0, 0, 0, 1052, 0, 0, 1031, 0, 0, 0, 0, 0, 0, 0, 0]), (174, [0, 0, 0, 0, 1031, 0, 0, 0, 0, 1141, 0, 0, 0, 0, 1050, 0, 0, 1031, 0, 0, 0, 0, 0, 0, 0, 0, 1145, 0, 0, 1031, 0, 0, 0, 0, 0, 0, 0, 0, 0, 0, 0, 0, 1031, 0, 0, 0, 0, 0, 1031, 0, 0, 0, 0, 1157, 0]), (175, [0, 1031, 0, 0, 0, 0, 0, 0, 0, 0, 1145, 0, 0, 0, 0, 0, 0, 0, 1031, 0, 0, 0, 0, 1141, 0, 0, 0, 0, 0, 0, 0, 1031, 0, 0, 1031, 0, 0, 0, 0, 0, 0, 0, 0, 1141, 0, 0, 0, 0, 1031, 0, 0, 0, 0, 0, 0, 0, 0, 0, 0, 0, 0, 1141, 0, 0, 1149, 0, 0, 0, 0, 0]), (176, [0, 1031, 0, 0, 0, 0, 0, 0, 0, 0, 1145, 0, 0, 0, 0, 0, 0, 0, 1031, 0, 0, 0, 0, 1141, 0, 0, 0, 0, 0, 0, 0, 1031, 0, 0, 1031, 0, 0, 0, 0, 0, 0, 0, 0, 1141, 0, 0, 0, 0, 0, 0, 0, 1031, 0, 0, 0, 0, 1141, 0, 0, 0, 0, 1031, 0, 0, 0, 0, 0, 1031, 0, 0, 0, 0, 0, 0, 0, 1145, 0, 0, 1031, 0, 0, 0, 0, 0, 0, 0, 0, 0, 0, 0, 0, 1031, 0, 0, 1031, 0, 0, 0, 0, 0, 0, 0, 0, 1141, 0, 0, 1149, 0, 0, 0, 0, 0]), (177, [0, 1048, 0, 0, 0, 0, 0, 0, 0, 0, 1141, 0, 0, 1149, 0, 0, 0, 0, 0, 0, 0, 1145, 0, 0, 0, 0, 0, 1145, 0, 0, 1048, 0, 0, 1153, 0, 0, 1161, 0, 0, 1165, 0, 0, 1169, 0, 0, 0, 1145, 0]), (178, [0, 0, 0, 0, 0, 0, 1031, 0, 0, 0, 0, 0, 0, 0, 1046, 0, 0, 1041, 0, 0, 0, 0, 0, 1127, 0, 1048, 0, 0, 0, 0, 0, 0, 0, 0, 0, 1137, 0, 0, 0, 0, 0, 1127, 0, 0, 0, 1040, 0, 0, 0, 0, 1047, 1041, 0, 0, 1051, 0, 0, 0, 1031, 0, 0, 0, 0, 0, 0, 0, 0, 1031, 0, 0, 1030, 0, 0, 1173, 0, 1176, 0, 1030, 0, 0, 0]), (179, [0, 1041, 0]), (180, [0, 0, 0, 0, 1030, 0, 0, 0, 0, 0, 1118, 0]), (181, [0, 0, 1222, 0, 0, 0, 0, 0, 1030, 0, 0, 0, 0, 0, 0, 0, 1118, 0, 0, 0, 0, 0]), (182, [0, 0, 0, 0, 1030, 0, 0, 0, 0, 0, 1118, 0]), (183, [0, 0, 1222, 0, 0, 0, 1222, 0, 0, 0, 0, 0, 0, 0, 0]), (184, [0, 1030, 0, 0, 0, 0, 0, 0, 0, 0, 0, 0, 0, 0, 0]), (185, [0, 0, 0, 0, 0, 0, 0, 0, 0, 1200, 1203, 0]), (186, [0, 0, 1032, 0, 0, 1196, 0]), (187, [0, 0, 0, 0, 0, 0, 1030, 0, 0, 0, 0, 0, 0, 0, 1030, 0, 0, 0, 0, 0, 0, 1192, 0, 0, 0, 1192, 0, 0, 0, 0, 0, 0, 0, 0, 0, 0, 0, 0]), (188, [0, 0, 0, 0, 0, 0, 0, 0, 0, 1032, 0, 0, 0, 0, 1211, 0, 0, 0, 0, 0, 0]), (189, [0, 0, 0, 0, 0, 0, 1053, 0, 0, 0, 0, 0, 0, 0, 0, 0, 1030, 0, 0, 0, 0, 0, 0, 0, 1030, 0, 0, 0, 0, 0, 0, 1053, 0, 0, 0, 1192, 0, 0, 0, 0, 0, 0, 0, 0, 0, 0, 0, 0, 0, 0, 0, 0, 0, 1053, 0, 0, 0, 0, 0, 0, 0, 1053, 0, 0, 0, 1053, 0, 0, 0, 0, 0, 0, 0, 0, 0, 0, 0]), (190, [0, 0, 0, 0, 0, 0, 1030, 0, 0, 0, 0, 0, 0, 0, 0, 0, 1192, 0, 0, 0, 0, 0, 0, 0, 0]), (191, [0, 1030, 0, 0, 0, 0, 0, 0, 0, 0, 0, 0, 0, 0, 0, 0, 0, 0, 0, 0, 0, 0, 0, 0, 1192, 0, 0, 0, 0, 0, 0, 0, 1192, 0, 0, 0, 0, 0, 0, 0, 0, 0, 0, 0, 0, 0, 0, 0]), (192, [0, 0, 0, 1030, 0, 0, 0, 0, 0, 0, 1030, 0, 0, 0, 0, 1030, 0, 0, 0, 0, 1040, 0, 0, 1032, 0, 0, 0, 0, 1032, 0, 0, 0, 0, 1032, 0, 0, 0, 0, 1188, 0, 0, 1207, 0, 0, 1214, 0, 0, 1043, 0, 0, 1045, 0, 0, 1035, 0, 1121, 0]), (193, [0, 0, 1222, 0, 1226, 0, 0, 0, 0, 1030, 0, 0, 0, 0, 0, 0, 1032, 0, 0, 0, 0, 0, 0, 0, 1227, 0, 0, 0, 1231, 0, 0, 1030, 0, 0, 0, 0, 0, 1121, 0]), (194, [0, 0, 0, 1239, 0, 1226, 0, 0, 0, 0, 1243, 1118, 0, 1121, 0, 0, 0, 0, 0, 0, 0, 1192, 0, 0, 0, 0, 0, 0, 0, 0, 0, 0, 1203, 0]), (195, [0, 0, 1248, 0, 1226, 0, 0, 0, 0, 1252, 1118, 0, 1121, 0, 0, 0, 0, 0, 1032, 0, 0, 0, 0, 0, 0, 0, 0, 0, 0, 0, 1032, 0, 0, 0, 0, 0, 1032, 0, 0, 0, 0, 1192, 0]), (196, [0, 0, 0, 0, 1030, 0, 0, 0, 0, 0, 1118, 0, 1226, 0, 0, 0, 0, 1252, 1118, 0, 0, 1030, 0, 0, 0, 0, 0, 0, 0, 0, 0, 1121, 0]), (197, [0, 0, 0, 1243, 1118, 0, 1121, 0, 0, 0, 0, 0, 1032, 0, 0, 0, 0, 0, 1118, 0, 0, 0, 0, 1032, 0, 0, 1032, 0, 0, 0, 0, 0, 0, 0, 0, 0, 0, 0, 0, 0, 0, 0, 0, 0, 0, 0, 0, 0, 0, 0, 0, 0, 0, 0, 0]), (198, [0, 0, 0, 0, 0, 0, 0, 0, 0, 0, 0, 0, 0, 0, 0, 0, 0, 0, 0, 0, 0, 0, 0, 0, 0, 0, 0, 1030, 0, 0, 0, 0, 0, 0, 0, 0, 0, 0, 0, 0, 0, 0, 1196, 0, 0, 0, 0, 0]), (199, [0, 0, 1295, 0, 0, 0, 0, 0, 1296, 0, 0, 0, 0, 0, 0, 0, 0, 0, 0, 0, 0, 0, 0, 0, 0, 0, 0, 0, 0, 0, 0, 0, 0, 0, 0, 0, 0, 0, 0, 0, 0, 0, 0, 0, 0, 0, 0, 0, 0, 0, 0, 0, 0, 0, 0, 0, 0]), (200, [0, 0, 0, 0, 0, 0, 0, 0, 0, 0, 0, 0, 0, 0, 0, 0, 0, 0])]
theorem zKPo_4 : ∀ q ∈ zKP_4, zch (zy q.1).cls (zby q.1) (zcode q.1) q.2 = true := List.forall_mem_cons.mpr ⟨zk_X12_has, List.forall_mem_cons.mpr ⟨zk_X12_bits, List.forall_mem_cons.mpr ⟨zk_X12_lesser, List.forall_mem_cons.mpr ⟨zk_X12_copies, List.forall_mem_cons.mpr ⟨zk_X12_begins, List.forall_mem_cons.mpr ⟨zk_X12_feed, List.forall_mem_cons.mpr ⟨zk_X12_here, List.forall_mem_cons.mpr ⟨zk_X12_step, List.forall_mem_cons.mpr ⟨zk_X12_fails, List.forall_mem_cons.mpr ⟨zk_X12_number, List.forall_mem_cons.mpr ⟨zk_X12_ends, List.forall_mem_cons.mpr ⟨zk_X12_row, List.forall_mem_cons.mpr ⟨zk_X12_readsRoom, List.forall_mem_cons.mpr ⟨zk_X12_readsUnder, List.forall_mem_cons.mpr ⟨zk_X12_readsPerson, List.forall_mem_cons.mpr ⟨zk_X12_readsWall, List.forall_mem_cons.mpr ⟨zk_X12_readsClause, List.forall_mem_cons.mpr ⟨zk_X12_house, List.forall_mem_cons.mpr ⟨zk_X12_fault, List.forall_mem_cons.mpr ⟨zk_X12_isRoom, List.forall_mem_cons.mpr ⟨zk_X12_isBar, List.forall_mem_cons.mpr ⟨zk_X12_isPerson, List.forall_mem_cons.mpr ⟨zk_X12_areTwo, List.forall_mem_cons.mpr ⟨zk_X12_turned, List.forall_mem_cons.mpr ⟨zk_X12_readsOn, List.forall_mem_cons.mpr ⟨zk_X12_reads, List.forall_mem_cons.mpr ⟨zk_X12_open, List.forall_mem_cons.mpr ⟨zk_X12_liftedInAll, List.forall_mem_cons.mpr ⟨zk_X12_mostRead, List.forall_mem_cons.mpr ⟨zk_X12_key, List.forall_mem_cons.mpr ⟨zk_X12_repeat, List.forall_mem_cons.mpr ⟨zk_X12_told, List.forall_mem_cons.mpr ⟨zk_X12_room, List.forall_mem_cons.mpr ⟨zk_X12_bar, List.forall_mem_cons.mpr ⟨zk_X12_person, List.forall_mem_cons.mpr ⟨zk_X12_wall, List.forall_mem_cons.mpr ⟨zk_X12_logged, List.forall_mem_cons.mpr ⟨zk_X12_walks, List.forall_mem_cons.mpr ⟨zk_X12_logs, List.forall_mem_cons.mpr ⟨zk_X12_isAt, fun _ h => absurd h List.not_mem_nil⟩⟩⟩⟩⟩⟩⟩⟩⟩⟩⟩⟩⟩⟩⟩⟩⟩⟩⟩⟩⟩⟩⟩⟩⟩⟩⟩⟩⟩⟩⟩⟩⟩⟩⟩⟩⟩⟩⟩⟩
def zKP_5 : List (Nat × List Nat) := [(201, [0, 0, 0, 0, 1054, 0, 0, 0, 0, 1030, 0, 0, 0, 0, 0, 0, 0, 1030, 0, 0, 0, 0, 0, 0, 0, 1030, 0, 0, 0, 0, 0, 0, 0, 1030, 0, 0, 0, 0, 0, 1030, 0, 0, 0, 0, 1288, 0, 0, 0, 0, 0, 1030, 0, 0, 0, 0, 0, 1030, 0, 0, 0, 0, 1288, 0, 0, 0, 0, 0, 0, 0, 0, 0, 0, 0, 1292, 0, 0, 0, 1054, 0, 0, 0, 0, 0, 0, 0, 0, 0, 0, 0, 0, 0, 0, 0, 0, 0, 0, 1054, 0, 0, 0, 0, 0, 0, 0, 0]), (202, [0, 0, 0, 0, 1030, 0, 0, 0, 0, 0, 0, 1280, 0, 0, 0, 0, 0, 1284, 0, 0, 0, 0, 0, 0, 0, 0, 0, 1030, 0, 0, 0, 0, 0, 0, 0, 1030, 0, 0, 0, 0, 0, 1030, 0, 0, 0, 0, 0, 0, 0, 1030, 0, 0, 0, 0, 0, 0, 0, 0, 1030, 0, 0, 0, 0, 0, 0, 0, 0, 0, 0, 0, 0, 0, 1030, 0, 0, 0, 0, 1030, 0, 0, 0, 0, 0, 0, 0, 0, 0, 0]), (203, [0, 1035, 0, 0, 0, 0, 0, 0, 0, 0, 1034, 0, 0, 1034, 0, 0, 0, 0, 0, 0, 0, 0, 0, 1035, 0, 0, 1035, 0, 1032, 0, 0, 1034, 0, 0, 1035, 0, 0, 1173, 0, 0, 1035, 0, 0, 1035, 0]), (204, [0, 0, 0, 1269, 1118, 0, 1121, 0, 0, 1030, 0, 0, 0, 1270, 0, 0, 1032, 0, 0, 1271, 0, 1122, 0, 0, 0]), (205, [0, 0, 1265, 0, 0, 0, 0, 0, 0, 0, 0, 0, 0, 0, 1272, 0, 0, 1032, 0, 1276, 0, 0, 0, 0, 1032, 0, 0, 0]), (206, [0, 0, 0, 1239, 0, 1226, 0, 0, 1032, 0, 0, 0, 0, 0, 1200, 0, 1270, 0, 0, 1272, 0, 1032, 0, 0, 0, 0, 0, 0, 0, 0, 0, 0, 0, 0, 0, 1192, 0]), (207, [0, 0, 0, 1239, 0, 1226, 0, 0, 1032, 0, 0, 0, 0, 0, 1200, 0, 1270, 0, 0, 1272, 0, 1032, 0, 0, 0, 0, 0, 0, 0, 0, 0, 0, 0, 0, 0, 0, 0, 1192, 0]), (208, [0, 0, 1248, 0, 0, 0, 1222, 0, 1226, 0, 0, 0, 1032, 0, 0, 0, 0, 0, 1032, 0, 0, 0, 0, 1192, 0, 0, 0, 0, 0, 1030, 0, 0, 0, 0, 0, 0, 1032, 0, 0, 0, 0, 0, 0, 0, 0, 0, 1192, 0, 0, 0, 1272, 0, 1032, 0, 0, 0, 0, 0, 0, 1032, 0, 0, 0, 0, 0, 0, 0, 0, 0, 1270, 0]), (209, [0, 0, 1248, 0, 1226, 0, 0, 0, 0, 1315, 1118, 0, 1121, 0, 0, 1272, 0, 1032, 0, 0, 0, 0, 0, 0, 1032, 0, 0, 0, 0, 0, 0, 0]), (210, [0, 0, 1038, 1328, 0, 1329, 0, 1330, 0, 1038, 0, 1038, 1331, 0, 0, 0, 0, 0, 0]), (211, [0, 0, 1324, 0, 0, 0, 0, 0, 1030, 0, 0, 1324, 0, 0, 1032, 0, 0, 0, 0, 0, 0, 0, 0, 1030, 0, 0, 0, 0, 1324, 0, 0, 0, 0, 0, 0, 0, 0, 1030, 0, 0, 0, 0, 0, 1030, 0, 0, 1324, 0, 0, 1032, 0, 0, 0, 0, 0, 1324, 0, 0]), (212, [0, 0, 1265, 0, 0, 0, 0, 0, 0, 0, 0, 0, 0, 0, 1272, 0, 1030, 0, 0, 0, 0, 1320, 0, 0, 1032, 0, 1276, 0, 0, 0, 0, 1032, 0, 0, 0]), (213, [0, 0, 0, 1269, 1118, 0, 1121, 0, 0, 0, 1035, 0, 1270, 0, 0, 0, 1035, 0, 0, 1035, 0, 1034, 0, 0, 1035, 0, 0, 1032, 0, 0, 1173, 0, 1032, 0, 0, 0]), (214, [0, 1032, 0, 0, 1033, 0, 0, 1173, 0]), (215, [0, 0, 1248, 0, 1226, 0, 0, 0, 0, 1340, 1118, 0, 1121, 0, 0, 1341, 0, 0, 0, 0, 0, 0, 0, 1033, 0, 1276, 0, 0, 0, 0, 1033, 0, 0, 0, 0, 0]), (216, [0, 0, 0, 1340, 1118, 0, 1121, 0, 0, 1341, 0, 0, 0, 0, 0, 0, 0, 0, 0, 0, 1033, 0, 1276, 0, 0, 0, 0, 0, 0]), (217, [0, 0, 1248, 0, 0, 0, 1248, 0, 0, 0, 0, 1226, 0, 0, 1341, 0, 0, 0, 0, 0, 0, 0, 1033, 0, 0, 0, 0, 0, 1276, 0, 0, 1054, 0, 0, 0, 0, 0, 0, 0]), (218, [0, 0, 0, 1192, 0, 0, 0, 0, 0, 0, 1030, 0, 0, 0, 0, 0, 1192, 0, 0, 0, 0, 0]), (219, [0, 0, 0, 0, 0, 0, 1030, 0, 0, 0, 0, 0, 0, 0, 0, 0, 0, 0, 1366, 0, 0, 0, 0, 0, 0, 0, 0, 0, 0]), (220, [0, 0, 0, 1357, 0, 1226, 0, 0, 0, 0, 1361, 1118, 0, 0, 0, 0, 0, 1362, 0, 1121, 0]), (221, [0, 0, 0, 1357, 0, 1226, 0, 0, 0, 0, 0, 1118, 0, 1121, 0, 0, 0, 0, 0, 0, 0, 1030, 0, 0, 0, 0, 0, 0, 0, 0, 0, 1362, 0, 0, 0, 0, 1362, 0, 0, 0, 0, 0, 0, 0, 0, 0, 0, 0, 0, 0, 0, 0, 1362, 0]), (222, [0, 0, 0, 1357, 0, 1226, 0, 0, 0, 0, 1361, 1118, 0, 0, 0, 0, 0, 1118, 0, 1121, 0, 0, 0, 0, 0, 0, 0, 1030, 0, 0, 0, 0, 0, 0, 0, 0, 0, 0, 1366, 0, 0, 0, 0, 0, 1032, 0, 0, 0, 0, 0, 1200, 0, 0, 0, 0, 1203, 0, 0, 0, 0, 0, 0, 1030, 0, 0, 0, 0, 0, 1192, 0, 0, 0, 0, 0, 0, 0, 0, 0, 0, 0, 0, 0, 0, 1211, 0, 0, 0]), (223, [0, 1030, 0, 0, 0, 0, 0, 1030, 0, 0, 0, 0, 1296, 0, 0, 0, 0, 0, 0, 0, 0, 0, 0, 0, 0, 0, 0, 0, 1030, 0, 0, 0, 0, 0, 0, 0, 0, 1192, 0, 0, 0, 1192, 0, 0, 0, 0, 0, 0, 0, 0, 0, 0, 0, 0, 0, 0, 0]), (224, [0, 0, 0, 1357, 0, 0, 0, 0, 1382, 0, 1226, 0]), (225, [0, 0, 0, 0, 0, 0, 0, 1055, 0, 0, 0, 1055, 0, 0, 0, 0, 0, 0, 0, 0, 0, 0, 0, 0, 0, 0, 0, 0, 1055, 0, 0, 0, 1055, 0, 0, 0, 0, 0, 0, 1055, 0, 0, 0, 0, 1055, 0, 0, 1055, 0, 0, 0, 0, 1055, 0, 0, 0, 0, 0, 0, 0, 0, 0, 0, 0, 0, 0, 0, 0, 1055, 0, 0, 0, 0, 1055, 0, 0, 1055, 0, 0, 0, 0, 1055, 0, 0, 0, 0, 0, 0, 0, 0]), (226, [0, 0, 0, 0, 1118, 0, 1121, 0, 0, 1030, 0, 0, 0, 0, 0, 0, 0, 0, 0, 0, 0, 0, 0, 0, 0, 1055, 0, 0, 0, 0, 0, 1030, 0, 0, 0, 0, 0, 0, 0, 0, 0, 0, 0, 0, 1056, 0, 0, 0, 0, 0, 0, 0, 0, 0, 0, 0, 0, 0, 1382, 0, 0, 0, 0, 0, 1390, 0, 0, 0, 0, 0, 0, 0, 0, 0, 0, 1055, 0, 0, 0, 0, 0, 0, 0, 0, 0, 0, 0, 0, 1056, 0, 0, 1055, 0, 0, 0, 0, 0, 0, 1055, 0, 0, 0, 0, 0, 0, 0, 0, 0, 0, 1055, 0, 0, 0, 0, 0, 0, 0, 0, 0, 0, 0, 0, 0, 0, 0, 0, 0, 1296, 0, 0, 0, 1391, 0, 0, 0, 0, 0, 0, 0, 0]), (227, [0, 0, 1227, 0, 0, 1227, 0, 0, 0, 0, 0, 0, 0, 0, 0, 0, 0, 0, 0, 1296, 0]), (228, [0, 0, 1222, 0, 1226, 0, 0, 0, 0, 0, 0, 0, 1030, 0, 0, 0, 0, 0, 0, 0, 0, 0, 0, 0, 0, 1399, 0, 0, 0, 1399, 0, 0, 0, 0, 0, 0, 0, 0, 0]), (229, [0, 0, 1222, 0, 0, 0, 1222, 0, 1226, 0, 0, 0, 0, 0, 0, 0, 0, 0, 0, 0, 0, 1200, 0, 0, 0, 0, 0, 0, 0, 0, 0, 1030, 0, 0, 0, 0, 0, 0, 0, 1030, 0, 0, 0, 0, 0, 0, 1200, 0, 0, 0, 0, 1399, 0, 0, 0, 0, 0, 0, 0, 0, 0, 0, 0, 0, 0, 0, 0, 0, 0]), (230, [0, 0, 0, 1315, 1118, 0, 1121, 0, 0, 0, 0, 0, 0, 0, 1030, 0, 0, 0, 0, 0, 0, 1032, 0, 0, 0, 0, 0, 1032, 0, 0, 0, 0, 1192, 0, 0, 0, 0, 0, 0, 0, 0, 0, 0, 0, 0, 0]), (231, [0, 0, 0, 1415, 1118, 0, 0, 0, 0, 1416, 1118, 0, 1121, 0, 1417, 0, 0, 0, 0, 0, 0, 0, 0, 0, 0, 1416, 0, 0, 0, 0, 0, 0, 0]), (232, [0, 0, 0, 1361, 1118, 0, 0, 0, 0, 1315, 1118, 0, 1121, 0, 0, 1043, 0, 0, 1122, 0, 0, 1042, 0, 0, 1043, 0, 0, 0, 0, 1042, 0, 0, 1043, 0, 0, 0, 0, 0, 0, 0, 1043, 0, 0, 1043, 0, 1043, 0]), (233, [0, 0, 0, 0, 0, 0, 0, 1043, 0, 0, 0, 0, 0, 0, 0, 0, 1042, 0, 0, 0, 0, 1030, 0, 0, 0, 0, 0, 1192, 0, 1042, 0, 0, 0, 0, 0, 0, 0, 0, 0, 0, 0, 0, 0]), (234, [0, 0, 0, 1243, 1118, 0, 1121, 0, 0, 0, 0, 0, 0, 0, 0, 1030, 0, 0, 0, 0, 0, 0, 0, 0, 1030, 0, 0, 0, 0, 0, 0, 0, 0, 0, 0, 0, 0, 1426, 0, 0, 0, 0, 0, 0, 0, 0, 0, 0, 0, 0, 0, 0, 0, 0, 0, 0, 0, 0, 0, 0, 0, 0, 0, 0, 0, 0, 0]), (235, [0, 0, 0, 0, 0, 0, 1053, 0, 0, 0, 0, 0, 0, 0, 0, 0, 0, 0, 1030, 0, 0, 0, 0, 0, 0, 0, 1030, 0, 0, 0, 0, 0, 0, 0, 0, 1426, 0, 0, 0, 0, 0, 0, 0, 1030, 0, 0, 0, 0, 0, 1192, 0, 0, 1053, 0, 0, 0, 0, 0, 0, 0, 1053, 0, 0, 0, 0, 0, 1053, 0, 0, 0, 0, 0, 0, 0, 0, 0, 0, 0]), (236, [0, 0, 1434, 0, 0, 0, 0, 0, 0, 0, 0, 0, 0, 1435, 0, 0, 0, 0, 0, 0, 0, 0, 0, 0, 1296, 0, 0, 0, 0, 0]), (237, [0, 0, 0, 1239, 0, 1226, 0, 0, 0, 0, 1315, 1118, 0, 1121, 0, 0, 1045, 0, 0, 1122, 0, 0, 1044, 0, 0, 1045, 0, 0, 0, 0, 1044, 0, 0, 1045, 0, 0, 0, 0, 0, 0, 1044, 0, 0, 1045, 0, 0, 0, 0, 0, 0, 0, 1045, 0, 0, 1045, 0, 1045, 0]), (238, [0, 0, 0, 0, 1045, 0, 0, 0, 1044, 0, 0, 0, 0, 0, 1044, 0, 0, 0, 0, 0, 0, 1192, 0, 1044, 0, 0, 0, 0, 0, 0, 0, 0, 0, 0, 0, 0, 0]), (239, [0, 1043, 0, 1045, 0, 0, 0, 0, 1043, 0, 0, 1045, 0, 0]), (240, [0, 0, 1121, 0, 0, 1038, 0, 0, 0, 0, 0, 1038, 0, 0])]
theorem zKPo_5 : ∀ q ∈ zKP_5, zch (zy q.1).cls (zby q.1) (zcode q.1) q.2 = true := List.forall_mem_cons.mpr ⟨zk_X12_meetings, List.forall_mem_cons.mpr ⟨zk_X12_hourGoes, List.forall_mem_cons.mpr ⟨zk_X12_remember, List.forall_mem_cons.mpr ⟨zk_X12_refuses, List.forall_mem_cons.mpr ⟨zk_X12_hour, List.forall_mem_cons.mpr ⟨zk_X12_lift, List.forall_mem_cons.mpr ⟨zk_X12_paste, List.forall_mem_cons.mpr ⟨zk_X12_moveTo, List.forall_mem_cons.mpr ⟨zk_X12_pace, List.forall_mem_cons.mpr ⟨zk_X12_draw, List.forall_mem_cons.mpr ⟨zk_X12_draws, List.forall_mem_cons.mpr ⟨zk_X12_drift, List.forall_mem_cons.mpr ⟨zk_X12_undo, List.forall_mem_cons.mpr ⟨zk_X12_layAside, List.forall_mem_cons.mpr ⟨zk_X12_where, List.forall_mem_cons.mpr ⟨zk_X12_meets, List.forall_mem_cons.mpr ⟨zk_X12_together, List.forall_mem_cons.mpr ⟨zk_X12_isIn, List.forall_mem_cons.mpr ⟨zk_X12_inCanon, List.forall_mem_cons.mpr ⟨zk_X12_canon, List.forall_mem_cons.mpr ⟨zk_X12_bestCanon, List.forall_mem_cons.mpr ⟨zk_X12_match, List.forall_mem_cons.mpr ⟨zk_X12_joinOf, List.forall_mem_cons.mpr ⟨zk_X12_join, List.forall_mem_cons.mpr ⟨zk_X12_nextOrder, List.forall_mem_cons.mpr ⟨zk_X12_shortest, List.forall_mem_cons.mpr ⟨zk_X12_apart, List.forall_mem_cons.mpr ⟨zk_X12_nearest, List.forall_mem_cons.mpr ⟨zk_X12_modulation, List.forall_mem_cons.mpr ⟨zk_X12_sounds, List.forall_mem_cons.mpr ⟨zk_X12_dry, List.forall_mem_cons.mpr ⟨zk_X12_see, List.forall_mem_cons.mpr ⟨zk_X12_isSo, List.forall_mem_cons.mpr ⟨zk_X12_places, List.forall_mem_cons.mpr ⟨zk_X12_greatestPart, List.forall_mem_cons.mpr ⟨zk_X12_lookAt, List.forall_mem_cons.mpr ⟨zk_X12_write, List.forall_mem_cons.mpr ⟨zk_X12_judge, List.forall_mem_cons.mpr ⟨zk_X12_tear, List.forall_mem_cons.mpr ⟨zk_X12_seed, fun _ h => absurd h List.not_mem_nil⟩⟩⟩⟩⟩⟩⟩⟩⟩⟩⟩⟩⟩⟩⟩⟩⟩⟩⟩⟩⟩⟩⟩⟩⟩⟩⟩⟩⟩⟩⟩⟩⟩⟩⟩⟩⟩⟩⟩⟩
def zKP_6 : List (Nat × List Nat) := [(241, [0, 0, 0, 0, 1118, 0, 1226, 0, 0, 1032, 0, 0, 1036, 0, 0, 0, 0, 1173, 0, 1036, 0, 0, 0, 0, 0, 0, 1038, 0, 0, 0, 1037, 0, 0, 0, 0, 0, 1035, 0, 0]), (242, [0, 0, 0, 0, 1118, 0, 1226, 0, 0, 1037, 0, 0, 0, 1270, 0, 0, 1036, 0, 0, 0, 0, 1032, 0, 0, 1173, 0, 0, 1036, 0, 0, 0, 0, 0, 0, 0, 1038, 0, 0, 1035, 0, 0])]
theorem zKPo_6 : ∀ q ∈ zKP_6, zch (zy q.1).cls (zby q.1) (zcode q.1) q.2 = true := List.forall_mem_cons.mpr ⟨zk_X12_keep, List.forall_mem_cons.mpr ⟨zk_X12_goBack, fun _ h => absurd h List.not_mem_nil⟩⟩
theorem zKP_all : ∀ q ∈ zKP_0 ++ (zKP_1 ++ (zKP_2 ++ (zKP_3 ++ (zKP_4 ++ (zKP_5 ++ (zKP_6)))))), zch (zy q.1).cls (zby q.1) (zcode q.1) q.2 = true := List.forall_mem_append.mpr ⟨zKPo_0, List.forall_mem_append.mpr ⟨zKPo_1, List.forall_mem_append.mpr ⟨zKPo_2, List.forall_mem_append.mpr ⟨zKPo_3, List.forall_mem_append.mpr ⟨zKPo_4, List.forall_mem_append.mpr ⟨zKPo_5, zKPo_6⟩⟩⟩⟩⟩⟩
theorem zKP_in : ∀ f, f < 243 → 0 < f → ((zKP_0 ++ (zKP_1 ++ (zKP_2 ++ (zKP_3 ++ (zKP_4 ++ (zKP_5 ++ (zKP_6))))))).any fun q => decide (q.1 = f)) = true := by decide +kernel
/-- how long instructions are (0: those whose length is their own business) -/
def zil (i : Instr) : Nat := match i with
  | .aload _ | .iload _ | .lload _ | .astore _ | .istore _ | .lstore _ | .bipush _ | .ldc _ => 2
  | .sipush _ | .ldc_w _ | .ldc2_w _ | .getfield _ | .putfield _ | .iinc _ _ | .if_icmp _ _ | .ifCond _ _ | .ifnonnull _ | .goto _ | .invokevirtual _ | .invokestatic _ | .invokespecial _ | .new _ | .anewarray _ => 3
  | .tableswitch _ _ _ _ | .lookupswitch _ _ | .newarray _ => 0
  | _ => 1
theorem zil_ok : (zCT.all fun c => c.all fun e => decide (zil e.2.2.1 = 0) || decide (e.2.1 = zil e.2.2.1)) = true := by decide +kernel
theorem zk_ok {f : Nat} (h0 : 0 < f) (h : f < 243) : ∃ ps, zch (zy f).cls (zby f) (zcode f) ps = true := by
  have h1 := List.any_eq_true.mp (zKP_in f h h0)
  obtain ⟨q, hq, he⟩ := h1
  have e : q.1 = f := of_decide_eq_true he
  exact ⟨q.2, e ▸ zKP_all q hq⟩
/-- a method's rows: each is decoded so, its links stand; one follows the other; the first is at 0 -/
def zEok (m : Nat) : Prop := (∀ e ∈ zcode m, ∃ p, zche (zy m).cls (zby m) (e, p) = true) ∧ zco (zcode m) = true ∧ (match zcode m with | e :: _ => e.1 = 0 | [] => False)
theorem zE_of {m : Nat} {ps : List Nat} (h : zch (zy m).cls (zby m) (zcode m) ps = true) : zEok m := by
  simp only [zch, Bool.and_eq_true, decide_eq_true_eq] at h
  obtain ⟨⟨⟨h1, h2⟩, h3⟩, h4⟩ := h
  refine ⟨fun e he => ?_, h2, ?_⟩
  · obtain ⟨i, hi, rfl⟩ := List.mem_iff_getElem.mp he
    have hm : ((zcode m)[i], ps[i]'(by omega)) ∈ (zcode m).zip ps := by
      rw [List.mem_iff_getElem]
      exact ⟨i, by rw [List.length_zip]; omega, by simp⟩
    refine ⟨ps[i]'(by omega), ?_⟩
    have := List.all_eq_true.mp h1 _ hm
    simpa only [zche] using this
  · cases hz : zcode m with
    | nil => rw [hz] at h4; cases h4
    | cons e r => rw [hz] at h4; simpa using h4
theorem zE_law : zEok 243 := by
  refine ⟨fun e he => ?_, zlaw_co, rfl⟩
  obtain ⟨i, hi, rfl⟩ := List.mem_iff_getElem.mp he
  have hl := zlaw_ln
  have hm : ((zcode 243)[i], zlaw_ps[i]'(by omega)) ∈ (zcode 243).zip zlaw_ps := by
    rw [List.mem_iff_getElem]
    exact ⟨i, by rw [List.length_zip]; omega, by simp⟩
  rw [zlaw_eq] at hm
  obtain ⟨w, hw, hm⟩ := List.mem_flatten.mp hm
  exact ⟨_, List.all_eq_true.mp (zlws_ok w hw) _ hm⟩
theorem zE_all {m : Nat} (h0 : 0 < m) (h : m < 244) : zEok m := by
  rcases Nat.lt_or_ge m 243 with q | q
  · obtain ⟨ps, hp⟩ := zk_ok h0 q
    exact zE_of hp
  · have e : m = 243 := by omega
    subst e
    exact zE_law
end
section
/-! NUMBERS: the machine's words out of whole numbers -/
def zin (a : Int) : Prop := -2147483648 ≤ a ∧ a ≤ 2147483647
def zinL (a : Int) : Prop := -9223372036854775808 ≤ a ∧ a ≤ 9223372036854775807
theorem z_ti {a : Int} (h : zin a) : (Int32.ofInt a).toInt = a := by
  obtain ⟨h1, h2⟩ := h
  rw [Int32.toInt_ofInt]
  exact Int.bmod_eq_of_le (by simp; omega) (by simp; omega)
theorem z_tiL {a : Int} (h : zinL a) : (Int64.ofInt a).toInt = a := by
  obtain ⟨h1, h2⟩ := h
  rw [Int64.toInt_ofInt]
  exact Int.bmod_eq_of_le (by simp; omega) (by simp; omega)
theorem z_rg (x : Int32) : zin x.toInt := by
  have h1 := Int32.le_toInt x
  have h2 := Int32.toInt_lt x
  exact ⟨by omega, by omega⟩
theorem z_rgL (x : Int64) : zinL x.toInt := by
  have h1 := Int64.le_toInt x
  have h2 := Int64.toInt_lt x
  exact ⟨by omega, by omega⟩
theorem z_w32 (x : Int) : zin (w32 x) := by
  unfold zin w32; omega
theorem z_w64 (x : Int) : zinL (w64 x) := by
  unfold zinL w64; omega
theorem z_ow (x : Int) : Int32.ofInt (w32 x) = Int32.ofInt x := by
  apply Int32.toInt_inj.mp
  rw [Int32.toInt_ofInt, Int32.toInt_ofInt]
  have e : w32 x = x + 4294967296 * (-((x + 2147483648) / 4294967296)) := by unfold w32; omega
  rw [e]
  exact Int.add_mul_bmod_self_left x 4294967296 _
theorem z_owL (x : Int) : Int64.ofInt (w64 x) = Int64.ofInt x := by
  apply Int64.toInt_inj.mp
  rw [Int64.toInt_ofInt, Int64.toInt_ofInt]
  have e : w64 x = x + 18446744073709551616 * (-((x + 9223372036854775808) / 18446744073709551616)) := by unfold w64; omega
  rw [e]
  exact Int.add_mul_bmod_self_left x 18446744073709551616 _
theorem z_add (a b : Int) : Int32.ofInt a + Int32.ofInt b = Int32.ofInt (w32 (a + b)) := by rw [z_ow, Int32.ofInt_add]
theorem z_sub (a b : Int) : Int32.ofInt a - Int32.ofInt b = Int32.ofInt (w32 (a - b)) := by rw [z_ow, Int32.ofInt_sub]
theorem z_mul (a b : Int) : Int32.ofInt a * Int32.ofInt b = Int32.ofInt (w32 (a * b)) := by rw [z_ow, Int32.ofInt_mul]
theorem z_neg (a : Int) : -Int32.ofInt a = Int32.ofInt (w32 (-a)) := by rw [z_ow, Int32.ofInt_neg]
theorem z_addL (a b : Int) : Int64.ofInt a + Int64.ofInt b = Int64.ofInt (w64 (a + b)) := by rw [z_owL, Int64.ofInt_add]
theorem z_mulL (a b : Int) : Int64.ofInt a * Int64.ofInt b = Int64.ofInt (w64 (a * b)) := by rw [z_owL, Int64.ofInt_mul]
theorem z_fix {x : Int} (h1 : -2147483648 ≤ x) (h2 : x ≤ 2147483647) : w32 x = x := by unfold w32; omega
theorem z_fixL {x : Int} (h1 : -9223372036854775808 ≤ x) (h2 : x ≤ 9223372036854775807) : w64 x = x := by unfold w64; omega
theorem z_inj {a b : Int} (ha : zin a) (hb : zin b) (h : Int32.ofInt a = Int32.ofInt b) : a = b := by
  rw [← z_ti ha, ← z_ti hb, h]
theorem z_eqi {a b : Int} (ha : zin a) (hb : zin b) : Int32.ofInt a = Int32.ofInt b ↔ a = b := ⟨z_inj ha hb, fun h => by rw [h]⟩
theorem z_lti {a b : Int} (ha : zin a) (hb : zin b) : Int32.ofInt a < Int32.ofInt b ↔ a < b := by
  rw [Int32.lt_iff_toInt_lt, z_ti ha, z_ti hb]
theorem z_lei {a b : Int} (ha : zin a) (hb : zin b) : Int32.ofInt a ≤ Int32.ofInt b ↔ a ≤ b := by
  rw [Int32.le_iff_toInt_le, z_ti ha, z_ti hb]
theorem z_injL {a b : Int} (ha : zinL a) (hb : zinL b) (h : Int64.ofInt a = Int64.ofInt b) : a = b := by
  rw [← z_tiL ha, ← z_tiL hb, h]
theorem z_ltL {a b : Int} (ha : zinL a) (hb : zinL b) : Int64.ofInt a < Int64.ofInt b ↔ a < b := by
  rw [Int64.lt_iff_toInt_lt, z_tiL ha, z_tiL hb]
theorem z_zero : zin 0 := ⟨by omega, by omega⟩
theorem z_o0 : (Int32.ofInt 0 : Int32) = 0 := rfl
theorem z_back (x : Int32) : Int32.ofInt x.toInt = x := by
  apply Int32.toInt_inj.mp; rw [z_ti (z_rg x)]
theorem z_backL (x : Int64) : Int64.ofInt x.toInt = x := by
  apply Int64.toInt_inj.mp; rw [z_tiL (z_rgL x)]
theorem z_div {a b : Int} (ha : zin a) (hb : zin b) : Int32.ofInt a / Int32.ofInt b = Int32.ofInt (w32 (a.tdiv b)) := by
  rw [z_ow]
  apply Int32.toInt_inj.mp
  rw [Int32.toInt_div, z_ti ha, z_ti hb, Int32.toInt_ofInt]
theorem z_tm (a b : Int) : (a.tmod b).natAbs ≤ a.natAbs := by
  have h1 : (a.tmod b).natAbs = a.natAbs % b.natAbs := by
    first | exact Int.natAbs_tmod a b | (rw [Int.natAbs_tmod])
  rw [h1]; exact Nat.mod_le _ _
theorem z_rem {a b : Int} (ha : zin a) (hb : zin b) : Int32.ofInt a - Int32.ofInt a / Int32.ofInt b * Int32.ofInt b = Int32.ofInt (a.tmod b) := by
  apply Int32.toInt_inj.mp
  rw [rem_toInt, z_ti ha, z_ti hb]
  refine (z_ti ?_).symm
  obtain ⟨h1, h2⟩ := ha
  have h4 : (a.tmod b).natAbs ≤ a.natAbs := z_tm a b
  unfold zin
  rcases Int.le_total 0 a with h | h
  · have := Int.tmod_nonneg b h; omega
  · have h5 : a.tmod b ≤ 0 := by
      have := Int.tmod_nonneg b (show 0 ≤ -a by omega)
      rw [Int.neg_tmod] at this; omega
    omega
theorem z_remr {a b : Int} (ha : zin a) : zin (a.tmod b) := by
  obtain ⟨h1, h2⟩ := ha
  have h4 : (a.tmod b).natAbs ≤ a.natAbs := z_tm a b
  unfold zin
  rcases Int.le_total 0 a with h | h
  · have := Int.tmod_nonneg b h; omega
  · have h5 : a.tmod b ≤ 0 := by
      have := Int.tmod_nonneg b (show 0 ≤ -a by omega)
      rw [Int.neg_tmod] at this; omega
    omega
theorem z_remrL {a b : Int} (ha : zinL a) : zinL (a.tmod b) := by
  obtain ⟨h1, h2⟩ := ha
  have h4 : (a.tmod b).natAbs ≤ a.natAbs := z_tm a b
  unfold zinL
  rcases Int.le_total 0 a with h | h
  · have := Int.tmod_nonneg b h; omega
  · have h5 : a.tmod b ≤ 0 := by
      have := Int.tmod_nonneg b (show 0 ≤ -a by omega)
      rw [Int.neg_tmod] at this; omega
    omega
theorem z_divL {a b : Int} (ha : zinL a) (hb : zinL b) : Int64.ofInt a / Int64.ofInt b = Int64.ofInt (w64 (a.tdiv b)) := by
  rw [z_owL]
  apply Int64.toInt_inj.mp
  rw [Int64.toInt_div, z_tiL ha, z_tiL hb, Int64.toInt_ofInt]
theorem z_and (a b : Int) : Int32.ofInt a &&& Int32.ofInt b = Int32.ofInt (zand a b) := (z_back _).symm
theorem z_or (a b : Int) : Int32.ofInt a ||| Int32.ofInt b = Int32.ofInt (zor a b) := (z_back _).symm
theorem z_xor (a b : Int) : Int32.ofInt a ^^^ Int32.ofInt b = Int32.ofInt (zxor a b) := (z_back _).symm
theorem z_shl (a b : Int) : Int32.ofInt a <<< (Int32.ofInt b &&& 31) = Int32.ofInt (zshl a b) := (z_back _).symm
theorem z_shr (a b : Int) : Int32.ofInt a >>> (Int32.ofInt b &&& 31) = Int32.ofInt (zshr a b) := (z_back _).symm
theorem z_ushr (a b : Int) : ((Int32.ofInt a).toUInt32 >>> ((Int32.ofInt b).toUInt32 &&& Int32.toUInt32 31)).toInt32 = Int32.ofInt (zushr a b) := (z_back _).symm
theorem z_land (a b : Int) : Int64.ofInt a &&& Int64.ofInt b = Int64.ofInt (zland a b) := (z_backL _).symm
theorem z_i2l {a : Int} (ha : zin a) : (Int32.ofInt a).toInt64 = Int64.ofInt a := by
  apply Int64.toInt_inj.mp
  rw [Int32.toInt_toInt64, z_ti ha, z_tiL]
  obtain ⟨h1, h2⟩ := ha
  exact ⟨by omega, by omega⟩
theorem z_l2i {a : Int} (ha : zinL a) : (Int64.ofInt a).toInt32 = Int32.ofInt (w32 a) := by
  rw [z_ow]
  apply Int32.toInt_inj.mp
  rw [Int64.toInt_toInt32, z_tiL ha, Int32.toInt_ofInt]
theorem z_vin {k : Int} {n : Nat} (h0 : 0 ≤ k) (h : k < n) (hn : n < 2147483648) : vp_in (Int32.ofInt k) n := by
  rw [vp_in_iff, z_ti ⟨by omega, by omega⟩]
  exact ⟨h0, h⟩
theorem z_cl {k : Int} (h : zin k) : (Int32.ofInt k).toNatClampNeg = k.toNat := by
  show (Int32.ofInt k).toInt.toNat = k.toNat
  rw [z_ti h]
theorem z_nat (n : Nat) : Int32.ofNat n = Int32.ofInt (n : Int) := rfl
theorem z_01 {v : Int} (h : v = 0 ∨ v = 1) : narrow .boolean (.int (Int32.ofInt v)) = .int (Int32.ofInt v) ∧ fits .boolean (.int (Int32.ofInt v)) = true := by
  rcases h with rfl | rfl
  · exact ⟨rfl, rfl⟩
  · exact ⟨rfl, rfl⟩
theorem z_b8 {n : Int} (h : -128 ≤ n ∧ n ≤ 127) : (Int8.ofInt n).toInt32 = Int32.ofInt n := by
  apply Int32.toInt_inj.mp
  rw [Int8.toInt_toInt32, Int8.toInt_ofInt, z_ti ⟨by omega, by omega⟩]
  exact Int.bmod_eq_of_le (by simp; omega) (by simp; omega)
theorem z_b16 {n : Int} (h : -32768 ≤ n ∧ n ≤ 32767) : (Int16.ofInt n).toInt32 = Int32.ofInt n := by
  apply Int32.toInt_inj.mp
  rw [Int16.toInt_toInt32, Int16.toInt_ofInt, z_ti ⟨by omega, by omega⟩]
  exact Int.bmod_eq_of_le (by simp; omega) (by simp; omega)
end
section
/-! THE STEP, as a transformer: what must hold so that the machine comes to its end with Q; and its least solution -/
abbrev zP : Type := List (Option zV) → List zV → zM → Prop
abbrev zQ : Type := Option zV → zM → Prop
abbrev zG : Type := Option (Nat × (Nat → Int))
/-- kinds of references that methods answer -/
def zrg (f : Nat) : Nat := match zrf f with
  | some (.object c) => if c = "MusicWalls$House" then 3 else 4
  | _ => 0
def zQ0 (K : zM → Prop) : zQ := fun v μ => match v with
  | none => K μ
  | _ => False
def zQ1 (K : Int → zM → Prop) : zQ := fun v μ => match v with
  | some (.inl x) => K x μ
  | _ => False
def zQ4 (t : Nat) (K : Nat → zM → Prop) : zQ := fun v μ => match v with
  | some (.inr (.inr (u, i))) => if u = t then K i μ else False
  | _ => False
def zQm (f : Nat) (nx : List zV → zM → Prop) : zQ := match zmk f with
  | 0 => zQ0 (nx [])
  | 1 => zQ1 (fun x μ => nx [zI x] μ)
  | 2 => zQ1 (fun x μ => nx [zI x] μ)
  | 4 => zQ4 (zrg f) (fun i μ => nx [zR (zrg f) i] μ)
  | _ => fun _ _ => False
def zst (go : Nat → zP) (nx : zP) (call : Nat → List zV → zM → zQ → Prop) (nat : Prop → Prop) (Q : zQ) (mk : Nat) (Γ : zG) (e : zE) (ls : List (Option zV)) (st : List zV) (μ : zM) : Prop :=
  match zsx zfk zrt zak zal Γ e.2.2.1 e.2.2.2.1 e.2.2.2.2.1 e.2.2.2.2.2 ls st μ with
  | some (none, ls', st', μ') => nx ls' st' μ'
  | some (some P, ls', st', μ') => P ∧ nx ls' st' μ'
  | none => match zbx e.2.2.1 st with
    | some (c, o, st') => (c → go ((e.1 : Int) + o).toNat ls st' μ) ∧ (¬ c → nx ls st' μ)
    | none => match zcx zak Γ e.2.2.1 e.2.2.2.1 e.2.2.2.2.1 e.2.2.2.2.2 st with
      | some (f, as, r) => call f as μ (zQm f (fun v μ' => nx ls (v ++ r) μ'))
      | none => zox zak zal (fun o st' => go ((e.1 : Int) + o).toNat ls st' μ) (fun st' μ' => nat (nx ls st' μ')) Q mk e.2.2.1 e.2.2.2.1 st μ
theorem zQ0_mono {K K' : zM → Prop} (h : ∀ μ, K μ → K' μ) (v : Option zV) (μ : zM) : zQ0 K v μ → zQ0 K' v μ := by
  unfold zQ0; split <;> first | exact h _ | exact id
theorem zQ1_mono {K K' : Int → zM → Prop} (h : ∀ x μ, K x μ → K' x μ) (v : Option zV) (μ : zM) : zQ1 K v μ → zQ1 K' v μ := by
  unfold zQ1; split <;> first | exact h _ _ | exact id
theorem zQ4_mono {t : Nat} {K K' : Nat → zM → Prop} (h : ∀ x μ, K x μ → K' x μ) (v : Option zV) (μ : zM) : zQ4 t K v μ → zQ4 t K' v μ := by
  unfold zQ4; split
  · split <;> first | exact h _ _ | exact id
  · exact id
theorem zQm_mono {f : Nat} {nx nx' : List zV → zM → Prop} (h : ∀ v μ, nx v μ → nx' v μ) (v : Option zV) (μ : zM) : zQm f nx v μ → zQm f nx' v μ := by
  unfold zQm
  generalize zmk f = k
  rcases k with _ | _ | _ | _ | _ | k
  · exact zQ0_mono (h _) v μ
  · exact zQ1_mono (fun _ => h _) v μ
  · exact zQ1_mono (fun _ => h _) v μ
  · exact id
  · exact zQ4_mono (fun _ => h _) v μ
  · exact id
theorem zswt_mono {go go' : Int → Prop} (h : ∀ o, go o → go' o) (x : Int) : ∀ (os : List Int) (j : Int), zswt go x j os → zswt go' x j os
  | [], _, _ => trivial
  | _ :: r, j, q => ⟨fun e => h _ (q.1 e), zswt_mono h x r (j + 1) q.2⟩
theorem zlks_mono {go go' : Int → Prop} (h : ∀ o, go o → go' o) (x d : Int) : ∀ (ps : List (Int × Int)), zlks go x d ps → zlks go' x d ps
  | [], q => h _ q
  | _ :: r, q => ⟨fun e => h _ (q.1 e), fun e => zlks_mono h x d r (q.2 e)⟩
theorem zox_mono {go go' : Int → List zV → Prop} {nx nx' : List zV → zM → Prop} {Q Q' : zQ} (h1 : ∀ o st, go o st → go' o st) (h2 : ∀ st μ, nx st μ → nx' st μ) (h3 : ∀ v μ, Q v μ → Q' v μ) (mk : Nat) (i : Instr) (a : Nat) (st : List zV) (μ : zM) :
    zox zak zal go nx Q mk i a st μ → zox zak zal go' nx' Q' mk i a st μ := by
  unfold zox
  split
  · exact h1 _ _
  · split
    · exact h1 _ _
    · exact id
  · split
    · exact fun q => ⟨fun e => h1 _ _ (q.1 e), zswt_mono (fun o => h1 o _) _ _ _ q.2⟩
    · exact id
  · split
    · exact zlks_mono (fun o => h1 o _) _ _ _
    · exact id
  · split
    · split
      · exact h3 _ _
      · exact id
    · exact id
  · split
    · split
      · exact h3 _ _
      · exact fun q => ⟨q.1, h3 _ _ q.2⟩
      · exact id
    · exact id
  · split
    · split
      · exact h3 _ _
      · exact id
    · exact id
  · split
    · split
      · split
        · split
          · exact fun q => ⟨q.1, h2 _ _ q.2⟩
          · exact id
        · exact id
      · exact id
    · split
      · split <;> first | exact h2 _ _ | exact id
      · exact id
    · split
      · split <;> first | exact h2 _ _ | exact id
      · exact id
    · split
      · split <;> first | exact h2 _ _ | exact id
      · exact id
    · exact id
  · exact id
theorem zst_mono {go go' : Nat → zP} {nx nx' : zP} {call call' : Nat → List zV → zM → zQ → Prop} {nat nat' : Prop → Prop} {Q Q' : zQ} (h1 : ∀ pc ls st μ, go pc ls st μ → go' pc ls st μ) (h2 : ∀ ls st μ, nx ls st μ → nx' ls st μ)
    (h3 : ∀ f as μ K K', (∀ v μ, K v μ → K' v μ) → call f as μ K → call' f as μ K') (h4 : ∀ a b : Prop, (a → b) → nat a → nat' b) (h5 : ∀ v μ, Q v μ → Q' v μ) (mk : Nat) (Γ : zG) (e : zE) (ls : List (Option zV)) (st : List zV) (μ : zM) :
    zst go nx call nat Q mk Γ e ls st μ → zst go' nx' call' nat' Q' mk Γ e ls st μ := by
  unfold zst
  split
  · exact h2 _ _ _
  · exact fun q => ⟨q.1, h2 _ _ _ q.2⟩
  · split
    · exact fun q => ⟨fun c => h1 _ _ _ _ (q.1 c), fun c => h2 _ _ _ (q.2 c)⟩
    · split
      · exact h3 _ _ _ _ _ (zQm_mono fun v μ => h2 _ _ _)
      · exact zox_mono (fun o st => h1 _ _ _ _) (fun st μ => h4 _ _ (h2 _ _ _)) h5 _ _ _ _ _
abbrev zX : Type := zG → Nat → Nat → List zE → List (Option zV) → List zV → zM → zQ → Prop
/-- one step of X: jumps, what comes next, calls (one frame less; no script) -/
def zcall (X : zX) (d : Nat) (f : Nat) (as : List zV) (μ : zM) (K : zQ) : Prop := match d with
  | 0 => False
  | d' + 1 => match Nat.ble (zexp as).length (zml f) with
    | true => X none d' f (zcode f) (zpad (zml f) (zexp as)) [] μ K
    | false => False
theorem zcall_mo' {X X' : zX} {d f : Nat} {as : List zV} {μ : zM} {K K' : zQ} (h : ∀ d', d = d' + 1 → X none d' f (zcode f) (zpad (zml f) (zexp as)) [] μ K → X' none d' f (zcode f) (zpad (zml f) (zexp as)) [] μ K') : zcall X d f as μ K → zcall X' d f as μ K' := by
  unfold zcall
  cases d with
  | zero => exact id
  | succ d' =>
    dsimp only
    cases Nat.ble (zexp as).length (zml f) with
    | false => exact id
    | true => exact h d' rfl
def znat (d : Nat) (p : Prop) : Prop := match d with
  | 0 => False
  | _ + 1 => p
def zstep (X : zX) (Γ : zG) (d m : Nat) (e : zE) (r : List zE) (ls : List (Option zV)) (st : List zV) (μ : zM) (Q : zQ) : Prop :=
  zst (fun pc ls st μ => X Γ d m (zsf m pc) ls st μ Q) (fun ls st μ => X Γ d m r ls st μ Q) (zcall X d) (znat d) Q (zmk m) Γ e ls st μ
def zMo (X : zX) : Prop := ∀ Γ d m es ls st μ Q Q', (∀ v μ, Q v μ → Q' v μ) → X Γ d m es ls st μ Q → X Γ d m es ls st μ Q'
def zCl (X : zX) : Prop := ∀ Γ d m e r ls st μ Q, zstep X Γ d m e r ls st μ Q → X Γ d m (e :: r) ls st μ Q
def zMk (X : zX) : Prop := ∀ Γ d m es b ls st μ Q, X Γ d m es (zmask b ls) st μ Q → X Γ d m es ls st μ Q
/-- the least one: it comes to its end, with Q -/
def zW : zX := fun Γ d m es ls st μ Q => ∀ X : zX, zMo X → zCl X → zMk X → X Γ d m es ls st μ Q
theorem zW_mo : zMo zW := fun _ _ _ _ _ _ _ _ _ h w X hm hc hk => hm _ _ _ _ _ _ _ _ _ h (w X hm hc hk)
theorem zW_mk : zMk zW := fun _ _ _ _ _ _ _ _ _ w X hm hc hk => hk _ _ _ _ _ _ _ _ _ (w X hm hc hk)
theorem znat_mo (d : Nat) (a b : Prop) (h : a → b) : znat d a → znat d b := by
  cases d
  · exact id
  · exact h
theorem zW_cl : zCl zW := by
  intro Γ d m e r ls st μ Q h X hm hc hk
  refine hc _ _ _ _ _ _ _ _ _ (zst_mono (fun _ _ _ _ w => w X hm hc hk) (fun _ _ _ w => w X hm hc hk) ?_ (znat_mo d) (fun _ _ q => q) _ _ _ _ _ _ h)
  intro f as μ K K' hK
  exact zcall_mo' fun d' _ w => hm _ _ _ _ _ _ _ _ _ hK (w X hm hc hk)
/-- more depth does no harm -/
theorem zW_up : ∀ Γ d m es ls st μ Q, zW Γ d m es ls st μ Q → ∀ k, zW Γ (d + k) m es ls st μ Q := by
  intro Γ d m es ls st μ Q w
  refine w (fun Γ d m es ls st μ Q => ∀ k, zW Γ (d + k) m es ls st μ Q) ?_ ?_ (fun _ _ _ _ _ _ _ _ _ q k => zW_mk _ _ _ _ _ _ _ _ _ (q k))
  · exact fun _ _ _ _ _ _ _ _ _ h q k => zW_mo _ _ _ _ _ _ _ _ _ h (q k)
  · intro Γ d m e r ls st μ Q h k
    refine zW_cl _ _ _ _ _ _ _ _ _ (zst_mono (fun _ _ _ _ w => w k) (fun _ _ _ w => w k) ?_ ?_ (fun _ _ q => q) _ _ _ _ _ _ h)
    · intro f as μ K K' hK w
      cases d with
      | zero => exact w.elim
      | succ d =>
        rw [show d + 1 + k = (d + k) + 1 by omega]
        unfold zcall at w ⊢
        dsimp only at w ⊢
        cases hb : Nat.ble (zexp as).length (zml f) with
        | false => rw [hb] at w; exact w
        | true => rw [hb] at w; exact zW_mo _ _ _ _ _ _ _ _ _ hK (w k)
    · intro a b hab q
      cases d with
      | zero => exact q.elim
      | succ d =>
        rw [show d + 1 + k = (d + k) + 1 by omega]
        exact hab q
/-! the way from here to the next heads, ends and calls, computed -/
def zmem : Nat → List (Nat × List Bool) → Option (List Bool)
  | _, [] => none
  | x, a :: l => match Nat.beq x a.1 with
    | true => some a.2
    | false => zmem x l
def zvg (hs : List (Nat × List Bool)) (Γ : zG) (d m : Nat) (Q : zQ) : Nat → List zE → zP
  | 0, es, ls, st, μ => zW Γ d m es ls st μ Q
  | n + 1, [], _, _, _ => False
  | n + 1, e :: r, ls, st, μ => match zmem e.1 hs with
    | some b => zW Γ d m (e :: r) (zmask b ls) st μ Q
    | none => zst (fun pc ls st μ => zvg hs Γ d m Q n (zsf m pc) ls st μ) (fun ls st μ => zvg hs Γ d m Q n r ls st μ) (zcall zW d) (znat d) Q (zmk m) Γ e ls st μ
def zv1 (hs : List (Nat × List Bool)) (Γ : zG) (d m : Nat) (Q : zQ) (n : Nat) (es : List zE) : zP := fun ls st μ => match es with
  | [] => False
  | e :: r => zst (fun pc ls st μ => zvg hs Γ d m Q n (zsf m pc) ls st μ) (fun ls st μ => zvg hs Γ d m Q n r ls st μ) (zcall zW d) (znat d) Q (zmk m) Γ e ls st μ
theorem zcall_mo (d f : Nat) (as : List zV) (μ : zM) (K K' : zQ) (hK : ∀ v μ, K v μ → K' v μ) : zcall zW d f as μ K → zcall zW d f as μ K' := zcall_mo' fun _ _ => zW_mo _ _ _ _ _ _ _ _ _ hK
theorem zvg_ok (hs : List (Nat × List Bool)) (Γ : zG) (d m : Nat) (Q : zQ) : ∀ (n : Nat) (es : List zE) (ls : List (Option zV)) (st : List zV) (μ : zM), zvg hs Γ d m Q n es ls st μ → zW Γ d m es ls st μ Q
  | 0, _, _, _, _, h => h
  | n + 1, [], _, _, _, h => h.elim
  | n + 1, e :: r, ls, st, μ, h => by
    unfold zvg at h
    split at h
    · exact zW_mk _ _ _ _ _ _ _ _ _ h
    · exact zW_cl _ _ _ _ _ _ _ _ _ (zst_mono (fun _ _ _ _ w => zvg_ok hs Γ d m Q n _ _ _ _ w) (fun _ _ _ w => zvg_ok hs Γ d m Q n _ _ _ _ w) (zcall_mo d) (znat_mo d) (fun _ _ q => q) _ _ _ _ _ _ h)
theorem zgo {Γ : zG} {d m : Nat} {Q : zQ} {es : List zE} {ls : List (Option zV)} {st : List zV} {μ : zM} (hs : List (Nat × List Bool)) (n : Nat) (h : zv1 hs Γ d m Q n es ls st μ) : zW Γ d m es ls st μ Q := by
  cases es with
  | nil => exact h.elim
  | cons e r => exact zW_cl _ _ _ _ _ _ _ _ _ (zst_mono (fun _ _ _ _ w => zvg_ok hs Γ d m Q n _ _ _ _ w) (fun _ _ _ w => zvg_ok hs Γ d m Q n _ _ _ _ w) (zcall_mo d) (znat_mo d) (fun _ _ q => q) _ _ _ _ _ _ h)
/-- at a place of a method -/
abbrev zJ (d m pc : Nat) (ls : List (Option zV)) (μ : zM) (Q : zQ) : Prop := zW none d m (zsf m pc) ls [] μ Q
/-- calls: of nothing, of a number, of a reference -/
abbrev zC0 (d f : Nat) (as : List zV) (μ : zM) (K : zM → Prop) : Prop := zW none d f (zcode f) (zpad (zml f) (zexp as)) [] μ (zQ0 K)
abbrev zC1 (d f : Nat) (as : List zV) (μ : zM) (K : Int → zM → Prop) : Prop := zW none d f (zcode f) (zpad (zml f) (zexp as)) [] μ (zQ1 K)
abbrev zC4 (d f : Nat) (as : List zV) (μ : zM) (t : Nat) (K : Nat → zM → Prop) : Prop := zW none d f (zcode f) (zpad (zml f) (zexp as)) [] μ (zQ4 t K)
/-! a try -/
theorem zt_at (d j : Nat) (i : Int) (μ : zM) (K : Int → zM → Prop) (h : (i < 0 → K 0 μ) ∧ (¬ i < 0 → (i ≥ 6 → K 0 μ) ∧ (¬ i ≥ 6 → (0 ≤ i ∧ i < 6) ∧ K (μ 10 j i.toNat) μ))) : zC1 d m_X9_at [zR 10 j, zI i] μ K := zgo [] 200 h
theorem zt_barsOf (d j : Nat) (i : Int) (μ : zM) (K : Int → zM → Prop) (h : zC1 d m_X9_at [zR 10 j, zI i] μ K) : zC1 (d + 1) m_X1_barsOf [zR 3 j, zI i] μ K := zgo [] 200 h
end
section
/-! SOUNDNESS: what the abstract machine does, the machine does -/
def zvl (ad : Nat → Nat → Nat) : zV → Value
  | .inl a => .int (Int32.ofInt a)
  | .inr (.inl a) => .long (Int64.ofInt a)
  | .inr (.inr q) => .ref (ad q.1 q.2)
def zvk (Γ : zG) : zV → Prop
  | .inl a => zin a
  | .inr (.inl a) => zinL a
  | .inr (.inr q) => q.2 < zcn q.1 ∨ (q.1 = 0 ∧ q.2 = 0 ∧ Γ.isSome = true)
def zsk (t k : Nat) : Nat := match zak t with
  | 0 => zfk t k
  | 1 => 1
  | 2 => 2
  | _ => 0
/-- the memory holds what fits -/
def zmo (μ : zM) : Prop := ∀ t i k, (zsk t k = 1 → zin (μ t i k)) ∧ (zsk t k = 2 → μ t i k = 0 ∨ μ t i k = 1) ∧ (zsk t k = 3 → zinL (μ t i k))
def zsl (ad : Nat → Nat → Nat) (μ : zM) (t i k : Nat) : Value := match zfk t k with
  | 3 => .long (Int64.ofInt (μ t i k))
  | 4 => .ref (ad (zrt t i k).1 (zrt t i k).2)
  | _ => .int (Int32.ofInt (μ t i k))
def zcl (ad : Nat → Nat → Nat) (tyI tyZ tyL : ClassId) (μ : zM) (q : Nat × Nat) : va_E := match zak q.1 with
  | 1 => .inl (tyI, zal q.1, .inl (fun k => Int32.ofInt (μ q.1 q.2 k)))
  | 2 => .inl (tyZ, zal q.1, .inl (fun k => Int32.ofInt (μ q.1 q.2 k)))
  | 3 => .inl (tyL, zal q.1, .inr (.inr (.inr (.inr (fun k => some (ad (zrt q.1 q.2 k).1 (zrt q.1 q.2 k).2))))))
  | _ => .inr (zci q.1, (List.range (zTN q.1)).map (zsl ad μ q.1 q.2))
def zwd (ad : Nat → Nat → Nat) (tyI tyZ tyL : ClassId) (μ : zM) : va_W := zob.map fun q => (ad q.1 q.2, zcl ad tyI tyZ tyL μ q)
abbrev zts (tyI tyZ tyL : ClassId) : List (ClassId × FieldType) := [(tyI, .int), (tyZ, .boolean), (tyL, .object "MusicWalls$Life")]
theorem zmapset {α β : Type} {l : List α} (hn : l.Nodup) {k : Nat} {x : α} (hk : l[k]? = some x) {f g : α → β} (h : ∀ y ∈ l, y ≠ x → g y = f y) : (l.map f).set k (g x) = l.map g := by
  have hlt := (List.getElem?_eq_some_iff.mp hk).1
  apply List.ext_getElem?
  intro j
  rw [List.getElem?_set, List.getElem?_map, List.getElem?_map]
  by_cases hj : k = j
  · subst hj
    rw [if_pos rfl, if_pos (by simpa using hlt), hk]
    rfl
  · rw [if_neg hj]
    cases hl : l[j]? with
    | none => rfl
    | some y =>
      show some (f y) = some (g y)
      rw [h y (List.mem_of_getElem? hl) (fun e => hj ((List.getElem?_inj hlt hn).mp (by rw [hk, hl, e])))]
/-- where an object stands -/
theorem zat_wd {ad : Nat → Nat → Nat} {tyI tyZ tyL : ClassId} {μ : zM} {t i : Nat} (h : i < zcn t) : ∃ k : Nat, zob[k]? = some (t, i) ∧ (zwd ad tyI tyZ tyL μ)[k]? = some (ad t i, zcl ad tyI tyZ tyL μ (t, i)) := by
  obtain ⟨k, hk⟩ := List.getElem?_of_mem (zob_mem h)
  exact ⟨k, hk, by unfold zwd; rw [List.getElem?_map, hk]; rfl⟩
theorem zcl_set {ad : Nat → Nat → Nat} {tyI tyZ tyL : ClassId} {μ : zM} {t i k : Nat} {v : Int} {y : Nat × Nat} (h : y ≠ (t, i)) : zcl ad tyI tyZ tyL (zset μ t i k v) y = zcl ad tyI tyZ tyL μ y := by
  obtain ⟨u, j⟩ := y
  have e : ∀ n, zset μ t i k v u j n = μ u j n := fun n => by
    unfold zset
    rw [if_neg]
    rintro ⟨rfl, rfl, -⟩
    exact h rfl
  have e2 : zsl ad (zset μ t i k v) u j = zsl ad μ u j := by
    funext n
    unfold zsl
    rw [e]
  unfold zcl
  simp only [e, e2]
theorem zwd_set {ad : Nat → Nat → Nat} {tyI tyZ tyL : ClassId} {μ : zM} {t i k n : Nat} {v : Int} (hk : zob[n]? = some (t, i)) : (zwd ad tyI tyZ tyL μ).set n (ad t i, zcl ad tyI tyZ tyL (zset μ t i k v) (t, i)) = zwd ad tyI tyZ tyL (zset μ t i k v) := by
  unfold zwd
  exact zmapset (g := fun q => (ad q.1 q.2, zcl ad tyI tyZ tyL (zset μ t i k v) q)) zob_nd hk (fun y _ hy => by rw [zcl_set hy])
theorem zcl_cpy {ad : Nat → Nat → Nat} {tyI tyZ tyL : ClassId} {μ : zM} {t i sp u j dp n : Nat} {y : Nat × Nat} (h : y ≠ (u, j)) : zcl ad tyI tyZ tyL (zcpy μ t i sp u j dp n) y = zcl ad tyI tyZ tyL μ y := by
  obtain ⟨u', j'⟩ := y
  have e : ∀ x, zcpy μ t i sp u j dp n u' j' x = μ u' j' x := fun x => by
    unfold zcpy
    rw [if_neg]
    rintro ⟨rfl, rfl, -⟩
    exact h rfl
  have e2 : zsl ad (zcpy μ t i sp u j dp n) u' j' = zsl ad μ u' j' := by
    funext x
    unfold zsl
    rw [e]
  unfold zcl
  simp only [e, e2]
theorem zwd_cpy {ad : Nat → Nat → Nat} {tyI tyZ tyL : ClassId} {μ : zM} {t i sp u j dp n x : Nat} (hk : zob[x]? = some (u, j)) : (zwd ad tyI tyZ tyL μ).set x (ad u j, zcl ad tyI tyZ tyL (zcpy μ t i sp u j dp n) (u, j)) = zwd ad tyI tyZ tyL (zcpy μ t i sp u j dp n) := by
  unfold zwd
  exact zmapset (g := fun q => (ad q.1 q.2, zcl ad tyI tyZ tyL (zcpy μ t i sp u j dp n) q)) zob_nd hk (fun y _ hy => by rw [zcl_cpy hy])
theorem zset_self (μ : zM) (t i k : Nat) (v : Int) : zset μ t i k v t i k = v := by simp [zset]
theorem zmo_set {μ : zM} {t i k : Nat} {v : Int} (h : zmo μ) (h1 : zsk t k = 1 → zin v) (h2 : zsk t k = 2 → v = 0 ∨ v = 1) (h3 : zsk t k = 3 → zinL v) : zmo (zset μ t i k v) := by
  intro u j n
  unfold zset
  by_cases e : u = t ∧ j = i ∧ n = k
  · obtain ⟨rfl, rfl, rfl⟩ := e
    simp only [and_self, if_true]
    exact ⟨h1, h2, h3⟩
  · rw [if_neg e]
    exact h u j n
/-! locals -/
theorem znth_put {α : Type} : ∀ (l : List (Option α)) (k i : Nat) (x : Option α), znth (zput l k x) i = if i = k ∧ k < l.length then x else znth l i
  | [], k, i, x => by cases i <;> simp [zput, znth]
  | a :: l, 0, 0, x => by simp [zput, znth]
  | a :: l, 0, i + 1, x => by simp [zput, znth]
  | a :: l, k + 1, 0, x => by simp [zput, znth]
  | a :: l, k + 1, i + 1, x => by
    have := znth_put l k i x
    simp only [zput, znth, this, List.length_cons]
    by_cases h : i = k ∧ k < l.length
    · rw [if_pos h, if_pos ⟨by omega, by omega⟩]
    · rw [if_neg h, if_neg (by omega)]
theorem zput_len {α : Type} : ∀ (l : List α) (k : Nat) (x : α), (zput l k x).length = l.length
  | [], _, _ => rfl
  | _ :: _, 0, _ => rfl
  | _ :: l, k + 1, x => by simp [zput, zput_len l k x]
theorem zkl_len : ∀ (l : List (Option zV)) (k : Nat), (zkl l k).length = l.length
  | [], _ => rfl
  | _ :: _, 0 => rfl
  | _ :: _, 1 => rfl
  | _ :: l, k + 2 => by simp [zkl, zkl_len l (k + 1)]
theorem znth_kl : ∀ (l : List (Option zV)) (k i : Nat) (u : zV), znth (zkl l k) i = some u → znth l i = some u ∧ ¬ (i + 1 = k ∧ ∃ a, u = zL a)
  | [], _, _, _, h => by cases h
  | a :: l, 0, i, u, h => ⟨h, by omega⟩
  | a :: l, 1, 0, u, h => by
    unfold zkl znth at h
    split at h
    · cases h
    · next x hx =>
      refine ⟨h, ?_⟩
      rintro ⟨-, b, rfl⟩
      exact hx b h
  | a :: l, 1, i + 1, u, h => ⟨h, by omega⟩
  | a :: l, k + 2, 0, u, h => ⟨h, by omega⟩
  | a :: l, k + 2, i + 1, u, h => by
    have := znth_kl l (k + 1) i u h
    exact ⟨this.1, fun q => this.2 ⟨by omega, q.2⟩⟩
theorem zmask_len : ∀ (b : List Bool) (l : List (Option zV)), (zmask b l).length = l.length
  | true :: b, _ :: l => by simp [zmask, zmask_len b l]
  | false :: b, _ :: l => by simp [zmask, zmask_len b l]
  | [], _ => by simp [zmask]
  | true :: _, [] => rfl
  | false :: _, [] => rfl
theorem znth_mask : ∀ (b : List Bool) (l : List (Option zV)) (i : Nat) (u : zV), znth (zmask b l) i = some u → znth l i = some u
  | true :: b, _ :: l, 0, u, h => h
  | true :: b, _ :: l, i + 1, u, h => znth_mask b l i u h
  | false :: b, _ :: l, 0, u, h => by cases h
  | false :: b, _ :: l, i + 1, u, h => znth_mask b l i u h
  | [], _, _, _, h => by simpa [zmask] using h
  | true :: _, [], _, _, h => by cases h
  | false :: _, [], _, _, h => by cases h
def zll (ad : Nat → Nat → Nat) : Nat → List (Option zV) → List (Nat × Value)
  | _, [] => []
  | n, some v :: r => (n, zvl ad v) :: zll ad (n + 1) r
  | n, none :: r => zll ad (n + 1) r
theorem zll_in (ad : Nat → Nat → Nat) : ∀ (ls : List (Option zV)) (n j : Nat) (w : zV), znth ls j = some w → (n + j, zvl ad w) ∈ zll ad n ls
  | [], _, _, _, h => by cases h
  | some v :: r, n, 0, w, h => by
    have e : v = w := Option.some.inj h
    subst e
    exact List.mem_cons_self
  | none :: r, n, 0, w, h => by cases h
  | some v :: r, n, j + 1, w, h => by
    have := zll_in ad r (n + 1) j w h
    rw [show n + 1 + j = n + (j + 1) by omega] at this
    exact List.mem_cons_of_mem _ this
  | none :: r, n, j + 1, w, h => by
    have := zll_in ad r (n + 1) j w h
    rw [show n + 1 + j = n + (j + 1) by omega] at this
    exact this
theorem zll_of (ad : Nat → Nat → Nat) : ∀ (ls : List (Option zV)) (n : Nat) (q : Nat × Value), q ∈ zll ad n ls → ∃ j w, znth ls j = some w ∧ q = (n + j, zvl ad w)
  | [], _, _, h => by cases h
  | some v :: r, n, q, h => by
    rcases List.mem_cons.mp h with rfl | h
    · exact ⟨0, v, rfl, rfl⟩
    · obtain ⟨j, w, h1, rfl⟩ := zll_of ad r (n + 1) q h
      exact ⟨j + 1, w, h1, by rw [show n + 1 + j = n + (j + 1) by omega]⟩
  | none :: r, n, q, h => by
    obtain ⟨j, w, h1, rfl⟩ := zll_of ad r (n + 1) q h
    exact ⟨j + 1, w, h1, by rw [show n + 1 + j = n + (j + 1) by omega]⟩
def zLo (ad : Nat → Nat → Nat) (nL : Nat) (lsM : Array Slot) (ls : List (Option zV)) : Prop := ls.length = nL ∧ lv_has lsM nL (zll ad 0 ls)
theorem zLo_at {ad : Nat → Nat → Nat} {nL : Nat} {lsM : Array Slot} {ls : List (Option zV)} (h : zLo ad nL lsM ls) {j : Nat} {w : zV} (hj : znth ls j = some w) : lsM[j]? = some (.val (zvl ad w)) := by
  have := h.2.2.2 _ (zll_in ad ls 0 j w hj)
  simpa using this
theorem zLo_sub {ad : Nat → Nat → Nat} {nL : Nat} {lsM : Array Slot} {ls ls' : List (Option zV)} (h : zLo ad nL lsM ls) (hn : ls'.length = nL) (hs : ∀ i u, znth ls' i = some u → znth ls i = some u) : zLo ad nL lsM ls' := by
  refine ⟨hn, h.2.1, h.2.2.1, fun q hq => ?_⟩
  obtain ⟨j, w, h1, rfl⟩ := zll_of ad ls' 0 q hq
  have := zLo_at h (hs j w h1)
  simpa using this
theorem zvl_cat (ad : Nat → Nat → Nat) (w : zV) : (zvl ad w).category = zcat w := by
  rcases w with a | a | q <;> rfl
theorem zLo_put {ad : Nat → Nat → Nat} {nL k : Nat} {lsM : Array Slot} {ls : List (Option zV)} {w : zV} (hn : ls.length = nL) (h : lv_has lsM nL ((k, zvl ad w) :: (zll ad 0 ls).filter (fun q => !(q.1 == k) && !(q.1 + 1 == k && q.2.category == 2)))) : zLo ad nL lsM (zput (zkl ls k) k (some w)) := by
  refine ⟨by rw [zput_len, zkl_len, hn], h.1, h.2.1, fun q hq => ?_⟩
  obtain ⟨j, u, h1, rfl⟩ := zll_of ad _ 0 q hq
  rw [znth_put] at h1
  split at h1
  · next e =>
    have e1 := Option.some.inj h1
    subst e1
    rw [e.1]
    have := h.2.2 _ List.mem_cons_self
    simpa using this
  · next e =>
    obtain ⟨h2, h3⟩ := znth_kl ls k j u h1
    have hjk : j ≠ k := by
      intro ejk
      apply e
      refine ⟨ejk, ?_⟩
      rw [zkl_len]
      rcases Nat.lt_or_ge k ls.length with q | q
      · exact q
      · exfalso
        have hz : ∀ (l : List (Option zV)) (x : Nat), l.length ≤ x → znth l x = none := by
          intro l
          induction l with
          | nil => intro x _; rfl
          | cons a l ih => intro x hx; cases x with
            | zero => simp at hx
            | succ x => exact ih x (by simpa using hx)
        rw [hz ls j (by omega)] at h2
        cases h2
    refine h.2.2 _ (List.mem_cons_of_mem _ (List.mem_filter.mpr ⟨zll_in ad ls 0 j u h2, ?_⟩))
    simp only [Nat.zero_add, zvl_cat]
    have e1 : (j == k) = false := by simpa using hjk
    rw [e1]
    by_cases e2 : j + 1 = k
    · have e3 : zcat u ≠ 2 := by
        intro e3
        apply h3
        refine ⟨e2, ?_⟩
        rcases u with a | a | q
        · simp [zcat] at e3
        · exact ⟨a, rfl⟩
        · simp [zcat] at e3
      have e4 : (zcat u == 2) = false := by simpa using e3
      rw [e4]; simp
    · have e4 : (j + 1 == k) = false := by simpa using e2
      rw [e4]; simp
theorem zLo_put2 {ad : Nat → Nat → Nat} {nL k : Nat} {lsM : Array Slot} {ls : List (Option zV)} {w : Int} (hn : ls.length = nL) (hk : k + 1 < nL) (h : lv_has lsM nL ((k, zvl ad (zL w)) :: (zll ad 0 ls).filter (fun q => !(q.1 == k) && (!(q.1 == k + 1) && !(q.1 + 1 == k && q.2.category == 2))))) : zLo ad nL lsM (zput (zput (zkl ls k) k (some (zL w))) (k + 1) none) := by
  refine ⟨by rw [zput_len, zput_len, zkl_len, hn], h.1, h.2.1, fun q hq => ?_⟩
  obtain ⟨j, u, h1, rfl⟩ := zll_of ad _ 0 q hq
  rw [znth_put, zput_len, zkl_len] at h1
  split at h1
  · cases h1
  · next e0 =>
    rw [znth_put, zkl_len] at h1
    split at h1
    · next e =>
      have e1 := Option.some.inj h1
      subst e1
      rw [e.1]
      have := h.2.2 _ List.mem_cons_self
      simpa using this
    · next e =>
      obtain ⟨h2, h3⟩ := znth_kl ls k j u h1
      refine h.2.2 _ (List.mem_cons_of_mem _ (List.mem_filter.mpr ⟨zll_in ad ls 0 j u h2, ?_⟩))
      simp only [Nat.zero_add, zvl_cat]
      have e1 : (j == k) = false := by
        have : j ≠ k := fun q => e ⟨q, by omega⟩
        simpa using this
      have e5 : (j == k + 1) = false := by
        have : j ≠ k + 1 := fun q => e0 ⟨q, by omega⟩
        simpa using this
      rw [e1, e5]
      by_cases e2 : j + 1 = k
      · have e3 : zcat u ≠ 2 := by
          intro e3
          apply h3
          refine ⟨e2, ?_⟩
          rcases u with a | a | q
          · simp [zcat] at e3
          · exact ⟨a, rfl⟩
          · simp [zcat] at e3
        have e4 : (zcat u == 2) = false := by simpa using e3
        rw [e4]; simp
      · have e4 : (j + 1 == k) = false := by simpa using e2
        rw [e4]; simp
end
section
/-! SOUNDNESS of the single steps -/
def zso (Γ : zG) (st : List zV) : Prop := ∀ v ∈ st, zvk Γ v
def zlo (Γ : zG) (ls : List (Option zV)) : Prop := ∀ i v, znth ls i = some v → zvk Γ v
theorem zso_c {Γ : zG} {v : zV} {st : List zV} (h : zvk Γ v) (hs : zso Γ st) : zso Γ (v :: st) := by
  intro w hw
  rcases List.mem_cons.mp hw with rfl | hw
  · exact h
  · exact hs w hw
theorem zso_t {Γ : zG} {v : zV} {st : List zV} (hs : zso Γ (v :: st)) : zso Γ st := fun w hw => hs w (List.mem_cons_of_mem _ hw)
theorem zso_h {Γ : zG} {v : zV} {st : List zV} (hs : zso Γ (v :: st)) : zvk Γ v := hs v List.mem_cons_self
theorem zlo_put {Γ : zG} {ls : List (Option zV)} {k : Nat} {v : zV} (h : zlo Γ ls) (hv : zvk Γ v) : zlo Γ (zput (zkl ls k) k (some v)) := by
  intro i u hu
  rw [znth_put] at hu
  split at hu
  · cases hu; exact hv
  · exact h i u (znth_kl ls k i u hu).1
theorem zlo_put2 {Γ : zG} {ls : List (Option zV)} {k : Nat} {v : zV} (h : zlo Γ ls) (hv : zvk Γ v) : zlo Γ (zput (zput (zkl ls k) k (some v)) (k + 1) none) := by
  intro i u hu
  rw [znth_put] at hu
  split at hu
  · cases hu
  · exact zlo_put h hv i u hu
theorem zld_iv {ls : List (Option zV)} {st : List zV} {μ : zM} {k : Nat} {q : zV → Bool} {o : zS} (h : zld ls st μ k q = some o) : ∃ v, znth ls k = some v ∧ q v = true ∧ o = (none, ls, v :: st, μ) := by
  unfold zld at h
  split at h
  · next v hv =>
    split at h
    · next hq => exact ⟨v, hv, hq, (Option.some.inj h).symm⟩
    · cases h
  · cases h
theorem zqi_iv {v : zV} (h : zqi v = true) : ∃ a, v = zI a := by
  rcases v with a | a | q
  · exact ⟨a, rfl⟩
  · cases h
  · cases h
theorem zql_iv {v : zV} (h : zql v = true) : ∃ a, v = zL a := by
  rcases v with a | a | q
  · cases h
  · exact ⟨a, rfl⟩
  · cases h
theorem zqr_iv {v : zV} (h : zqr v = true) : ∃ t i, v = zR t i := by
  rcases v with a | a | q
  · cases h
  · cases h
  · exact ⟨q.1, q.2, rfl⟩
theorem zsto_iv {ls : List (Option zV)} {st : List zV} {μ : zM} {k : Nat} {q : zV → Bool} {o : zS} (h : zsto ls st μ k q = some o) : ∃ v r, st = v :: r ∧ q v = true ∧ k < ls.length ∧ o = (none, zput (zkl ls k) k (some v), r, μ) := by
  unfold zsto at h
  split at h
  · next v r =>
    split at h
    · next hq =>
      rw [Bool.and_eq_true, decide_eq_true_eq] at hq
      exact ⟨v, r, rfl, hq.1, hq.2, (Option.some.inj h).symm⟩
    · cases h
  · cases h
theorem zstl_iv {ls : List (Option zV)} {st : List zV} {μ : zM} {k : Nat} {o : zS} (h : zstl ls st μ k = some o) : ∃ v r, st = zL v :: r ∧ k + 1 < ls.length ∧ o = (none, zput (zput (zkl ls k) k (some (zL v))) (k + 1) none, r, μ) := by
  unfold zstl at h
  split at h
  · next v r =>
    split at h
    · next hq => exact ⟨v, r, rfl, of_decide_eq_true hq, (Option.some.inj h).symm⟩
    · cases h
  · cases h
theorem zb1_iv {ls : List (Option zV)} {st : List zV} {μ : zM} {f : Int → Int → Int} {o : zS} (h : zb1 ls st μ f = some o) : ∃ x y r, st = zI y :: zI x :: r ∧ o = (none, ls, zI (f x y) :: r, μ) := by
  unfold zb1 at h
  split at h
  · exact ⟨_, _, _, rfl, (Option.some.inj h).symm⟩
  · cases h
theorem zbd_iv {ls : List (Option zV)} {st : List zV} {μ : zM} {f : Int → Int → Int} {o : zS} (h : zbd ls st μ f = some o) : ∃ x y r, st = zI y :: zI x :: r ∧ o = (some (y ≠ 0), ls, zI (f x y) :: r, μ) := by
  unfold zbd at h
  split at h
  · exact ⟨_, _, _, rfl, (Option.some.inj h).symm⟩
  · cases h
theorem zl1_iv {ls : List (Option zV)} {st : List zV} {μ : zM} {f : Int → Int → Int} {o : zS} (h : zl1 ls st μ f = some o) : ∃ x y r, st = zL y :: zL x :: r ∧ o = (none, ls, zL (f x y) :: r, μ) := by
  unfold zl1 at h
  split at h
  · exact ⟨_, _, _, rfl, (Option.some.inj h).symm⟩
  · cases h
theorem zldv_iv {ls : List (Option zV)} {st : List zV} {μ : zM} {f : Int → Int → Int} {o : zS} (h : zldv ls st μ f = some o) : ∃ x y r, st = zL y :: zL x :: r ∧ o = (some (y ≠ 0), ls, zL (f x y) :: r, μ) := by
  unfold zldv at h
  split at h
  · exact ⟨_, _, _, rfl, (Option.some.inj h).symm⟩
  · cases h
theorem zb1_rg {f : Int → Int → Int} (hf : ∀ x y, zin (f x y)) (Γ : zG) {x y : Int} {r : List zV} (hs : zso Γ (zI y :: zI x :: r)) : zso Γ (zI (f x y) :: r) := zso_c (hf x y) (zso_t (zso_t hs))
def zHp (s : State) (ad : Nat → Nat → Nat) (dC : Nat → ClassId) (dI : Nat → Nat → Nat) (tyI tyZ tyL : ClassId) (A : Nat → Prop) (μ : zM) (H : Heap) (locs : List Loc) : Prop :=
  va_P (dC, dI) vwCl (zwd ad tyI tyZ tyL μ) H ∧ va_D A (zwd ad tyI tyZ tyL μ) ∧ va_S A s.heap H locs ∧ zmo μ
def zGo (s : State) (ad : Nat → Nat → Nat) (A : Nat → Prop) (b : Nat) (Γ : zG) : Prop := match Γ with
  | none => True
  | some q => va_X b q.1 (fun k => Int32.ofInt (q.2 k)) s s.heap ∧ b < s.heap.size ∧ ¬ A b ∧ ad 0 0 = b ∧ q.1 < 2147483648 ∧ ∀ k, k < q.1 → zin (q.2 k)
def zCx (p : Program) (R : Room) (s : State) (mm : MethodId) (args : Array Value) (c : Code) (ad : Nat → Nat → Nat) (dC : Nat → ClassId) (dI : Nat → Nat → Nat) (tyI tyZ tyL : ClassId) (A : Nat → Prop) (b : Nat) (Γ : zG) (d m cells slots : Nat) : Prop :=
  (p.tables.exec = Jvm.exec ∧ c.code = zby m ∧ c.maxLocals = zml m ∧ s.vm.findClass (zy m).cls = some mm.cls) ∧ ((∀ w ∈ zlg, w.before args s = true) ∧ ∀ w ∈ zln, va_Nw w s) ∧ va_K (dC, dI) vwCl (zts tyI tyZ tyL) s ∧ (∀ q, s.heap.size ≤ q → A q) ∧ (d ≤ R.frames ∧ 36 * d ≤ R.locals ∧ cells ≤ R.cells ∧ slots ≤ R.slots) ∧ zEok m ∧ zGo s ad A b Γ
section
variable {p : Program} {l : Launch} {e : Env} {R : Room} {s : State} {mm : MethodId} {args : Array Value} {below : List Frame} {meth : Method} {c : Code}
variable {ad : Nat → Nat → Nat} {dC : Nat → ClassId} {dI : Nat → Nat → Nat} {tyI tyZ tyL : ClassId} {A : Nat → Prop} {b : Nat} {Γ : zG} {d m cells slots : Nat} {Qm : State → Prop}
/-- an object in the world: where it stands, what it is -/
theorem zob_at {μ : zM} {t i : Nat} (h : i < zcn t) (ho : zak t = 0) : ∃ k : Nat, zob[k]? = some (t, i) ∧ (zwd ad tyI tyZ tyL μ)[k]? = some (ad t i, .inr (zci t, (List.range (zTN t)).map (zsl ad μ t i))) := by
  obtain ⟨k, h1, h2⟩ := zat_wd (ad := ad) (tyI := tyI) (tyZ := tyZ) (tyL := tyL) (μ := μ) h
  refine ⟨k, h1, ?_⟩
  rw [h2]
  simp only [zcl, ho]
theorem zsl_set {μ : zM} {t i k n : Nat} {v : Int} : ((List.range n).map (zsl ad μ t i)).set k (zsl ad (zset μ t i k v) t i k) = (List.range n).map (zsl ad (zset μ t i k v) t i) := by
  apply List.ext_getElem?
  intro j
  rw [List.getElem?_set, List.getElem?_map, List.getElem?_map]
  by_cases hj : k = j
  · subst hj
    rw [if_pos rfl]
    simp only [List.length_map, List.length_range]
    by_cases hk : k < n
    · rw [if_pos hk, List.getElem?_range hk]; rfl
    · rw [if_neg hk, List.getElem?_eq_none (by simpa using Nat.le_of_not_lt hk)]; rfl
  · rw [if_neg hj]
    cases hl : (List.range n)[j]? with
    | none => rfl
    | some y =>
      have hy : y = j := by
        obtain ⟨h1, h2⟩ := List.getElem?_eq_some_iff.mp hl
        simp at h2; exact h2.symm
      show some _ = some _
      have e : zset μ t i k v t i y = μ t i y := by
        unfold zset
        rw [if_neg]
        rintro ⟨-, -, q⟩
        exact hj (by omega)
      unfold zsl
      rw [e]
theorem zgf_iv {ls : List (Option zV)} {st : List zV} {μ : zM} {a b' : Nat} {o : zS} (h : zgf zfk zrt ls st μ a b' = some o) : ∃ i r v, st = zR a i :: r ∧ o = (none, ls, v :: r, μ) ∧ zfk a b' ≠ 0 ∧ ((zfk a b' = 1 ∧ v = zI (μ a i b')) ∨ (zfk a b' = 2 ∧ v = zI (μ a i b')) ∨ (zfk a b' = 3 ∧ v = zL (μ a i b')) ∨ (zfk a b' = 4 ∧ v = zR (zrt a i b').1 (zrt a i b').2)) := by
  unfold zgf at h
  split at h
  · next t i r =>
    split at h
    · next ht =>
      subst ht
      split at h
      · next hk => exact ⟨i, r, _, rfl, (Option.some.inj h).symm, by omega, Or.inl ⟨hk, rfl⟩⟩
      · next hk => exact ⟨i, r, _, rfl, (Option.some.inj h).symm, by omega, Or.inr (Or.inl ⟨hk, rfl⟩)⟩
      · next hk => exact ⟨i, r, _, rfl, (Option.some.inj h).symm, by omega, Or.inr (Or.inr (Or.inl ⟨hk, rfl⟩))⟩
      · next hk => exact ⟨i, r, _, rfl, (Option.some.inj h).symm, by omega, Or.inr (Or.inr (Or.inr ⟨hk, rfl⟩))⟩
      · cases h
    · cases h
  · cases h
theorem zpf_iv {ls : List (Option zV)} {st : List zV} {μ : zM} {a b' : Nat} {o : zS} (h : zpf zfk ls st μ a b' = some o) : ∃ i r x, (o.2 = (ls, r, zset μ a i b' x)) ∧ zfk a b' ≠ 0 ∧ ((zfk a b' = 1 ∧ st = zI x :: zR a i :: r) ∨ (zfk a b' = 2 ∧ st = zI x :: zR a i :: r ∧ o.1 = some (x = 0 ∨ x = 1)) ∨ (zfk a b' = 3 ∧ st = zL x :: zR a i :: r)) := by
  unfold zpf at h
  split at h
  · next v t i r =>
    split at h
    · next ht =>
      subst ht
      split at h
      · next hk => cases h; exact ⟨i, r, v, rfl, by omega, Or.inl ⟨hk, rfl⟩⟩
      · next hk => cases h; exact ⟨i, r, v, rfl, by omega, Or.inr (Or.inl ⟨hk, rfl, rfl⟩)⟩
      · cases h
    · cases h
  · next v t i r =>
    split at h
    · next ht =>
      subst ht
      split at h
      · next hk => cases h; exact ⟨i, r, v, rfl, by omega, Or.inr (Or.inr ⟨hk, rfl⟩)⟩
      · cases h
    · cases h
  · cases h
theorem zvk_of {t i : Nat} (h : zvk Γ (zR t i)) (ht : 0 < t) : i < zcn t := by
  rcases h with h | h
  · exact h
  · have := h.1; dsimp only at this; omega
theorem zmo_fk {μ : zM} (h : zmo μ) {t i k : Nat} (ho : zak t = 0) : (zfk t k = 1 → zin (μ t i k)) ∧ (zfk t k = 2 → zin (μ t i k)) ∧ (zfk t k = 3 → zinL (μ t i k)) := by
  have e : zsk t k = zfk t k := by unfold zsk; rw [ho]; rfl
  obtain ⟨h1, h2, h3⟩ := h t i k
  rw [e] at h1 h2 h3
  refine ⟨h1, fun q => ?_, h3⟩
  rcases h2 q with r | r <;> rw [r] <;> exact ⟨by omega, by omega⟩
theorem zfk_N28 {t k : Nat} (h : zfk t k ≠ 0) : t < 44 ∧ k < 28 := by
  have e : ∀ (l : List Nat) (n : Nat), l.length ≤ n → zgd l n 0 = 0 := by
    intro l
    induction l with
    | nil => intro n _; cases n <;> rfl
    | cons a l ih =>
      intro n hn
      cases n with
      | zero => simp at hn
      | succ n => exact ih n (by simpa using hn)
  have e2 : ∀ (l : List (List Nat)) (n : Nat), l.length ≤ n → zgd l n [] = [] := by
    intro l
    induction l with
    | nil => intro n _; cases n <;> rfl
    | cons a l ih =>
      intro n hn
      cases n with
      | zero => simp at hn
      | succ n => exact ih n (by simpa using hn)
  refine ⟨?_, ?_⟩
  · rcases Nat.lt_or_ge t 44 with q | q
    · exact q
    · exfalso; apply h
      unfold zfk
      rw [e2 zfkl t (Nat.le_trans (Nat.le_of_ble_eq_true rfl) q)]
      cases k <;> rfl
  · rcases Nat.lt_or_ge k 28 with q | q
    · exact q
    · exfalso; apply h
      unfold zfk
      apply e
      refine Nat.le_trans ?_ q
      have hm : ∀ x ∈ zfkl, x.length ≤ 28 := by decide +kernel
      rcases Nat.lt_or_ge t 44 with q2 | q2
      · have : ∀ (l : List (List Nat)) (n : Nat), (∀ x ∈ l, x.length ≤ 28) → (zgd l n []).length ≤ 28 := by
          intro l
          induction l with
          | nil => intro n _; cases n <;> simp [zgd]
          | cons a l ih =>
            intro n hn
            cases n with
            | zero => exact hn a List.mem_cons_self
            | succ n => exact ih n (fun x hx => hn x (List.mem_cons_of_mem _ hx))
        exact this zfkl t hm
      · rw [e2 zfkl t (Nat.le_trans (Nat.le_of_ble_eq_true rfl) q2)]
        simp

set_option maxHeartbeats 4000000 in
theorem zgf_ok (C : zCx p R s mm args c ad dC dI tyI tyZ tyL A b Γ d m cells slots) {ix a b' pc pos : Nat} {k : Int} {ls : List (Option zV)} {st : List zV} {μ : zM} {o : zS} (hdg : decode (zby m) pc = .ok (.getfield ix, 3)) (hlk : zlk (zy m).cls (pc, 3, .getfield ix, a, b', k) pos = true) (heq : zgf zfk zrt ls st μ a b' = some o)
    {H : Heap} {locs : List Loc} {lsM : Array Slot} (hh : zHp s ad dC dI tyI tyZ tyL A μ H locs) (hs : zso Γ st)
    (kk : zso Γ o.2.2.1 → o.2.1 = ls → o.2.2.2 = μ → W p l e R s mm args below meth c H locs cells slots Qm (F0 mm (pc + 3) lsM (o.2.2.1.map (zvl ad)))) : W p l e R s mm args below meth c H locs cells slots Qm (F0 mm pc lsM (st.map (zvl ad))) := by
  obtain ⟨⟨hx, hb, hml, hown⟩, ⟨hts, hnw⟩, hK, hA, hR, hE, hG⟩ := C
  obtain ⟨hP, hD, hS, hmo⟩ := hh
  obtain ⟨i, r, v, rfl, rfl, hne, hv⟩ := zgf_iv heq
  obtain ⟨ht44, hk28⟩ := zfk_N28 hne
  obtain ⟨ho, h0, h10⟩ := zfk_ob a ht44 b' hk28 hne
  have hi : i < zcn a := zvk_of (zso_h hs) h0
  obtain ⟨g1, g2, g3, g4, g5⟩ := zTg_all a h0 h10
  obtain ⟨q0, hq1, hq2⟩ := zob_at (ad := ad) (tyI := tyI) (tyZ := tyZ) (tyL := tyL) (μ := μ) hi ho
  simp only [zlk, Bool.and_eq_true, decide_eq_true_eq, Bool.or_eq_true] at hlk
  obtain ⟨hbN, hlk⟩ := hlk
  have hf := zmo_fk (i := i) (k := b') hmo ho
  have hvz : zvl ad v = zsl ad μ a i b' := by
    unfold zsl
    rcases hv with ⟨h, rfl⟩ | ⟨h, rfl⟩ | ⟨h, rfl⟩ | ⟨h, rfl⟩ <;> rw [h] <;> rfl
  have hvk : zvk Γ v := by
    rcases hv with ⟨h, rfl⟩ | ⟨h, rfl⟩ | ⟨h, rfl⟩ | ⟨h, rfl⟩
    · exact hf.1 h
    · exact hf.2.1 h
    · exact hf.2.2 h
    · exact Or.inl (zrt_ok1 (a, i) (zob_mem hi) b' hk28 h)
  have hfs : ((List.range (zTN a)).map (zsl ad μ a i))[b']? = some (zvl ad v) := by
    rw [List.getElem?_map, List.getElem?_range hbN, hvz]; rfl
  have kk := kk (zso_c hvk (zso_t hs)) rfl rfl
  rcases hlk with h | h
  · have hw := hts _ (zat_in h)
    exact va_get (D := (dC, dI)) hx hb hts g2 hown hK hP q0 hq2 g1 b' hbN hw (fun x hx2 => by rw [g5 b' hbN] at hx2; exact hx2) hfs hdg kk
  · have hw := va_Nw.use (A := args) rfl (hnw _ (zat_inN h))
    exact va_getN (D := (dC, dI)) hx hb hts g2 hown hK hP q0 hq2 g1 b' hbN hw (fun x hx2 => by rw [g5 b' hbN] at hx2; exact hx2) hfs hdg kk
set_option maxHeartbeats 4000000 in
theorem zpf_fin (C : zCx p R s mm args c ad dC dI tyI tyZ tyL A b Γ d m cells slots) {ix a b' i pc pos : Nat} {k x : Int} {rest : List Value} {μ : zM} (hdg : decode (zby m) pc = .ok (.putfield ix, 3)) (hlk : zlk (zy m).cls (pc, 3, .putfield ix, a, b', k) pos = true) (hne : zfk a b' ≠ 0)
    {H : Heap} {locs : List Loc} {lsM : Array Slot} (hh : zHp s ad dC dI tyI tyZ tyL A μ H locs) (hi : i < zcn a) {v : Value} (hnar : narrow (zty a b') v = v) (hfit : fits (zty a b') v = true) (hvz : v = zsl ad (zset μ a i b' x) a i b') (hmo' : zmo (zset μ a i b' x))
    (kk : ∀ H' locs', zHp s ad dC dI tyI tyZ tyL A (zset μ a i b' x) H' locs' → W p l e R s mm args below meth c H' locs' cells slots Qm (F0 mm (pc + 3) lsM rest)) : W p l e R s mm args below meth c H locs cells slots Qm (F0 mm pc lsM (v :: .ref (ad a i) :: rest)) := by
  obtain ⟨⟨hx, hb, hml, hown⟩, ⟨hts, hnw⟩, hK, hA, hR, hE, hG⟩ := C
  obtain ⟨hP, hD, hS, hmo⟩ := hh
  obtain ⟨ht44, hk28⟩ := zfk_N28 hne
  obtain ⟨ho, h0, h10⟩ := zfk_ob a ht44 b' hk28 hne
  obtain ⟨g1, g2, g3, g4, g5⟩ := zTg_all a h0 h10
  simp only [zlk, Bool.and_eq_true, decide_eq_true_eq, Bool.or_eq_true, Bool.not_eq_true'] at hlk
  obtain ⟨⟨hbN, hfin⟩, hlk⟩ := hlk
  obtain ⟨q0, hq1, hq2⟩ := zob_at (ad := ad) (tyI := tyI) (tyZ := tyZ) (tyL := tyL) (μ := μ) hi ho
  have hse : (zwd ad tyI tyZ tyL μ).set q0 (ad a i, .inr (zci a, ((List.range (zTN a)).map (zsl ad μ a i)).set b' v)) = zwd ad tyI tyZ tyL (zset μ a i b' x) := by
    rw [hvz, zsl_set, ← zwd_set (v := x) (k := b') hq1]
    congr 2
    simp only [zcl, ho]
  have hl : b' < ((List.range (zTN a)).map (zsl ad μ a i)).length := by simpa using hbN
  have kk2 : ∀ (H1 : Heap) (locs1 : List Loc), va_P (dC, dI) vwCl ((zwd ad tyI tyZ tyL μ).set q0 (ad a i, .inr (zci a, ((List.range (zTN a)).map (zsl ad μ a i)).set b' v))) H1 → va_D A ((zwd ad tyI tyZ tyL μ).set q0 (ad a i, .inr (zci a, ((List.range (zTN a)).map (zsl ad μ a i)).set b' v))) → va_S A s.heap H1 locs1 → W p l e R s mm args below meth c H1 locs1 cells slots Qm (F0 mm (pc + 3) lsM rest) := by
    intro H1 locs1 hP1 hD1 hS1
    rw [hse] at hP1 hD1
    exact kk H1 locs1 ⟨hP1, hD1, hS1, hmo'⟩
  rcases hlk with h | h
  · have hw := hts _ (zat_in h)
    exact va_put (D := (dC, dI)) hx hb hts g2 (zty a) g3 g4 hown hK hP hD hS q0 hq2 g1 b' hbN hw (fun x hx2 => by rw [g5 b' hbN] at hx2; exact hx2) hfin (g3 b' hbN) hnar hfit hl hdg kk2
  · have hw := va_Nw.use (A := args) rfl (hnw _ (zat_inN h))
    exact va_putN (D := (dC, dI)) hx hb hts g2 (zty a) g3 g4 hown hK hP hD hS q0 hq2 g1 b' hbN hw (fun x hx2 => by rw [g5 b' hbN] at hx2; exact hx2) hfin (g3 b' hbN) hnar hfit hl hdg kk2
set_option maxHeartbeats 4000000 in
theorem zpf_ok (C : zCx p R s mm args c ad dC dI tyI tyZ tyL A b Γ d m cells slots) {ix a b' pc pos : Nat} {k : Int} {ls : List (Option zV)} {st : List zV} {μ : zM} {o : zS} (hdg : decode (zby m) pc = .ok (.putfield ix, 3)) (hlk : zlk (zy m).cls (pc, 3, .putfield ix, a, b', k) pos = true) (heq : zpf zfk ls st μ a b' = some o) (hPo : ∀ P, o.1 = some P → P)
    {H : Heap} {locs : List Loc} {lsM : Array Slot} (hh : zHp s ad dC dI tyI tyZ tyL A μ H locs) (hs : zso Γ st)
    (kk : ∀ H' locs', zHp s ad dC dI tyI tyZ tyL A o.2.2.2 H' locs' → zso Γ o.2.2.1 → o.2.1 = ls → W p l e R s mm args below meth c H' locs' cells slots Qm (F0 mm (pc + 3) lsM (o.2.2.1.map (zvl ad)))) : W p l e R s mm args below meth c H locs cells slots Qm (F0 mm pc lsM (st.map (zvl ad))) := by
  obtain ⟨i, r, x, ho2, hne, hv⟩ := zpf_iv heq
  obtain ⟨o1, o2⟩ := o
  dsimp only at ho2 hPo kk hv
  subst ho2
  obtain ⟨ht44, hk28⟩ := zfk_N28 hne
  obtain ⟨ho, h0, h10⟩ := zfk_ob a ht44 b' hk28 hne
  have hlk0 := hlk
  simp only [zlk, Bool.and_eq_true, decide_eq_true_eq, Bool.or_eq_true, Bool.not_eq_true'] at hlk0
  have hb27 : b' < 27 := Nat.lt_of_lt_of_le hlk0.1.1 (zfk_N a ht44)
  obtain ⟨t1, t2, t3⟩ := zty_k a h10 b' hb27
  have esk : zsk a b' = zfk a b' := by unfold zsk; rw [ho]; rfl
  have hmo := hh.2.2.2
  rcases hv with ⟨hk, rfl⟩ | ⟨hk, rfl, hp⟩ | ⟨hk, rfl⟩
  · have hi : i < zcn a := zvk_of (zso_h (zso_t hs)) h0
    refine zpf_fin C hdg hlk hne hh hi (x := x) (v := .int (Int32.ofInt x)) (by rw [t1 hk]; rfl) (by rw [t1 hk]; rfl) (by unfold zsl; rw [hk, zset_self]; rfl) ?_ fun H' locs' h => kk H' locs' h (zso_t (zso_t hs)) rfl
    exact zmo_set hmo (fun _ => zso_h hs) (fun q => by omega) (fun q => by omega)
  · have hi : i < zcn a := zvk_of (zso_h (zso_t hs)) h0
    have hx01 := hPo _ hp
    refine zpf_fin C hdg hlk hne hh hi (x := x) (v := .int (Int32.ofInt x)) (by rw [t2 hk]; exact (z_01 hx01).1) (by rw [t2 hk]; exact (z_01 hx01).2) (by unfold zsl; rw [hk, zset_self]; rfl) ?_ fun H' locs' h => kk H' locs' h (zso_t (zso_t hs)) rfl
    exact zmo_set hmo (fun q => by omega) (fun _ => hx01) (fun q => by omega)
  · have hi : i < zcn a := zvk_of (zso_h (zso_t hs)) h0
    refine zpf_fin C hdg hlk hne hh hi (x := x) (v := .long (Int64.ofInt x)) (by rw [t3 hk]; rfl) (by rw [t3 hk]; rfl) (by unfold zsl; rw [hk, zset_self]; rfl) ?_ fun H' locs' h => kk H' locs' h (zso_t (zso_t hs)) rfl
    exact zmo_set hmo (fun q => by omega) (fun q => by omega) (fun _ => zso_h hs)

theorem zar1 {μ : zM} {t i : Nat} (h : i < zcn t) (ho : zak t = 1) : ∃ k : Nat, zob[k]? = some (t, i) ∧ (zwd ad tyI tyZ tyL μ)[k]? = some (ad t i, .inl (tyI, zal t, .inl (fun k => Int32.ofInt (μ t i k)))) := by
  obtain ⟨k, h1, h2⟩ := zat_wd (ad := ad) (tyI := tyI) (tyZ := tyZ) (tyL := tyL) (μ := μ) h
  refine ⟨k, h1, ?_⟩
  rw [h2]
  simp only [zcl, ho]
theorem zar2 {μ : zM} {t i : Nat} (h : i < zcn t) (ho : zak t = 2) : ∃ k : Nat, zob[k]? = some (t, i) ∧ (zwd ad tyI tyZ tyL μ)[k]? = some (ad t i, .inl (tyZ, zal t, .inl (fun k => Int32.ofInt (μ t i k)))) := by
  obtain ⟨k, h1, h2⟩ := zat_wd (ad := ad) (tyI := tyI) (tyZ := tyZ) (tyL := tyL) (μ := μ) h
  refine ⟨k, h1, ?_⟩
  rw [h2]
  simp only [zcl, ho]
theorem zar3 {μ : zM} {t i : Nat} (h : i < zcn t) (ho : zak t = 3) : ∃ k : Nat, zob[k]? = some (t, i) ∧ (zwd ad tyI tyZ tyL μ)[k]? = some (ad t i, .inl (tyL, zal t, .inr (.inr (.inr (.inr (fun k => some (ad (zrt t i k).1 (zrt t i k).2))))))) := by
  obtain ⟨k, h1, h2⟩ := zat_wd (ad := ad) (tyI := tyI) (tyZ := tyZ) (tyL := tyL) (μ := μ) h
  refine ⟨k, h1, ?_⟩
  rw [h2]
  simp only [zcl, ho]
theorem zup1 {μ : zM} {t i k : Nat} {v : Int} : upd (fun j => Int32.ofInt (μ t i j)) k (Int32.ofInt v) = fun j => Int32.ofInt (zset μ t i k v t i j) := by
  funext j
  unfold upd zset
  by_cases h : j = k
  · simp [h]
  · simp [h]
theorem zar_set1 {μ : zM} {t i k n : Nat} {v : Int} (ho : zak t = 1) (hk : zob[n]? = some (t, i)) : (zwd ad tyI tyZ tyL μ).set n (ad t i, .inl (tyI, zal t, .inl (upd (fun j => Int32.ofInt (μ t i j)) k (Int32.ofInt v)))) = zwd ad tyI tyZ tyL (zset μ t i k v) := by
  rw [← zwd_set hk, zup1]
  congr 2
  simp only [zcl, ho]
theorem zar_set2 {μ : zM} {t i k n : Nat} {v : Int} (ho : zak t = 2) (hk : zob[n]? = some (t, i)) : (zwd ad tyI tyZ tyL μ).set n (ad t i, .inl (tyZ, zal t, .inl (upd (fun j => Int32.ofInt (μ t i j)) k (Int32.ofInt v)))) = zwd ad tyI tyZ tyL (zset μ t i k v) := by
  rw [← zwd_set hk, zup1]
  congr 2
  simp only [zcl, ho]
theorem zvk_ar {t i : Nat} (h : zvk Γ (zR t i)) (ho : zak t ≠ 9) : i < zcn t := by
  rcases h with h | h
  · exact h
  · exfalso
    apply ho
    have := h.1
    dsimp only at this
    rw [this]
    rfl
theorem zvk_sc {t i : Nat} (h : zvk Γ (zR t i)) (ho : zak t = 9) : t = 0 ∧ i = 0 := by
  rcases h with h | h
  · exact absurd ho (zak_9 t (zcn_lt h) (Nat.lt_of_le_of_lt (Nat.zero_le _) h))
  · exact ⟨h.1, h.2.1⟩
theorem zmo1 {μ : zM} (h : zmo μ) {t i k : Nat} (ho : zak t = 1) : zin (μ t i k) := (h t i k).1 (by unfold zsk; rw [ho]; rfl)
theorem zmo2 {μ : zM} (h : zmo μ) {t i k : Nat} (ho : zak t = 2) : zin (μ t i k) := by
  rcases (h t i k).2.1 (by unfold zsk; rw [ho]; rfl) with q | q <;> rw [q] <;> exact ⟨by omega, by omega⟩
theorem zmo_s1 {μ : zM} (h : zmo μ) {t i k : Nat} {v : Int} (ho : zak t = 1) (hv : zin v) : zmo (zset μ t i k v) := zmo_set h (fun _ => hv) (fun q => by unfold zsk at q; rw [ho] at q; cases q) (fun q => by unfold zsk at q; rw [ho] at q; cases q)
theorem zmo_s2 {μ : zM} (h : zmo μ) {t i k : Nat} {v : Int} (ho : zak t = 2) (hv : v = 0 ∨ v = 1) : zmo (zset μ t i k v) := zmo_set h (fun q => by unfold zsk at q; rw [ho] at q; cases q) (fun _ => hv) (fun q => by unfold zsk at q; rw [ho] at q; cases q)
theorem zal_44 {t i : Nat} (h : i < zcn t) : zal t < 2147483648 := zal_lt t (zcn_lt h)
theorem zial_iv {ls : List (Option zV)} {st : List zV} {μ : zM} {o : zS} (h : zial zak zal Γ ls st μ = some o) : ∃ k t i r, st = zI k :: zR t i :: r ∧ ((zak t = 1 ∧ o = (some (0 ≤ k ∧ k < (zal t : Int)), ls, zI (μ t i k.toNat) :: r, μ)) ∨ (zak t = 9 ∧ ∃ q, Γ = some q ∧ o = (some (0 ≤ k ∧ k < (q.1 : Int)), ls, zI (q.2 k.toNat) :: r, μ))) := by
  unfold zial at h
  split at h
  · next k t i r =>
    split at h
    · next hk => exact ⟨k, t, i, r, rfl, Or.inl ⟨hk, (Option.some.inj h).symm⟩⟩
    · next hk =>
      split at h
      · next L xs => exact ⟨k, t, i, r, rfl, Or.inr ⟨hk, (L, xs), rfl, (Option.some.inj h).symm⟩⟩
      · cases h
    · cases h
  · cases h
theorem zbal_iv {ls : List (Option zV)} {st : List zV} {μ : zM} {o : zS} (h : zbal zak zal ls st μ = some o) : ∃ k t i r, st = zI k :: zR t i :: r ∧ zak t = 2 ∧ o = (some (0 ≤ k ∧ k < (zal t : Int)), ls, zI (μ t i k.toNat) :: r, μ) := by
  unfold zbal at h
  split at h
  · next k t i r =>
    split at h
    · next hk => exact ⟨k, t, i, r, rfl, hk, (Option.some.inj h).symm⟩
    · cases h
  · cases h
theorem zaal_iv {ls : List (Option zV)} {st : List zV} {μ : zM} {o : zS} (h : zaal zrt zak zal ls st μ = some o) : ∃ k t i r, st = zI k :: zR t i :: r ∧ zak t = 3 ∧ o = (some (0 ≤ k ∧ k < (zal t : Int)), ls, zR (zrt t i k.toNat).1 (zrt t i k.toNat).2 :: r, μ) := by
  unfold zaal at h
  split at h
  · next k t i r =>
    split at h
    · next hk => exact ⟨k, t, i, r, rfl, hk, (Option.some.inj h).symm⟩
    · cases h
  · cases h
theorem zias_iv {ls : List (Option zV)} {st : List zV} {μ : zM} {o : zS} (h : zias zak zal ls st μ = some o) : ∃ v k t i r, st = zI v :: zI k :: zR t i :: r ∧ zak t = 1 ∧ o = (some (0 ≤ k ∧ k < (zal t : Int)), ls, r, zset μ t i k.toNat v) := by
  unfold zias at h
  split at h
  · next v k t i r =>
    split at h
    · next hk => exact ⟨v, k, t, i, r, rfl, hk, (Option.some.inj h).symm⟩
    · cases h
  · cases h
theorem zbas_iv {ls : List (Option zV)} {st : List zV} {μ : zM} {o : zS} (h : zbas zak zal ls st μ = some o) : ∃ v k t i r, st = zI v :: zI k :: zR t i :: r ∧ zak t = 2 ∧ o = (some ((0 ≤ k ∧ k < (zal t : Int)) ∧ (v = 0 ∨ v = 1)), ls, r, zset μ t i k.toNat v) := by
  unfold zbas at h
  split at h
  · next v k t i r =>
    split at h
    · next hk => exact ⟨v, k, t, i, r, rfl, hk, (Option.some.inj h).symm⟩
    · cases h
  · cases h
theorem zlen_iv {ls : List (Option zV)} {st : List zV} {μ : zM} {o : zS} (h : zlen zak zal Γ ls st μ = some o) : ∃ t i r, st = zR t i :: r ∧ (((zak t = 1 ∨ zak t = 2 ∨ zak t = 3) ∧ o = (none, ls, zI (zal t : Int) :: r, μ)) ∨ (zak t = 9 ∧ ∃ q, Γ = some q ∧ o = (none, ls, zI (q.1 : Int) :: r, μ))) := by
  unfold zlen at h
  split at h
  · next t i r =>
    split at h
    · next hk => exact ⟨t, i, r, rfl, Or.inl ⟨Or.inl hk, (Option.some.inj h).symm⟩⟩
    · next hk => exact ⟨t, i, r, rfl, Or.inl ⟨Or.inr (Or.inl hk), (Option.some.inj h).symm⟩⟩
    · next hk => exact ⟨t, i, r, rfl, Or.inl ⟨Or.inr (Or.inr hk), (Option.some.inj h).symm⟩⟩
    · next hk =>
      split at h
      · next L xs => exact ⟨t, i, r, rfl, Or.inr ⟨hk, (L, xs), rfl, (Option.some.inj h).symm⟩⟩
      · cases h
    · cases h
  · cases h
theorem zinc_iv {ls : List (Option zV)} {st : List zV} {μ : zM} {k : Nat} {n : Int} {o : zS} (h : zinc ls st μ k n = some o) : ∃ a, znth ls k = some (zI a) ∧ o = (none, zput (zkl ls k) k (some (zI (w32 (a + n)))), st, μ) := by
  unfold zinc at h
  split at h
  · next a ha => exact ⟨a, ha, (Option.some.inj h).symm⟩
  · cases h
theorem znth_lt {α : Type} : ∀ {l : List (Option α)} {i : Nat} {w : α}, znth l i = some w → i < l.length
  | [], _, _, h => by cases h
  | _ :: _, 0, _, _ => by simp
  | _ :: l, i + 1, w, h => by
    have := znth_lt (l := l) (i := i) (w := w) h
    simpa using this
theorem zdup_iv {ls : List (Option zV)} {st : List zV} {μ : zM} {o : zS} (h : zdup ls st μ = some o) : ∃ v r, st = v :: r ∧ zcat v = 1 ∧ o = (none, ls, v :: v :: r, μ) := by
  unfold zdup at h
  split at h
  · next v r =>
    split at h
    · next hc => exact ⟨v, r, rfl, hc, (Option.some.inj h).symm⟩
    · cases h
  · cases h
theorem zpop_iv {ls : List (Option zV)} {st : List zV} {μ : zM} {o : zS} (h : zpop ls st μ = some o) : ∃ v r, st = v :: r ∧ zcat v = 1 ∧ o = (none, ls, r, μ) := by
  unfold zpop at h
  split at h
  · next v r =>
    split at h
    · next hc => exact ⟨v, r, rfl, hc, (Option.some.inj h).symm⟩
    · cases h
  · cases h
theorem zdup2_iv {ls : List (Option zV)} {st : List zV} {μ : zM} {o : zS} (h : zdup2 ls st μ = some o) : ∃ v w r, st = v :: w :: r ∧ zcat v = 1 ∧ zcat w = 1 ∧ o = (none, ls, v :: w :: v :: w :: r, μ) := by
  unfold zdup2 at h
  split at h
  · next v w r =>
    split at h
    · next hc =>
      split at h
      · next hd => exact ⟨v, w, r, rfl, hc, hd, (Option.some.inj h).symm⟩
      · cases h
    · cases h
  · cases h
theorem zcv_iv {ls : List (Option zV)} {st : List zV} {μ : zM} {o : zS} (h : zcv ls st μ = some o) : ∃ a r, st = zI a :: r ∧ o = (none, ls, zL a :: r, μ) := by
  unfold zcv at h
  split at h
  · next a r => exact ⟨a, r, rfl, (Option.some.inj h).symm⟩
  · cases h
theorem zvc_iv {ls : List (Option zV)} {st : List zV} {μ : zM} {o : zS} (h : zvc ls st μ = some o) : ∃ a r, st = zL a :: r ∧ o = (none, ls, zI (w32 a) :: r, μ) := by
  unfold zvc at h
  split at h
  · next a r => exact ⟨a, r, rfl, (Option.some.inj h).symm⟩
  · cases h
theorem zneg_iv {ls : List (Option zV)} {st : List zV} {μ : zM} {o : zS} (h : zneg ls st μ = some o) : ∃ a r, st = zI a :: r ∧ o = (none, ls, zI (w32 (-a)) :: r, μ) := by
  unfold zneg at h
  split at h
  · next a r => exact ⟨a, r, rfl, (Option.some.inj h).symm⟩
  · cases h
theorem zlcm_iv {ls : List (Option zV)} {st : List zV} {μ : zM} {o : zS} (h : zlcm ls st μ = some o) : ∃ x y r, st = zL y :: zL x :: r ∧ o = (none, ls, zI (zlcmp x y) :: r, μ) := by
  unfold zlcm at h
  split at h
  · exact ⟨_, _, _, rfl, (Option.some.inj h).symm⟩
  · cases h
theorem z_lcmp {x y : Int} (hx : zinL x) (hy : zinL y) : lg_cmp (Int64.ofInt x) (Int64.ofInt y) = Int32.ofInt (zlcmp x y) := by
  unfold lg_cmp zlcmp
  have h1 : (Int64.ofInt x > Int64.ofInt y) ↔ x > y := z_ltL hy hx
  have h2 : (Int64.ofInt x = Int64.ofInt y) ↔ x = y := ⟨z_injL hx hy, fun h => by rw [h]⟩
  by_cases h : x > y
  · rw [if_pos (h1.mpr h), if_pos h]; rfl
  · rw [if_neg (fun q => h (h1.mp q)), if_neg h]
    by_cases h3 : x = y
    · rw [if_pos (h2.mpr h3), if_pos h3]; rfl
    · rw [if_neg (fun q => h3 (h2.mp q)), if_neg h3]; rfl
theorem z_nz {y : Int} (hy : zin y) (h : y ≠ 0) : ¬ Int32.ofInt y = 0 := fun q => h (z_inj hy z_zero q)
theorem z_nzL {y : Int} (hy : zinL y) (h : y ≠ 0) : ¬ Int64.ofInt y = 0 := fun q => h (z_injL hy ⟨by omega, by omega⟩ q)
theorem z_remL {a b : Int} (ha : zinL a) (hb : zinL b) : Int64.ofInt a - Int64.ofInt a / Int64.ofInt b * Int64.ofInt b = Int64.ofInt (a.tmod b) := by
  apply Int64.toInt_inj.mp
  rw [Jvm.Kit.i64_rem, z_tiL ha, z_tiL hb]
  exact (z_tiL (z_remrL ha)).symm
theorem z_lc (x : Int32) : zin x.toInt := z_rg x
theorem zlcmp_rg (x y : Int) : zin (zlcmp x y) := by
  unfold zlcmp zin
  split
  · omega
  · split <;> omega
set_option maxHeartbeats 8000000 in
theorem zsx_ok (C : zCx p R s mm args c ad dC dI tyI tyZ tyL A b Γ d m cells slots) {ins : Instr} {a b' pc len pos : Nat} {k : Int} {ls : List (Option zV)} {st : List zV} {μ : zM} {o : zS} (hdg : decode (zby m) pc = .ok (ins, len)) (hil : zil ins = 0 ∨ len = zil ins) (hok : zok (pc, len, ins, a, b', k) = true) (hlk : zlk (zy m).cls (pc, len, ins, a, b', k) pos = true) (heq : zsx zfk zrt zak zal Γ ins a b' k ls st μ = some o) (hPo : ∀ P, o.1 = some P → P)
    {H : Heap} {locs : List Loc} {lsM : Array Slot} (hh : zHp s ad dC dI tyI tyZ tyL A μ H locs) (hl : zLo ad (zml m) lsM ls) (hs : zso Γ st) (hv : zlo Γ ls)
    (kk : ∀ H' locs' lsM', zHp s ad dC dI tyI tyZ tyL A o.2.2.2 H' locs' → zLo ad (zml m) lsM' o.2.1 → zso Γ o.2.2.1 → zlo Γ o.2.1 → W p l e R s mm args below meth c H' locs' cells slots Qm (F0 mm (pc + len) lsM' (o.2.2.1.map (zvl ad)))) : W p l e R s mm args below meth c H locs cells slots Qm (F0 mm pc lsM (st.map (zvl ad))) := by
  have C0 := C
  obtain ⟨⟨hx, hb, hml, hown⟩, ⟨hts, hnw⟩, hK, hA, hR, hE, hG⟩ := C
  have hh0 := hh
  obtain ⟨hP, hD, hS, hmo⟩ := hh0
  unfold zsx at heq
  split at heq
  · next k' =>
    obtain rfl : len = 2 := by simpa [zil] using hil
    obtain ⟨v, h1, h2, rfl⟩ := zld_iv heq
    obtain ⟨t, i, rfl⟩ := zqr_iv h2
    exact lv_aload hx hb hdg (zLo_at hl h1) (kk _ _ _ hh hl (zso_c (hv _ _ h1) hs) hv)
  · next k' =>
    obtain rfl : len = 1 := by simpa [zil] using hil
    obtain ⟨v, h1, h2, rfl⟩ := zld_iv heq
    obtain ⟨t, i, rfl⟩ := zqr_iv h2
    exact lv_aload_n hx hb hdg rfl (zLo_at hl h1) (kk _ _ _ hh hl (zso_c (hv _ _ h1) hs) hv)
  · next k' =>
    obtain rfl : len = 2 := by simpa [zil] using hil
    obtain ⟨v, h1, h2, rfl⟩ := zld_iv heq
    obtain ⟨x, rfl⟩ := zqi_iv h2
    exact lv_iload hx hb hdg (zLo_at hl h1) (kk _ _ _ hh hl (zso_c (hv _ _ h1) hs) hv)
  · next k' =>
    obtain rfl : len = 1 := by simpa [zil] using hil
    obtain ⟨v, h1, h2, rfl⟩ := zld_iv heq
    obtain ⟨x, rfl⟩ := zqi_iv h2
    exact lv_iload_n hx hb hdg rfl (zLo_at hl h1) (kk _ _ _ hh hl (zso_c (hv _ _ h1) hs) hv)
  · next k' =>
    obtain rfl : len = 2 := by simpa [zil] using hil
    obtain ⟨v, h1, h2, rfl⟩ := zld_iv heq
    obtain ⟨x, rfl⟩ := zql_iv h2
    exact lv_lload hx hb hdg (zLo_at hl h1) (kk _ _ _ hh hl (zso_c (hv _ _ h1) hs) hv)
  · next k' =>
    obtain rfl : len = 1 := by simpa [zil] using hil
    obtain ⟨v, h1, h2, rfl⟩ := zld_iv heq
    obtain ⟨x, rfl⟩ := zql_iv h2
    exact lv_lload_n hx hb hdg rfl (zLo_at hl h1) (kk _ _ _ hh hl (zso_c (hv _ _ h1) hs) hv)
  · next k' =>
    obtain rfl : len = 2 := by simpa [zil] using hil
    obtain ⟨v, r, rfl, h2, h3, rfl⟩ := zsto_iv heq
    obtain ⟨t, i, rfl⟩ := zqr_iv h2
    refine lv_astore hx hb hdg hl.2 (by rw [← hl.1]; exact h3) rfl fun ls' hl' => ?_
    exact kk _ _ _ hh (zLo_put (w := zR t i) hl.1 hl') (zso_t hs) (zlo_put hv (zso_h hs))
  · next k' =>
    obtain rfl : len = 1 := by simpa [zil] using hil
    obtain ⟨v, r, rfl, h2, h3, rfl⟩ := zsto_iv heq
    obtain ⟨t, i, rfl⟩ := zqr_iv h2
    refine lv_astore_n hx hb hdg rfl hl.2 (by rw [← hl.1]; exact h3) rfl fun ls' hl' => ?_
    exact kk _ _ _ hh (zLo_put (w := zR t i) hl.1 hl') (zso_t hs) (zlo_put hv (zso_h hs))
  · next k' =>
    obtain rfl : len = 2 := by simpa [zil] using hil
    obtain ⟨v, r, rfl, h2, h3, rfl⟩ := zsto_iv heq
    obtain ⟨x, rfl⟩ := zqi_iv h2
    refine lv_istore hx hb hdg hl.2 (by rw [← hl.1]; exact h3) rfl fun ls' hl' => ?_
    exact kk _ _ _ hh (zLo_put (w := zI x) hl.1 hl') (zso_t hs) (zlo_put hv (zso_h hs))
  · next k' =>
    obtain rfl : len = 1 := by simpa [zil] using hil
    obtain ⟨v, r, rfl, h2, h3, rfl⟩ := zsto_iv heq
    obtain ⟨x, rfl⟩ := zqi_iv h2
    refine lv_istore_n hx hb hdg rfl hl.2 (by rw [← hl.1]; exact h3) rfl fun ls' hl' => ?_
    exact kk _ _ _ hh (zLo_put (w := zI x) hl.1 hl') (zso_t hs) (zlo_put hv (zso_h hs))
  · next k' =>
    obtain rfl : len = 2 := by simpa [zil] using hil
    obtain ⟨x, r, rfl, h3, rfl⟩ := zstl_iv heq
    refine lv_lstore hx hb hdg hl.2 (by rw [← hl.1]; exact h3) rfl fun ls' hl' => ?_
    exact kk _ _ _ hh (zLo_put2 (w := x) hl.1 (by rw [← hl.1]; exact h3) hl') (zso_t hs) (zlo_put2 hv (zso_h hs))
  · next k' =>
    obtain rfl : len = 1 := by simpa [zil] using hil
    obtain ⟨x, r, rfl, h3, rfl⟩ := zstl_iv heq
    refine lv_lstore_n hx hb hdg rfl hl.2 (by rw [← hl.1]; exact h3) rfl fun ls' hl' => ?_
    exact kk _ _ _ hh (zLo_put2 (w := x) hl.1 (by rw [← hl.1]; exact h3) hl') (zso_t hs) (zlo_put2 hv (zso_h hs))
  · next n =>
    obtain rfl : len = 1 := by simpa [zil] using hil
    cases heq
    have hn : -1 ≤ n ∧ n ≤ 5 := by simpa [zok] using hok
    exact lv_iconst hx hb hdg rfl (kk _ _ _ hh hl (zso_c (v := zI n) (show zin n from ⟨by omega, by omega⟩) hs) hv)
  · next n =>
    obtain rfl : len = 2 := by simpa [zil] using hil
    cases heq
    have hn : -128 ≤ n ∧ n ≤ 127 := by simpa [zok] using hok
    exact lv_bipush hx hb hdg (z_b8 hn) (kk _ _ _ hh hl (zso_c (v := zI n) (show zin n from ⟨by omega, by omega⟩) hs) hv)
  · next n =>
    obtain rfl : len = 3 := by simpa [zil] using hil
    cases heq
    have hn : -32768 ≤ n ∧ n ≤ 32767 := by simpa [zok] using hok
    exact lv_sipush hx hb hdg (z_b16 hn) (kk _ _ _ hh hl (zso_c (v := zI n) (show zin n from ⟨by omega, by omega⟩) hs) hv)
  · next n =>
    obtain rfl : len = 2 := by simpa [zil] using hil
    cases heq
    have hn : -2147483648 ≤ k ∧ k ≤ 2147483647 := by simpa [zok] using hok
    exact lv_ldc hx hb hown (hts _ (zat_in (by simpa [zlk] using hlk))) hdg (kk _ _ _ hh hl (zso_c (v := zI k) (show zin k from ⟨by omega, by omega⟩) hs) hv)
  · next n =>
    obtain rfl : len = 3 := by simpa [zil] using hil
    cases heq
    have hn : -2147483648 ≤ k ∧ k ≤ 2147483647 := by simpa [zok] using hok
    exact lv_ldcw hx hb hown (hts _ (zat_in (by simpa [zlk] using hlk))) hdg (kk _ _ _ hh hl (zso_c (v := zI k) (show zin k from ⟨by omega, by omega⟩) hs) hv)
  · next n =>
    obtain rfl : len = 3 := by simpa [zil] using hil
    cases heq
    have hn : -9223372036854775808 ≤ k ∧ k ≤ 9223372036854775807 := by simpa [zok] using hok
    exact lv_ldc2 hx hb hown (hts _ (zat_in (by simpa [zlk] using hlk))) hdg (kk _ _ _ hh hl (zso_c (v := zL k) (show zinL k from ⟨by omega, by omega⟩) hs) hv)
  · next n =>
    obtain rfl : len = 1 := by simpa [zil] using hil
    cases heq
    exact lv_lconst hx hb hdg rfl (kk _ _ _ hh hl (zso_c (v := zL ((n : Nat) : Int)) (show zinL _ from ⟨by omega, by have := n.isLt; omega⟩) hs) hv)
  · next n =>
    obtain rfl : len = 3 := by simpa [zil] using hil
    exact zgf_ok C0 hdg hlk heq hh hs fun h1 h2 h3 => kk _ _ _ (by rw [h3]; exact hh) (by rw [h2]; exact hl) h1 (by rw [h2]; exact hv)
  · next n =>
    obtain rfl : len = 3 := by simpa [zil] using hil
    exact zpf_ok C0 hdg hlk heq hPo hh hs fun H' locs' h1 h2 h3 => kk _ _ _ h1 (by rw [h3]; exact hl) h2 (by rw [h3]; exact hv)
  · obtain rfl : len = 1 := by simpa [zil] using hil
    obtain ⟨j, t, i, r, rfl, h⟩ := zial_iv heq
    rcases h with ⟨ht, rfl⟩ | ⟨ht, q, rfl, rfl⟩
    · obtain ⟨g1, g2⟩ := hPo _ rfl
      have hi := zvk_ar (zso_h (zso_t hs)) (by rw [ht]; decide)
      obtain ⟨q0, hq1, hq2⟩ := zar1 (ad := ad) (tyI := tyI) (tyZ := tyZ) (tyL := tyL) (μ := μ) hi ht
      refine va_iald (D := (dC, dI)) hx hb hK hP q0 0 hq2 rfl (z_vin g1 g2 (zal_44 hi)) hdg ?_
      rw [z_cl (zso_h hs)]
      exact kk _ _ _ hh hl (zso_c (v := zI _) (zmo1 hmo ht) (zso_t (zso_t hs))) hv
    · obtain ⟨g1, g2⟩ := hPo _ rfl
      obtain ⟨rfl, rfl⟩ := zvk_sc (zso_h (zso_t hs)) ht
      obtain ⟨f1, f2, f3, f4, f5, f6⟩ := hG
      show W p l e R s mm args below meth c H locs cells slots Qm (F0 mm pc lsM (.int (Int32.ofInt j) :: .ref (ad 0 0) :: r.map (zvl ad)))
      rw [f4]
      refine va_sld hx hb f1 f2 f3 hS (z_vin g1 g2 f5) hdg ?_
      rw [z_cl (zso_h hs)]
      exact kk _ _ _ hh hl (zso_c (v := zI _) (f6 _ (by omega)) (zso_t (zso_t hs))) hv
  · obtain rfl : len = 1 := by simpa [zil] using hil
    obtain ⟨j, t, i, r, rfl, ht, rfl⟩ := zbal_iv heq
    obtain ⟨g1, g2⟩ := hPo _ rfl
    have hi := zvk_ar (zso_h (zso_t hs)) (by rw [ht]; decide)
    obtain ⟨q0, hq1, hq2⟩ := zar2 (ad := ad) (tyI := tyI) (tyZ := tyZ) (tyL := tyL) (μ := μ) hi ht
    refine va_zald (D := (dC, dI)) hx hb hK hP q0 1 hq2 rfl (z_vin g1 g2 (zal_44 hi)) hdg ?_
    rw [z_cl (zso_h hs)]
    exact kk _ _ _ hh hl (zso_c (v := zI _) (zmo2 hmo ht) (zso_t (zso_t hs))) hv
  · obtain rfl : len = 1 := by simpa [zil] using hil
    obtain ⟨j, t, i, r, rfl, ht, rfl⟩ := zaal_iv heq
    obtain ⟨g1, g2⟩ := hPo _ rfl
    have hi := zvk_ar (zso_h (zso_t hs)) (by rw [ht]; decide)
    obtain ⟨q0, hq1, hq2⟩ := zar3 (ad := ad) (tyI := tyI) (tyZ := tyZ) (tyL := tyL) (μ := μ) hi ht
    refine va_aldq (D := (dC, dI)) hx hb hK hP q0 2 hq2 rfl (z_vin g1 g2 (zal_44 hi)) hdg ?_
    rw [z_cl (zso_h hs)]
    exact kk _ _ _ hh hl (zso_c (v := zR _ _) (Or.inl (zrt_ok2 (t, i) (zob_mem hi) ht j.toNat (show j.toNat < zal t by omega))) (zso_t (zso_t hs))) hv
  · obtain rfl : len = 1 := by simpa [zil] using hil
    obtain ⟨v, j, t, i, r, rfl, ht, rfl⟩ := zias_iv heq
    obtain ⟨g1, g2⟩ := hPo _ rfl
    have hi := zvk_ar (zso_h (zso_t (zso_t hs))) (by rw [ht]; decide)
    obtain ⟨q0, hq1, hq2⟩ := zar1 (ad := ad) (tyI := tyI) (tyZ := tyZ) (tyL := tyL) (μ := μ) hi ht
    refine va_iast (D := (dC, dI)) hx hb hK hP hD hS q0 0 hq2 rfl (z_vin g1 g2 (zal_44 hi)) hdg fun H1 locs1 hP1 hD1 hS1 => ?_
    rw [z_cl (zso_h (zso_t hs)), zar_set1 ht hq1] at hP1 hD1
    exact kk _ _ _ ⟨hP1, hD1, hS1, zmo_s1 hmo ht (zso_h hs)⟩ hl (zso_t (zso_t (zso_t hs))) hv
  · obtain rfl : len = 1 := by simpa [zil] using hil
    obtain ⟨v, j, t, i, r, rfl, ht, rfl⟩ := zbas_iv heq
    obtain ⟨⟨g1, g2⟩, g3⟩ := hPo _ rfl
    have hi := zvk_ar (zso_h (zso_t (zso_t hs))) (by rw [ht]; decide)
    obtain ⟨q0, hq1, hq2⟩ := zar2 (ad := ad) (tyI := tyI) (tyZ := tyZ) (tyL := tyL) (μ := μ) hi ht
    refine va_zast (D := (dC, dI)) hx hb hK hP hD hS q0 1 hq2 rfl (z_vin g1 g2 (zal_44 hi)) hdg fun H1 locs1 hP1 hD1 hS1 => ?_
    have e : vp_nar .boolean (Int32.ofInt v) = Int32.ofInt v := by
      rcases g3 with rfl | rfl <;> rfl
    rw [z_cl (zso_h (zso_t hs)), e, zar_set2 ht hq1] at hP1 hD1
    exact kk _ _ _ ⟨hP1, hD1, hS1, zmo_s2 hmo ht g3⟩ hl (zso_t (zso_t (zso_t hs))) hv
  · obtain rfl : len = 1 := by simpa [zil] using hil
    obtain ⟨t, i, r, rfl, h⟩ := zlen_iv heq
    rcases h with ⟨ht, rfl⟩ | ⟨ht, q, rfl, rfl⟩
    · rcases ht with ht | ht | ht
      · have hi := zvk_ar (zso_h hs) (by rw [ht]; decide)
        obtain ⟨q0, hq1, hq2⟩ := zar1 (ad := ad) (tyI := tyI) (tyZ := tyZ) (tyL := tyL) (μ := μ) hi ht
        have hz := zal_44 hi
        exact va_alen (D := (dC, dI)) hx hb hK hP q0 0 hq2 rfl rfl hdg (kk _ _ _ hh hl (zso_c (v := zI _) (show zin _ from ⟨by omega, by omega⟩) (zso_t hs)) hv)
      · have hi := zvk_ar (zso_h hs) (by rw [ht]; decide)
        obtain ⟨q0, hq1, hq2⟩ := zar2 (ad := ad) (tyI := tyI) (tyZ := tyZ) (tyL := tyL) (μ := μ) hi ht
        have hz := zal_44 hi
        exact va_alen (D := (dC, dI)) hx hb hK hP q0 1 hq2 rfl rfl hdg (kk _ _ _ hh hl (zso_c (v := zI _) (show zin _ from ⟨by omega, by omega⟩) (zso_t hs)) hv)
      · have hi := zvk_ar (zso_h hs) (by rw [ht]; decide)
        obtain ⟨q0, hq1, hq2⟩ := zar3 (ad := ad) (tyI := tyI) (tyZ := tyZ) (tyL := tyL) (μ := μ) hi ht
        have hz := zal_44 hi
        exact va_alen (D := (dC, dI)) hx hb hK hP q0 2 hq2 rfl rfl hdg (kk _ _ _ hh hl (zso_c (v := zI _) (show zin _ from ⟨by omega, by omega⟩) (zso_t hs)) hv)
    · obtain ⟨rfl, rfl⟩ := zvk_sc (zso_h hs) ht
      obtain ⟨f1, f2, f3, f4, f5, f6⟩ := hG
      show W p l e R s mm args below meth c H locs cells slots Qm (F0 mm pc lsM (.ref (ad 0 0) :: r.map (zvl ad)))
      rw [f4]
      exact va_slen hx hb f1 f2 f3 hS hdg (kk _ _ _ hh hl (zso_c (v := zI _) (show zin _ from ⟨by omega, by omega⟩) (zso_t hs)) hv)
  · obtain rfl : len = 1 := by simpa [zil] using hil
    obtain ⟨v, r, rfl, h1, rfl⟩ := zdup_iv heq
    exact lv_dup hx hb hdg (by rw [zvl_cat]; exact h1) (kk _ _ _ hh hl (zso_c (zso_h hs) hs) hv)
  · obtain rfl : len = 1 := by simpa [zil] using hil
    obtain ⟨v, r, rfl, h1, rfl⟩ := zpop_iv heq
    exact lv_pop hx hb hdg (by rw [zvl_cat]; exact h1) (kk _ _ _ hh hl (zso_t hs) hv)
  · obtain rfl : len = 1 := by simpa [zil] using hil
    obtain ⟨v, w, r, rfl, h1, h2, rfl⟩ := zdup2_iv heq
    exact lv_dup2_11 hx hb hdg (by rw [zvl_cat]; exact h1) (by rw [zvl_cat]; exact h2) (kk _ _ _ hh hl (zso_c (zso_h hs) (zso_c (zso_h (zso_t hs)) hs)) hv)
  · next k' n =>
    obtain rfl : len = 3 := by simpa [zil] using hil
    obtain ⟨x, h1, rfl⟩ := zinc_iv heq
    obtain ⟨q, hq⟩ := List.getElem?_of_mem (zll_in ad ls 0 k' _ h1)
    rw [Nat.zero_add] at hq
    refine lv_iinc (v := Int32.ofInt (w32 (x + n))) hx hb hdg hl.2 hq (z_add x n) (by rw [← hl.1]; exact znth_lt h1) rfl fun ls' hl' => ?_
    exact kk _ _ _ hh (zLo_put (w := zI (w32 (x + n))) hl.1 hl') hs (zlo_put hv (z_w32 _))
  · obtain rfl : len = 1 := by simpa [zil] using hil
    obtain ⟨x, y, r, rfl, rfl⟩ := zb1_iv heq
    refine lv_iadd hx hb hdg ?_
    rw [z_add]
    exact kk _ _ _ hh hl (zso_c (v := zI _) (z_w32 _) (zso_t (zso_t hs))) hv
  · obtain rfl : len = 1 := by simpa [zil] using hil
    obtain ⟨x, y, r, rfl, rfl⟩ := zb1_iv heq
    refine lv_isub hx hb hdg ?_
    rw [z_sub]
    exact kk _ _ _ hh hl (zso_c (v := zI _) (z_w32 _) (zso_t (zso_t hs))) hv
  · obtain rfl : len = 1 := by simpa [zil] using hil
    obtain ⟨x, y, r, rfl, rfl⟩ := zb1_iv heq
    refine lv_imul hx hb hdg ?_
    rw [z_mul]
    exact kk _ _ _ hh hl (zso_c (v := zI _) (z_w32 _) (zso_t (zso_t hs))) hv
  · obtain rfl : len = 1 := by simpa [zil] using hil
    obtain ⟨x, y, r, rfl, rfl⟩ := zb1_iv heq
    refine lv_iand hx hb hdg ?_
    rw [z_and]
    exact kk _ _ _ hh hl (zso_c (v := zI _) (z_rg _) (zso_t (zso_t hs))) hv
  · obtain rfl : len = 1 := by simpa [zil] using hil
    obtain ⟨x, y, r, rfl, rfl⟩ := zb1_iv heq
    refine lv_ior hx hb hdg ?_
    rw [z_or]
    exact kk _ _ _ hh hl (zso_c (v := zI _) (z_rg _) (zso_t (zso_t hs))) hv
  · obtain rfl : len = 1 := by simpa [zil] using hil
    obtain ⟨x, y, r, rfl, rfl⟩ := zb1_iv heq
    refine lv_ixor hx hb hdg ?_
    rw [z_xor]
    exact kk _ _ _ hh hl (zso_c (v := zI _) (z_rg _) (zso_t (zso_t hs))) hv
  · obtain rfl : len = 1 := by simpa [zil] using hil
    obtain ⟨x, y, r, rfl, rfl⟩ := zb1_iv heq
    refine lv_ishl hx hb hdg ?_
    rw [z_shl]
    exact kk _ _ _ hh hl (zso_c (v := zI _) (z_rg _) (zso_t (zso_t hs))) hv
  · obtain rfl : len = 1 := by simpa [zil] using hil
    obtain ⟨x, y, r, rfl, rfl⟩ := zb1_iv heq
    refine lv_ishr hx hb hdg ?_
    rw [z_shr]
    exact kk _ _ _ hh hl (zso_c (v := zI _) (z_rg _) (zso_t (zso_t hs))) hv
  · obtain rfl : len = 1 := by simpa [zil] using hil
    obtain ⟨x, y, r, rfl, rfl⟩ := zb1_iv heq
    exact lv_iushr hx hb hdg (z_ushr x y) (kk _ _ _ hh hl (zso_c (v := zI _) (z_rg _) (zso_t (zso_t hs))) hv)
  · obtain rfl : len = 1 := by simpa [zil] using hil
    obtain ⟨x, y, r, rfl, rfl⟩ := zbd_iv heq
    have h0 : y ≠ 0 := hPo _ rfl
    refine lv_idiv hx hb hdg (z_nz (zso_h hs) h0) ?_
    rw [z_div (zso_h (zso_t hs)) (zso_h hs)]
    exact kk _ _ _ hh hl (zso_c (v := zI _) (z_w32 _) (zso_t (zso_t hs))) hv
  · obtain rfl : len = 1 := by simpa [zil] using hil
    obtain ⟨x, y, r, rfl, rfl⟩ := zbd_iv heq
    have h0 : y ≠ 0 := hPo _ rfl
    refine lv_irem hx hb hdg (z_nz (zso_h hs) h0) ?_
    rw [z_rem (zso_h (zso_t hs)) (zso_h hs)]
    exact kk _ _ _ hh hl (zso_c (v := zI _) (z_remr (zso_h (zso_t hs))) (zso_t (zso_t hs))) hv
  · obtain rfl : len = 1 := by simpa [zil] using hil
    obtain ⟨x, r, rfl, rfl⟩ := zneg_iv heq
    refine lv_ineg hx hb hdg ?_
    rw [z_neg]
    exact kk _ _ _ hh hl (zso_c (v := zI _) (z_w32 _) (zso_t hs)) hv
  · obtain rfl : len = 1 := by simpa [zil] using hil
    obtain ⟨x, r, rfl, rfl⟩ := zcv_iv heq
    exact lv_i2l hx hb hdg (z_i2l (zso_h hs)) (kk _ _ _ hh hl (zso_c (v := zL x) (show zinL x from by have := zso_h hs; exact ⟨by have := this.1; omega, by have := this.2; omega⟩) (zso_t hs)) hv)
  · obtain rfl : len = 1 := by simpa [zil] using hil
    obtain ⟨x, r, rfl, rfl⟩ := zvc_iv heq
    exact lv_l2i hx hb hdg (z_l2i (zso_h hs)) (kk _ _ _ hh hl (zso_c (v := zI _) (z_w32 _) (zso_t hs)) hv)
  · obtain rfl : len = 1 := by simpa [zil] using hil
    obtain ⟨x, y, r, rfl, rfl⟩ := zl1_iv heq
    refine lv_ladd hx hb hdg ?_
    rw [z_addL]
    exact kk _ _ _ hh hl (zso_c (v := zL _) (z_w64 _) (zso_t (zso_t hs))) hv
  · obtain rfl : len = 1 := by simpa [zil] using hil
    obtain ⟨x, y, r, rfl, rfl⟩ := zl1_iv heq
    refine lv_lmul hx hb hdg ?_
    rw [z_mulL]
    exact kk _ _ _ hh hl (zso_c (v := zL _) (z_w64 _) (zso_t (zso_t hs))) hv
  · obtain rfl : len = 1 := by simpa [zil] using hil
    obtain ⟨x, y, r, rfl, rfl⟩ := zl1_iv heq
    refine lv_land hx hb hdg ?_
    rw [z_land]
    exact kk _ _ _ hh hl (zso_c (v := zL _) (z_rgL _) (zso_t (zso_t hs))) hv
  · obtain rfl : len = 1 := by simpa [zil] using hil
    obtain ⟨x, y, r, rfl, rfl⟩ := zldv_iv heq
    have h0 : y ≠ 0 := hPo _ rfl
    refine lv_ldiv hx hb hdg (z_nzL (zso_h hs) h0) ?_
    rw [z_divL (zso_h (zso_t hs)) (zso_h hs)]
    exact kk _ _ _ hh hl (zso_c (v := zL _) (z_w64 _) (zso_t (zso_t hs))) hv
  · obtain rfl : len = 1 := by simpa [zil] using hil
    obtain ⟨x, y, r, rfl, rfl⟩ := zldv_iv heq
    have h0 : y ≠ 0 := hPo _ rfl
    refine lv_lrem hx hb hdg (z_nzL (zso_h hs) h0) ?_
    rw [z_remL (zso_h (zso_t hs)) (zso_h hs)]
    exact kk _ _ _ hh hl (zso_c (v := zL _) (z_remrL (zso_h (zso_t hs))) (zso_t (zso_t hs))) hv
  · obtain rfl : len = 1 := by simpa [zil] using hil
    obtain ⟨x, y, r, rfl, rfl⟩ := zlcm_iv heq
    refine W.lcmp hx hb hdg ?_
    rw [z_lcmp (zso_h (zso_t hs)) (zso_h hs)]
    exact kk _ _ _ hh hl (zso_c (v := zI _) (zlcmp_rg x y) (zso_t (zso_t hs))) hv
  · cases heq
end
end
section
/-! SOUNDNESS, whole -/
theorem zcopy_w : Cond.native arraycopyName ∈ zlg ∧ Cond.static arraycopyName ∈ zlg ∧ Cond.initialized "java/lang/System" ∈ zlg := ⟨zat_in (p := 480) (by decide +kernel), zat_in (p := 479) (by decide +kernel), zat_in (p := 77) (by decide +kernel)⟩
def zhd (es : List zE) (pc : Nat) : Prop := match es with
  | [] => True
  | e :: _ => e.1 = pc
theorem zco_suf : ∀ (l : List zE) (e : zE) (r : List zE), zco l = true → (e :: r) <:+ l → zhd r (e.1 + e.2.1)
  | [], e, r, _, h => by simp at h
  | [f], e, r, _, h => by
    rcases List.suffix_cons_iff.mp h with h | h
    · cases h; trivial
    · simp at h
  | f :: g :: l, e, r, hc, h => by
    simp only [zco, Bool.and_eq_true, decide_eq_true_eq] at hc
    rcases List.suffix_cons_iff.mp h with h | h
    · cases h
      exact hc.1.symm
    · exact zco_suf (g :: l) e r hc.2 h
theorem zsf_hd (m t : Nat) : zhd (zsf m t) t := by
  unfold zsf
  generalize zcode m = l
  induction l with
  | nil => trivial
  | cons e l ih =>
    rw [List.dropWhile_cons]
    split
    · exact ih
    · next h => simpa [zhd] using h
theorem zsf_suf (m t : Nat) : zsf m t <:+ zcode m := List.dropWhile_suffix _
theorem zcode_in (m : Nat) : zcode m = [] ∨ zcode m ∈ zCT := by
  have e : ∀ (l : List (List zE)) (n : Nat), zgd l n [] = [] ∨ zgd l n [] ∈ l := by
    intro l
    induction l with
    | nil => intro n; cases n <;> exact Or.inl rfl
    | cons a l ih =>
      intro n
      cases n with
      | zero => exact Or.inr List.mem_cons_self
      | succ n => exact (ih n).imp id (List.mem_cons_of_mem _)
  exact e zCT m
theorem zil_all {m : Nat} {g : zE} (h : g ∈ zcode m) : zil g.2.2.1 = 0 ∨ g.2.1 = zil g.2.2.1 := by
  rcases zcode_in m with q | q
  · rw [q] at h; cases h
  · have h1 := List.all_eq_true.mp (List.all_eq_true.mp zil_ok _ q) g h
    simpa [Bool.or_eq_true] using h1
theorem ztake_iv : ∀ (n : Nat) (acc st : List zV) (as r : List zV), ztake n acc st = some (as, r) → ∃ xs : List zV, st = xs ++ r ∧ as = xs.reverse ++ acc ∧ xs.length = n
  | 0, acc, st, as, r, h => by
    cases h
    exact ⟨[], rfl, rfl, rfl⟩
  | n + 1, acc, [], as, r, h => by cases h
  | n + 1, acc, v :: st, as, r, h => by
    obtain ⟨xs, h1, h2, h3⟩ := ztake_iv n (v :: acc) st as r h
    exact ⟨v :: xs, by rw [h1]; rfl, by rw [h2]; simp, by rw [List.length_cons, h3]⟩
theorem zsum_ok (ad : Nat → Nat → Nat) : ∀ r : List zV, ((r.map (zvl ad)).map fun v => v.category).sum = zsum r
  | [] => rfl
  | v :: r => by
    have := zsum_ok ad r
    simp only [List.map_cons, List.sum_cons, zvl_cat, zsum] at this ⊢
    omega
theorem zexp_args (ad : Nat → Nat → Nat) : ∀ (as : List zV) (k j : Nat) (w : zV), znth (zexp as) j = some w → (k + j, zvl ad w) ∈ lv_args k (as.map (zvl ad))
  | [], _, _, _, h => by cases h
  | .inl a :: r, k, 0, w, h => by
    cases h
    exact List.mem_cons_self
  | .inl a :: r, k, j + 1, w, h => by
    have := zexp_args ad r (k + 1) j w h
    rw [show k + 1 + j = k + (j + 1) by omega] at this
    exact List.mem_cons_of_mem _ this
  | .inr (.inr q) :: r, k, 0, w, h => by
    cases h
    exact List.mem_cons_self
  | .inr (.inr q) :: r, k, j + 1, w, h => by
    have := zexp_args ad r (k + 1) j w h
    rw [show k + 1 + j = k + (j + 1) by omega] at this
    exact List.mem_cons_of_mem _ this
  | .inr (.inl a) :: r, k, 0, w, h => by
    cases h
    exact List.mem_cons_self
  | .inr (.inl a) :: r, k, 1, w, h => by cases h
  | .inr (.inl a) :: r, k, j + 2, w, h => by
    have := zexp_args ad r (k + 2) j w h
    rw [show k + 2 + j = k + (j + 2) by omega] at this
    exact List.mem_cons_of_mem _ this
theorem zexp_len (ad : Nat → Nat → Nat) : ∀ as : List zV, (lg_sl (as.map (zvl ad))).length = (zexp as).length
  | [] => rfl
  | .inl a :: r => by
    have := zexp_len ad r
    simp only [lg_sl, List.map_cons, List.flatMap_cons, List.length_append] at this ⊢
    rw [this]
    simp [zvl, zexp, Value.category]; omega
  | .inr (.inr q) :: r => by
    have := zexp_len ad r
    simp only [lg_sl, List.map_cons, List.flatMap_cons, List.length_append] at this ⊢
    rw [this]
    simp [zvl, zexp, Value.category]; omega
  | .inr (.inl a) :: r => by
    have := zexp_len ad r
    simp only [lg_sl, List.map_cons, List.flatMap_cons, List.length_append] at this ⊢
    rw [this]
    simp [zvl, zexp, Value.category]; omega
theorem znth_app {α : Type} : ∀ (l : List (Option α)) (n i : Nat) (w : α), znth (l ++ List.replicate n none) i = some w → znth l i = some w
  | [], 0, i, w, h => by cases h
  | [], n + 1, 0, w, h => by cases h
  | [], n + 1, i + 1, w, h => by
    have := znth_app ([] : List (Option α)) n i w (by simpa [List.replicate_succ, znth] using h)
    cases this
  | a :: l, n, 0, w, h => h
  | a :: l, n, i + 1, w, h => znth_app l n i w h
theorem zpad_Lo {ad : Nat → Nat → Nat} {n : Nat} {as : List zV} {lsM : Array Slot} (hle : (zexp as).length ≤ n) (h : lv_has lsM n (lv_args 0 (as.map (zvl ad)))) : zLo ad n lsM (zpad n (zexp as)) := by
  refine ⟨by unfold zpad; rw [List.length_append, List.length_replicate]; omega, h.1, h.2.1, fun q hq => ?_⟩
  obtain ⟨j, w, h1, rfl⟩ := zll_of ad _ 0 q hq
  exact h.2.2 _ (zexp_args ad as 0 j w (znth_app _ _ _ _ h1))
theorem zexp_ok {Γ : zG} : ∀ (as : List zV), zso Γ as → ∀ i v, znth (zexp as) i = some v → zvk Γ v
  | [], _, _, _, h => by cases h
  | .inl a :: r, hs, 0, v, h => by cases h; exact zso_h hs
  | .inl a :: r, hs, i + 1, v, h => zexp_ok r (zso_t hs) i v h
  | .inr (.inr q) :: r, hs, 0, v, h => by cases h; exact zso_h hs
  | .inr (.inr q) :: r, hs, i + 1, v, h => zexp_ok r (zso_t hs) i v h
  | .inr (.inl a) :: r, hs, 0, v, h => by cases h; exact zso_h hs
  | .inr (.inl a) :: r, hs, 1, v, h => by cases h
  | .inr (.inl a) :: r, hs, i + 2, v, h => zexp_ok r (zso_t hs) i v h
theorem zpad_lo {Γ : zG} {n : Nat} {as : List zV} (hs : zso Γ as) : zlo Γ (zpad n (zexp as)) := fun i v h => zexp_ok as hs i v (znth_app _ _ _ _ h)
theorem zswt_at {go : Int → Prop} {x : Int} : ∀ (os : List Int) (j : Int), zswt go x j os → ∀ (k : Nat) (o : Int), os[k]? = some o → x = j + k → go o
  | [], _, _, _, _, h, _ => by simp at h
  | a :: r, j, q, 0, o, h, e => by
    have h2 : a = o := by simpa using h
    subst h2
    exact q.1 (by omega)
  | a :: r, j, q, k + 1, o, h, e => zswt_at r (j + 1) q.2 k o (by simpa using h) (by push_cast at e; omega)
theorem zlks_at {go : Int → Prop} {x d : Int} : ∀ (ps : List (Int × Int)), zlks go x d ps → go (Op.lookupswitch.offset ps d x)
  | [], q => q
  | (k, o) :: r, q => by
    rw [Op.lookupswitch.offset_cons]
    by_cases h : k = x
    · rw [if_pos h]; exact q.1 h.symm
    · rw [if_neg h]; exact zlks_at r (q.2 fun e => h e.symm)
def zws (f : Nat) : List Cond := .code (zy f) (zby f) (zml f) (zrf f) :: zlg
def zrm (d : Nat) : Room := { frames := d, cells := 0, slots := 0, locals := 36 * d }
theorem zlg_good {w : Cond} (h : w ∈ zlg) : goodWord w = true := (List.mem_filter.mp h).2
theorem zln_form {w : Cond} (h : w ∈ zln) : ∃ a i b n d q, w = .fieldLinkNest a i b n d q := by
  have h2 := (List.mem_filter.mp h).2
  split at h2
  · exact ⟨_, _, _, _, _, _, rfl⟩
  · cases h2
theorem zchf_iv {f : Nat} {ps : List Nat} (h : zchf f ps = true) : Cond.code (zy f) (zby f) (zml f) (zrf f) ∈ zlg ∧ (Cond.static (zy f) ∈ zlg ∨ (Cond.instanceMethod (zy f) ∈ zlg ∧ Cond.selects (zy f).cls (zy f) (zy f) ∈ zlg)) ∧ Cond.initialized (zy f).cls ∈ zlg ∧ zml f ≤ 17 ∧ plainName (zy f).cls = true ∧ ((zy f).cls ≠ "java/lang/invoke/MethodHandle" ∧ (zy f).cls ≠ "java/lang/invoke/VarHandle") ∧ ((zmk f = 0 → zrf f = none) ∧ (zmk f = 1 → zrf f = some .int) ∧ (zmk f = 2 → zrf f = some .boolean)) := by
  unfold zchf at h
  split at h
  · next a b c d =>
    simp only [Bool.and_eq_true, decide_eq_true_eq] at h
    obtain ⟨⟨⟨⟨⟨⟨h1, h2⟩, h3⟩, h4⟩, h5⟩, h6⟩, h7⟩ := h
    refine ⟨zat_in h1, ?_, zat_in h3, h4, h5, h6, h7⟩
    split at h2
    · exact Or.inl (zat_in h2)
    · rw [Bool.and_eq_true] at h2
      exact Or.inr ⟨zat_in h2.1, zat_in h2.2⟩
  · cases h
theorem zmk_4 : ∀ f, f < 243 → zmk f = 4 → ∃ n, zrf f = some (.object n) := by
  have h : ∀ f, f < 243 → zmk f = 4 → (match zrf f with | some (.object _) => true | _ => false) = true := by decide +kernel
  intro f h1 h2
  have h3 := h f h1 h2
  split at h3
  · next n hn => exact ⟨n, hn⟩
  · cases h3
/-- how a method ends -/
def zRet (m : Nat) (v : Option zV) (pc : Nat) : Prop := match zmk m with
  | 0 => v = none ∧ decode (zby m) pc = .ok (.return_, 1)
  | 1 => ∃ x, v = some (zI x) ∧ decode (zby m) pc = .ok (.ireturn, 1)
  | 2 => ∃ x, v = some (zI x) ∧ (x = 0 ∨ x = 1) ∧ decode (zby m) pc = .ok (.ireturn, 1)
  | 4 => ∃ t i, v = some (zR t i) ∧ decode (zby m) pc = .ok (.areturn, 1)
  | _ => False
def zov (ad : Nat → Nat → Nat) (v : Option zV) : List Value := match v with
  | none => []
  | some w => [zvl ad w]
def zSX : zX := fun Γ d m es ls st μ Q => ∀ (p : Program) (l : Launch) (e : Env) (R : Room) (s : State) (mm : MethodId) (args : Array Value) (below : List Frame) (meth : Method) (c : Code) (ad : Nat → Nat → Nat) (dC : Nat → ClassId) (dI : Nat → Nat → Nat) (tyI tyZ tyL : ClassId) (A : Nat → Prop) (b cells slots : Nat) (Qm : State → Prop) (pc : Nat) (H : Heap) (locs : List Loc) (lsM : Array Slot),
  zCx p R s mm args c ad dC dI tyI tyZ tyL A b Γ d m cells slots → es <:+ zcode m → zhd es pc → zHp s ad dC dI tyI tyZ tyL A μ H locs → zLo ad (zml m) lsM ls → zso Γ st → zlo Γ ls →
  (∀ (v : Option zV) (μ' : zM) (pc' : Nat) (H' : Heap) (locs' : List Loc) (lsM' : Array Slot), Q v μ' → zHp s ad dC dI tyI tyZ tyL A μ' H' locs' → (∀ w, v = some w → zvk Γ w) → zRet m v pc' → W p l e R s mm args below meth c H' locs' cells slots Qm (F0 mm pc' lsM' (zov ad v))) →
  W p l e R s mm args below meth c H locs cells slots Qm (F0 mm pc lsM (st.map (zvl ad)))
/-- a world at the end of a call -/
def zBw (ad : Nat → Nat → Nat) (dC : Nat → ClassId) (dI : Nat → Nat → Nat) (tyI tyZ tyL : ClassId) (A : Nat → Prop) (μ : zM) (t : State) : Prop := va_P (dC, dI) vwCl (zwd ad tyI tyZ tyL μ) t.heap ∧ va_K (dC, dI) vwCl (zts tyI tyZ tyL) t ∧ va_D A (zwd ad tyI tyZ tyL μ)
def zPc (ad : Nat → Nat → Nat) (dC : Nat → ClassId) (dI : Nat → Nat → Nat) (tyI tyZ tyL : ClassId) (sz : Nat) (μ : zM) (as : List zV) : Array Value → State → Prop := va_Pc (as.map (zvl ad)) (fun U => U.heap.size = sz ∧ va_P (dC, dI) vwCl (zwd ad tyI tyZ tyL μ) U.heap ∧ va_K (dC, dI) vwCl (zts tyI tyZ tyL) U ∧ va_D (fun _ => True) (zwd ad tyI tyZ tyL μ) ∧ ∀ w ∈ zln, va_Nw w U)
theorem zPc_blind {ad : Nat → Nat → Nat} {dC : Nat → ClassId} {dI : Nat → Nat → Nat} {tyI tyZ tyL : ClassId} {sz : Nat} {μ : zM} {as : List zV} : FrameBlind (zPc ad dC dI tyI tyZ tyL sz μ as) := by
  intro a U g mk q
  obtain ⟨q0, q1, q2, q3, q4, q5⟩ := q
  refine ⟨q0, q1, q2, va_K.moved (u := U) (U := U.calling g mk a) (Vm.Alike.refl U.vm) q3, q4, fun w hw => ?_⟩
  obtain ⟨a1, i1, b1, n1, d1, h1, rfl⟩ := zln_form hw
  exact va_Nw.same rfl (U := U.calling g mk a) rfl (q5 _ hw)
/-- the start of a method's walk -/
theorem zmet {f d : Nat} (hf : zprim f = false) (hf2 : f < 243) {as : List zV} {μ : zM} {K : zQ} (hX : zSX none d f (zcode f) (zpad (zml f) (zexp as)) [] μ K) (l : Launch) (ad : Nat → Nat → Nat) (dC : Nat → ClassId) (dI : Nat → Nat → Nat) (tyI tyZ tyL : ClassId) (has : zso none as) (hlen : (zexp as).length ≤ zml f) (hmo : zmo μ) (sz : Nat) (Qc : Array Value → State → Outcome → State → Prop)
    (hret : ∀ (p : Program) (e : Env) (s : State) (m : MethodId) (below : List Frame) (meth : Method) (c : Code) (v : Option zV) (μ' : zM) (pc' : Nat) (H' : Heap) (locs' : List Loc) (lsM' : Array Slot), p.tables.exec = Jvm.exec → c.code = zby f → meth.sig.returnType = zrf f → meth.locks = false → s.heap.size = sz → va_K (dC, dI) vwCl (zts tyI tyZ tyL) s → K v μ' → zHp s ad dC dI tyI tyZ tyL (va_A (zwd ad tyI tyZ tyL μ) sz) μ' H' locs' → (∀ w, v = some w → zvk none w) → zRet f v pc' →
      W p l e (zrm d) s m (as.map (zvl ad)).toArray below meth c H' locs' 0 0 (MQ below Qc (as.map (zvl ad)).toArray s 0 0 (va_A (zwd ad tyI tyZ tyL μ) sz)) (F0 m pc' lsM' (zov ad v))) :
    Met l (zy f) (zws f) (zrm d) (zPc ad dC dI tyI tyZ tyL sz μ as) Qc 0 0 (va_A (zwd ad tyI tyZ tyL μ) sz) := by
  obtain ⟨ps, hps⟩ := zf_ok hf hf2
  obtain ⟨hc, hst, hin, hm17, hpl, hmh, hrk⟩ := zchf_iv hps
  refine Met.ofW (cc := zby f) (maxL := zml f) (ret := zrf f) hpl rfl ?_
  intro p e s m args below meth c s₁ B hml hv
  obtain ⟨rfl, hsz, hP, hK, hD0, hN⟩ := hv
  have hts := atoms_spec (ws := zws f) B.pre
  have hown : s.vm.findClass (zy f).cls = some m.cls := findClass_of_methodNamed B.named
  subst hsz
  have hD := hD0.self (sz := s.heap.size)
  have hl := lv_entry (as.map (zvl ad)) (n := zml f) (by rw [zexp_len]; exact hlen)
  rw [lg_entry_eq]
  have h0 : 0 < f := by
    cases f with
    | zero => cases hf
    | succ f => omega
  have hE := zE_all (m := f) h0 (by omega)
  have hhd : zhd (zcode f) 0 := by
    have h3 := hE.2.2
    unfold zhd
    split at h3
    · next e r he => rw [he]; exact h3
    · cases h3
  refine hX p l e (zrm d) s m _ below meth c ad dC dI tyI tyZ tyL (va_A (zwd ad tyI tyZ tyL μ) s.heap.size) 0 0 0 _ 0 _ _ _ ⟨⟨B.exec, B.bytes, hml, hown⟩, ⟨fun w hw => hts w (List.mem_cons_of_mem _ hw), hN⟩, hK, fun q h => Or.inr h, ⟨Nat.le_refl _, Nat.le_refl _, Nat.le_refl _, Nat.le_refl _⟩, hE, trivial⟩ (List.suffix_refl _) hhd ⟨hP, hD, va_S.rf, hmo⟩ (zpad_Lo hlen hl) (fun _ h => by cases h) (zpad_lo has) ?_
  intro v μ' pc' H' locs' lsM' hQ hh' hvk hr
  exact hret p e s m below meth c v μ' pc' H' locs' lsM' B.exec B.bytes B.returns B.notSynchronized rfl hK hQ hh' hvk hr
end
section
/-! SOUNDNESS of calls and of the whole -/
theorem zmet0 {f d : Nat} (hf : zprim f = false) (hf2 : f < 243) (hk : zmk f = 0) {as : List zV} {μ : zM} {K : zQ} (hX : zSX none d f (zcode f) (zpad (zml f) (zexp as)) [] μ K) (l : Launch) (ad : Nat → Nat → Nat) (dC : Nat → ClassId) (dI : Nat → Nat → Nat) (tyI tyZ tyL : ClassId) (has : zso none as) (hlen : (zexp as).length ≤ zml f) (hmo : zmo μ) (sz : Nat) :
    Met l (zy f) (zws f) (zrm d) (zPc ad dC dI tyI tyZ tyL sz μ as) (va_Qv (fun u : zM => K none u ∧ zmo u) (zBw ad dC dI tyI tyZ tyL (va_A (zwd ad tyI tyZ tyL μ) sz)) (va_A (zwd ad tyI tyZ tyL μ) sz)) 0 0 (va_A (zwd ad tyI tyZ tyL μ) sz) := by
  obtain ⟨ps, hps⟩ := zf_ok hf hf2
  obtain ⟨-, -, -, -, -, -, hrk⟩ := zchf_iv hps
  refine zmet hf hf2 hX l ad dC dI tyI tyZ tyL has hlen hmo sz _ ?_
  intro p e s m below meth c v μ' pc' H' locs' lsM' hx hb hr hlocks hsz hK hQ hh' hvk hrt
  unfold zRet at hrt
  rw [hk] at hrt
  obtain ⟨rfl, hdec⟩ := hrt
  obtain ⟨hP', hD', hS', hmo'⟩ := hh'
  exact W.vret hx hb (by rw [hr, hrk.1 hk]) (fun t ht hW => ⟨⟨μ', rfl, ⟨hQ, hmo'⟩, by rw [ht]; exact hP', va_K.moved hW.alike hK, hD'⟩, hS'.F ht⟩) hS'.2.2 hdec
theorem zmet1 {f d : Nat} (hf : zprim f = false) (hf2 : f < 243) (hk : zmk f = 1 ∨ zmk f = 2) {as : List zV} {μ : zM} {K : zQ} (hX : zSX none d f (zcode f) (zpad (zml f) (zexp as)) [] μ K) (l : Launch) (ad : Nat → Nat → Nat) (dC : Nat → ClassId) (dI : Nat → Nat → Nat) (tyI tyZ tyL : ClassId) (has : zso none as) (hlen : (zexp as).length ≤ zml f) (hmo : zmo μ) (sz : Nat) :
    Met l (zy f) (zws f) (zrm d) (zPc ad dC dI tyI tyZ tyL sz μ as) (va_Qi (fun (r : Int32) (u : Int × zM) => r = Int32.ofInt u.1 ∧ zin u.1 ∧ K (some (zI u.1)) u.2 ∧ zmo u.2) (fun u t => zBw ad dC dI tyI tyZ tyL (va_A (zwd ad tyI tyZ tyL μ) sz) u.2 t) (va_A (zwd ad tyI tyZ tyL μ) sz)) 0 0 (va_A (zwd ad tyI tyZ tyL μ) sz) := by
  obtain ⟨ps, hps⟩ := zf_ok hf hf2
  obtain ⟨-, -, -, -, -, -, hrk⟩ := zchf_iv hps
  refine zmet hf hf2 hX l ad dC dI tyI tyZ tyL has hlen hmo sz _ ?_
  intro p e s m below meth c v μ' pc' H' locs' lsM' hx hb hr hlocks hsz hK hQ hh' hvk hrt
  unfold zRet at hrt
  obtain ⟨hP', hD', hS', hmo'⟩ := hh'
  rcases hk with hk | hk
  · rw [hk] at hrt
    obtain ⟨x, rfl, hdec⟩ := hrt
    exact W.iret (v := Int32.ofInt x) hx hb (by rw [hr, hrk.2.1 hk]) (fun t ht hW => ⟨⟨_, (x, μ'), rfl, ⟨rfl, hvk _ rfl, hQ, hmo'⟩, by rw [ht]; exact hP', va_K.moved hW.alike hK, hD'⟩, hS'.F ht⟩) hS'.2.2 hdec
  · rw [hk] at hrt
    obtain ⟨x, rfl, h01, hdec⟩ := hrt
    exact W.zret (v := Int32.ofInt x) (ty := .boolean) hx hb (by rw [hr, hrk.2.2 hk]) (z_01 h01).1 (fun t ht hW => ⟨⟨_, (x, μ'), rfl, ⟨rfl, hvk _ rfl, hQ, hmo'⟩, by rw [ht]; exact hP', va_K.moved hW.alike hK, hD'⟩, hS'.F ht⟩) hS'.2.2 hdec
theorem zmet4 {f d : Nat} (hf : zprim f = false) (hf2 : f < 243) (hk : zmk f = 4) {as : List zV} {μ : zM} {K : zQ} (hX : zSX none d f (zcode f) (zpad (zml f) (zexp as)) [] μ K) (l : Launch) (ad : Nat → Nat → Nat) (dC : Nat → ClassId) (dI : Nat → Nat → Nat) (tyI tyZ tyL : ClassId) (has : zso none as) (hlen : (zexp as).length ≤ zml f) (hmo : zmo μ) (sz : Nat) :
    Met l (zy f) (zws f) (zrm d) (zPc ad dC dI tyI tyZ tyL sz μ as) (va_Qr (fun (u : (Nat × Nat) × zM) => zvk none (zR u.1.1 u.1.2) ∧ K (some (zR u.1.1 u.1.2)) u.2 ∧ zmo u.2) (fun u a t => a = ad u.1.1 u.1.2 ∧ zBw ad dC dI tyI tyZ tyL (va_A (zwd ad tyI tyZ tyL μ) sz) u.2 t) (va_A (zwd ad tyI tyZ tyL μ) sz)) 0 0 (va_A (zwd ad tyI tyZ tyL μ) sz) := by
  refine zmet hf hf2 hX l ad dC dI tyI tyZ tyL has hlen hmo sz _ ?_
  intro p e s m below meth c v μ' pc' H' locs' lsM' hx hb hr hlocks hsz hK hQ hh' hvk hrt
  unfold zRet at hrt
  obtain ⟨hP', hD', hS', hmo'⟩ := hh'
  obtain ⟨n, hn⟩ := zmk_4 f hf2 hk
  rw [hk] at hrt
  obtain ⟨t, i, rfl, hdec⟩ := hrt
  exact W.aret (v := .ref (ad t i)) (rt := .object n) hx hb (by rw [hr, hn]) (Or.inl ⟨n, rfl⟩) (Or.inr ⟨_, rfl⟩) (fun u ht hW => ⟨⟨((t, i), μ'), ad t i, rfl, ⟨hvk _ rfl, hQ, hmo'⟩, rfl, by rw [ht]; exact hP', va_K.moved hW.alike hK, hD'⟩, hS'.F ht⟩) hS'.2.2 hdec
section
variable {p : Program} {l : Launch} {e : Env} {R : Room} {s : State} {mm : MethodId} {args : Array Value} {below : List Frame} {meth : Method} {c : Code}
variable {ad : Nat → Nat → Nat} {dC : Nat → ClassId} {dI : Nat → Nat → Nat} {tyI tyZ tyL : ClassId} {A : Nat → Prop} {b : Nat} {Γ : zG} {d m cells slots : Nat} {Qm : State → Prop}
theorem zFr {H : Heap} {locs : List Loc} {μ : zM} (hD : va_D A (zwd ad tyI tyZ tyL μ)) (hS : va_S A s.heap H locs) (hA : ∀ q, s.heap.size ≤ q → A q) : ∀ q, va_A (zwd ad tyI tyZ tyL μ) H.size q → A q := by
  intro q h
  rcases h with ⟨k, e, h⟩ | h
  · exact hD.2 k (q, e) h
  · exact hA q (Nat.le_trans hS.1 h)
/-- what comes behind a call, by what the method answers -/
theorem zcall_end {f d' pc : Nat} {as r : List zV} {μ : zM} {nx : List zV → zM → Prop} {st : List Value} {H : Heap} {locs : List Loc} {lsM : Array Slot} (hf : zprim f = false) (hf2 : f < 243)
    (hX : zSX none d' f (zcode f) (zpad (zml f) (zexp as)) [] μ (zQm f nx)) (has : zso none as) (hlen : (zexp as).length ≤ zml f)
    (hh : zHp s ad dC dI tyI tyZ tyL A μ H locs) (hA : ∀ q, s.heap.size ≤ q → A q)
    (run : ∀ Qc, Met l (zy f) (zws f) (zrm d') (zPc ad dC dI tyI tyZ tyL H.size μ as) Qc 0 0 (va_A (zwd ad tyI tyZ tyL μ) H.size) → va_Run p l e R s mm args below meth c H locs cells slots 0 0 (F0 mm pc lsM st) (r.map (zvl ad)) (Qc (as.map (zvl ad)).toArray) (va_A (zwd ad tyI tyZ tyL μ) H.size))
    (kk : ∀ v μ' H' locs', nx v μ' → zHp s ad dC dI tyI tyZ tyL A μ' H' locs' → zso none v → W p l e R s mm args below meth c H' locs' cells slots Qm (F0 mm (pc + 3) lsM ((v ++ r).map (zvl ad)))) :
    W p l e R s mm args below meth c H locs cells slots Qm (F0 mm pc lsM st) := by
  obtain ⟨hP, hD, hS, hmo⟩ := hh
  have hF := zFr hD hS hA
  have fin : ∀ (u : zM) (t : State) (H1 : Heap) (locs1 : List Loc), t.heap = H1 → zmo u → zBw ad dC dI tyI tyZ tyL (va_A (zwd ad tyI tyZ tyL μ) H.size) u t → va_S A s.heap H1 locs1 → zHp s ad dC dI tyI tyZ tyL A u H1 locs1 := by
    intro u t H1 locs1 ht hm hB hS1
    obtain ⟨b1, b2, b3⟩ := hB
    rw [ht] at b1
    exact ⟨b1, b3.weaken (fun _ q _ h => hF q.1 h), hS1, hm⟩
  by_cases h0 : zmk f = 0
  · refine va_callv (run _ (zmet0 hf hf2 h0 hX l ad dC dI tyI tyZ tyL has hlen hmo H.size)) hS (fun q _ h => hF q h) hF (fun u t H1 locs1 ht hvm hw hB hz1 hk1 hS1 => ?_)
    have h1 := hw.1
    unfold zQm at h1
    rw [h0] at h1
    exact kk [] u H1 locs1 h1 (fin u t H1 locs1 ht hw.2 hB hS1) (fun _ h => by cases h)
  · by_cases h1 : zmk f = 1 ∨ zmk f = 2
    · refine va_calli (run _ (zmet1 hf hf2 h1 hX l ad dC dI tyI tyZ tyL has hlen hmo H.size)) hS (fun q _ h => hF q h) hF (fun r1 u t H1 locs1 ht hvm hw hB hz1 hk1 hS1 => ?_)
      obtain ⟨rfl, hx, hq, hm⟩ := hw
      have h2 : nx [zI u.1] u.2 := by
        unfold zQm at hq
        rcases h1 with h1 | h1
        · rw [h1] at hq; exact hq
        · rw [h1] at hq; exact hq
      exact kk [zI u.1] u.2 H1 locs1 h2 (fin u.2 t H1 locs1 ht hm hB hS1) (zso_c (v := zI u.1) hx (fun _ h => by cases h))
    · by_cases h4 : zmk f = 4
      · refine va_callr (run _ (zmet4 hf hf2 h4 hX l ad dC dI tyI tyZ tyL has hlen hmo H.size)) hS (fun q _ h => hF q h) hF (fun u ra t H1 locs1 ht hvm hw hB hz1 hk1 hS1 => ?_)
        obtain ⟨hx, hq, hm⟩ := hw
        obtain ⟨rfl, hB⟩ := hB
        unfold zQm at hq
        rw [h4] at hq
        have hq2 : (if u.1.1 = zrg f then nx [zR (zrg f) u.1.2] u.2 else False) := hq
        split at hq2
        · next he =>
          rw [← he] at hq2
          exact kk [zR u.1.1 u.1.2] u.2 H1 locs1 hq2 (fin u.2 t H1 locs1 ht hm hB hS1) (zso_c (v := zR u.1.1 u.1.2) hx (fun _ h => by cases h))
        · exact hq2.elim
      · exfalso
        have h3 : ∀ f, f < 243 → zmk f = 0 ∨ (zmk f = 1 ∨ zmk f = 2) ∨ zmk f = 4 ∨ zprim f = true := by decide +kernel
        rcases h3 f hf2 with q | q | q | q
        · exact h0 q
        · exact h1 q
        · exact h4 q
        · rw [hf] at q; cases q
theorem zso_none : ∀ {as : List zV}, zclean zak Γ as = true → zso Γ as → zso none as := by
  intro as hc hs v hv
  have h := hs v hv
  rcases v with a | a | q
  · exact h
  · exact h
  · cases Γ with
    | none => exact h
    | some G =>
      have h1 := List.all_eq_true.mp hc _ hv
      have h2 : zak q.1 ≠ 9 := by simpa using h1
      exact Or.inl (zvk_ar (t := q.1) (i := q.2) h h2)
theorem zGi (f : Nat) {own : String} {ix : Nat} {ps : List Nat} (hps : zchf f ps = true) (hl : Cond.methodLink own ix (zy f) ∈ zlg) (hi : Cond.instanceMethod (zy f) ∈ zlg ∧ Cond.selects (zy f).cls (zy f) (zy f) ∈ zlg) : GoodIn zlg (wsV own ix (zy f).cls (zy f) (zws f)) := by
  obtain ⟨hc, -, hin, -⟩ := zchf_iv hps
  intro w hw
  have hm : w ∈ zlg := by
    unfold wsV at hw
    rcases List.mem_append.mp hw with h | h
    · simp only [List.mem_cons, List.not_mem_nil, or_false] at h
      rcases h with rfl | rfl | rfl | rfl
      · exact hl
      · exact hi.1
      · exact hi.2
      · exact hin
    · rcases List.mem_cons.mp h with rfl | h
      · exact hc
      · exact h
  exact ⟨hm, good_of_word (zlg_good hm)⟩
theorem zGs (f : Nat) {own : String} {ix : Nat} {ps : List Nat} (hps : zchf f ps = true) (hl : Cond.methodLink own ix (zy f) ∈ zlg) (hi : Cond.static (zy f) ∈ zlg) : GoodIn zlg (va_wsS own ix (zy f) (zws f)) := by
  obtain ⟨hc, -, hin, -⟩ := zchf_iv hps
  intro w hw
  have hm : w ∈ zlg := by
    unfold va_wsS at hw
    rcases List.mem_append.mp hw with h | h
    · simp only [List.mem_cons, List.not_mem_nil, or_false] at h
      rcases h with rfl | rfl | rfl
      · exact hl
      · exact hi
      · exact hin
    · rcases List.mem_cons.mp h with rfl | h
      · exact hc
      · exact h
  exact ⟨hm, good_of_word (zlg_good hm)⟩
theorem zNw_warm {U : State} (hW : s.WarmedH U.vm) (hn : ∀ w ∈ zln, va_Nw w s) : ∀ w ∈ zln, va_Nw w U := by
  intro w hw
  obtain ⟨a1, i1, b1, n1, d1, h1, rfl⟩ := zln_form hw
  exact va_Nw.warmF hW (hn _ hw)
end
end
section
/-! SOUNDNESS: every step, and so all -/
def zisl : List Nat := [0, 0, 0, 0, 0, 0, 0, 0, 0, 1, 1, 1, 1, 1, 1, 1, 1, 1, 1, 1, 1, 1, 1, 1, 1, 1, 1, 1, 1, 1, 1, 1, 1, 1, 1, 1, 1, 1, 1, 1, 1, 1, 1, 1, 1, 1, 1, 1, 1, 1, 1, 1, 1, 1, 1, 0, 0, 0, 0, 0, 0, 0, 1, 1, 1, 1, 1, 1, 1, 1, 1, 1, 1, 1, 1, 1, 1, 1, 1, 1, 1, 1, 1, 0, 1, 0, 0, 0, 0, 0, 0, 0, 0, 0, 0, 0, 0, 0, 0, 0, 0, 0, 0, 1, 1, 1, 1, 1, 1, 1, 1, 1, 1, 1, 1, 1, 1, 1, 1, 1, 1, 1, 1, 1, 1, 1, 1, 1, 1, 1, 1, 1, 1, 1, 1, 1, 1, 1, 1, 1, 1, 1, 1, 1, 1, 1, 1, 1, 1, 1, 1, 1, 1, 0, 1, 1, 1, 1, 1, 1, 0, 0, 0, 0, 0, 1, 1, 1, 1, 1, 1, 1, 1, 1, 1, 1, 1, 1, 1, 1, 1, 1, 1, 1, 1, 1, 1, 1, 1, 1, 1, 1, 1, 1, 1, 1, 1, 1, 1, 0, 1, 1, 1, 1, 1, 1, 1, 1, 1, 1, 1, 1, 1, 1, 1, 1, 1, 1, 1, 1, 1, 1, 1, 1, 1, 1, 1, 1, 1, 1, 1, 1, 1, 1, 1, 1, 1, 1, 1, 1, 1, 1, 1, 2]
/-- 1: a method of an object, 0: a static one -/
def zis (f : Nat) : Nat := zgd zisl f 0
theorem zis_p : ((zFP_0 ++ (zFP_1 ++ (zFP_2 ++ (zFP_3 ++ (zFP_4 ++ (zFP_5)))))).all fun q => decide ((zis q.1 = 0 ∧ zgd q.2 2 0 = 9999) ∨ (zis q.1 = 1 ∧ zgd q.2 2 0 ≠ 9999))) = true := by decide +kernel
def zisB (i : Instr) (a : Nat) : Bool := match i with
  | .invokevirtual _ => decide (zis a = 1)
  | .invokestatic _ => zprim a || decide (zis a = 0)
  | _ => true
theorem zis_c : (zCT.all fun c => c.all fun e => zisB e.2.2.1 e.2.2.2.1) = true := by decide +kernel
theorem zf_ok2 {f : Nat} (h0 : zprim f = false) (h : f < 243) : ∃ ps, zchf f ps = true ∧ ((zis f = 0 ∧ Cond.static (zy f) ∈ zlg) ∨ (zis f = 1 ∧ Cond.instanceMethod (zy f) ∈ zlg ∧ Cond.selects (zy f).cls (zy f) (zy f) ∈ zlg)) := by
  have h1 := List.any_eq_true.mp (zFP_in f h h0)
  obtain ⟨q, hq, he⟩ := h1
  have e : q.1 = f := of_decide_eq_true he
  have h2 := zFP_all q hq
  have h3 := List.all_eq_true.mp zis_p q hq
  rw [e] at h2
  simp only [decide_eq_true_eq] at h3
  rw [e] at h3
  refine ⟨q.2, h2, ?_⟩
  obtain ⟨f', ps⟩ := q
  dsimp only at h2 h3
  unfold zchf at h2
  split at h2
  · next a b c d =>
    simp only [Bool.and_eq_true] at h2
    obtain ⟨⟨⟨⟨⟨⟨g1, g2⟩, g3⟩, g4⟩, g5⟩, g6⟩, g7⟩ := h2
    rcases h3 with ⟨i1, i2⟩ | ⟨i1, i2⟩
    · refine Or.inl ⟨i1, ?_⟩
      have : c = 9999 := i2
      rw [if_pos this] at g2
      exact zat_in g2
    · refine Or.inr ⟨i1, ?_⟩
      have : c ≠ 9999 := i2
      rw [if_neg this, Bool.and_eq_true] at g2
      exact ⟨zat_in g2.1, zat_in g2.2⟩
  · cases h2
section
variable {p : Program} {l : Launch} {e : Env} {R : Room} {s : State} {mm : MethodId} {args : Array Value} {below : List Frame} {meth : Method} {c : Code}
variable {ad : Nat → Nat → Nat} {dC : Nat → ClassId} {dI : Nat → Nat → Nat} {tyI tyZ tyL : ClassId} {A : Nat → Prop} {b : Nat} {Γ : zG} {d m cells slots : Nat} {Qm : State → Prop}
theorem zdesc {y : MethodName} {n : Nat} (h : (parseMethodDescriptor y.desc).map (fun d => d.parameters.length + 1) = some (n + 1)) : (parseMethodDescriptor y.desc).map (fun d => d.parameters.length) = some n := by
  cases hq : parseMethodDescriptor y.desc with
  | none => rw [hq] at h; cases h
  | some sg =>
    rw [hq] at h
    have h2 : sg.parameters.length + 1 = n + 1 := Option.some.inj h
    exact congrArg some (show sg.parameters.length = n by omega)
set_option maxHeartbeats 4000000 in
theorem zcx_ok (C : zCx p R s mm args c ad dC dI tyI tyZ tyL A b Γ d m cells slots) {ins : Instr} {a b' pc len pos f : Nat} {k : Int} {as r : List zV} {st : List zV} {μ : zM} {nx : List zV → zM → Prop} (hdg : decode (zby m) pc = .ok (ins, len)) (hil : zil ins = 0 ∨ len = zil ins) (hlk : zlk (zy m).cls (pc, len, ins, a, b', k) pos = true)
    (hisc : zisB ins a = true) (heq : zcx zak Γ ins a b' k st = some (f, as, r))
    {H : Heap} {locs : List Loc} {lsM : Array Slot} {ls : List (Option zV)} (hh : zHp s ad dC dI tyI tyZ tyL A μ H locs) (hl : zLo ad (zml m) lsM ls) (hs : zso Γ st) (hX : zcall zSX d f as μ (zQm f nx))
    (kk : ∀ v μ' H' locs', nx v μ' → zHp s ad dC dI tyI tyZ tyL A μ' H' locs' → zso none v → W p l e R s mm args below meth c H' locs' cells slots Qm (F0 mm (pc + len) lsM ((v ++ r).map (zvl ad)))) : W p l e R s mm args below meth c H locs cells slots Qm (F0 mm pc lsM (st.map (zvl ad))) := by
  obtain ⟨⟨hx, hb, hml, hown⟩, ⟨hts, hnw⟩, hK, hA, ⟨hR1, hR2, hR3, hR4⟩, hE, hG⟩ := C
  have hh0 := hh
  obtain ⟨hP, hD, hS, hmo⟩ := hh0
  unfold zcall at hX
  cases d with
  | zero => exact hX.elim
  | succ d' =>
    dsimp only at hX
    cases hble : Nat.ble (zexp as).length (zml f) with
    | false => rw [hble] at hX; exact hX.elim
    | true =>
      rw [hble] at hX
      have hlen : (zexp as).length ≤ zml f := Nat.le_of_ble_eq_true hble
      unfold zcx at heq
      split at heq
      · next ix =>
        obtain rfl : len = 3 := by simpa [zil] using hil
        split at heq
        · cases heq
        · next hp =>
          have hp : zprim a = false := by simpa using hp
          split at heq
          · next t j vs r' htk =>
            split at heq
            · next htc =>
              split at heq
              · next hz8 =>
                split at heq
                · next hcl =>
                  cases heq
                  obtain ⟨xs, h1, h2, h3⟩ := ztake_iv _ _ _ _ _ htk
                  rw [List.append_nil] at h2
                  have hst : st = (zR t j :: vs).reverse ++ r := by rw [h2, List.reverse_reverse]; exact h1
                  have hs1 : zso Γ (zR t j :: vs) := fun w hw => hs w (by rw [hst]; exact List.mem_append_left _ (List.mem_reverse.mpr hw))
                  have hs2 := zso_none hcl hs1
                  simp only [zlk, Bool.and_eq_true, decide_eq_true_eq] at hlk
                  obtain ⟨⟨⟨k1, k2⟩, k3⟩, k4⟩ := hlk
                  have k2' : a < 244 := Nat.lt_of_lt_of_le k2 (show zYL.length ≤ 244 by decide +kernel)
                  have ha : a < 243 := by
                    rcases Nat.lt_or_ge a 243 with q | q
                    · exact q
                    · have : a = 243 := by omega
                      subst this
                      exact absurd (show decide (zis 243 = 1) = true from hisc) (by decide +kernel)
                  obtain ⟨ps, hps, hii⟩ := zf_ok2 hp ha
                  have hi : Cond.instanceMethod (zy a) ∈ zlg ∧ Cond.selects (zy a).cls (zy a) (zy a) ∈ zlg := by
                    simp only [zisB, decide_eq_true_eq] at hisc
                    rcases hii with ⟨q, -⟩ | ⟨-, q⟩
                    · omega
                    · exact q
                  obtain ⟨hcw, -, hin, hm17, hpl, hmh, -⟩ := zchf_iv hps
                  have hG := zGi a hps (zat_in k1) hi
                  have hb1 : b' = vs.length + 1 := by
                    have : (zR t j :: vs).length = b' := by rw [h2, List.length_reverse]; exact h3
                    rw [← this]; rfl
                  rw [hb1] at k4
                  have ht0 : 0 < t ∧ t < 10 := by
                    have h5 : ∀ t, t < 44 → 0 < zcn t → zTn t ≠ "" → 0 < t ∧ t < 10 := by decide +kernel
                    have hj : j < zcn t := by
                      rcases zso_h hs2 with q | q
                      · exact q
                      · exact absurd q.2.2 (by simp)
                    refine h5 t (zcn_lt hj) (by omega) ?_
                    have e : k.toNat = t := by omega
                    rw [e] at k3
                    rw [← k3]
                    have h6 : ∀ a, a < 243 → (zy a).cls ≠ "" := by decide +kernel
                    exact h6 a ha
                  have hj : j < zcn t := zvk_of (zso_h hs2) ht0.1
                  have ho : zak t = 0 := by
                    have h7 : ∀ t, t < 10 → 0 < t → zak t = 0 := by decide +kernel
                    exact h7 t ht0.2 ht0.1
                  obtain ⟨g1, -⟩ := zTg_all t ht0.1 ht0.2
                  obtain ⟨q0, hq1, hq2⟩ := zob_at (ad := ad) (tyI := tyI) (tyZ := tyZ) (tyL := tyL) (μ := μ) hj ho
                  have hrecv := va_recv hK hP g1 hq2
                  have e : k.toNat = t := by omega
                  rw [e] at k3
                  refine zcall_end (st := st.map (zvl ad)) hp ha hX hs2 hlen hh hA (fun Qc hM => ?_) kk
                  refine va_runV (As := vs.map (zvl ad)) (rest := r.map (zvl ad)) (b := ad t j) ⟨hx, hb, hml, hown, hts⟩ hM (cwV vs.length hts hG rfl rfl rfl ⟨rfl, hmh.1, hmh.2, zdesc k4⟩ ⟨by show d' + 1 ≤ R.frames; exact hR1, by show 8 + (zml a + 11) + 36 * d' ≤ R.locals; omega⟩) ⟨zPc_blind, by rw [k3]; exact hrecv, fun U hU hW => ⟨rfl, by rw [hU], by rw [hU]; exact hP, va_K.moved hW.alike hK, hD.weaken (fun _ _ _ _ => trivial), zNw_warm hW hnw⟩⟩ rfl (by simp) hl.2.1 ?_ (lv_room (by rw [zsum_ok]; exact hz8)) hdg ⟨hR3, hR4⟩
                  show st.map (zvl ad) = _
                  rw [hst]
                  simp [zvl]
                · cases heq
              · cases heq
            · cases heq
          · cases heq
      · next ix =>
        obtain rfl : len = 3 := by simpa [zil] using hil
        split at heq
        · cases heq
        · next hp =>
          have hp : zprim a = false := by simpa using hp
          split at heq
          · next vs r' htk =>
            split at heq
            · next hz8 =>
              split at heq
              · next hcl =>
                cases heq
                obtain ⟨xs, h1, h2, h3⟩ := ztake_iv _ _ _ _ _ htk
                rw [List.append_nil] at h2
                have hst : st = as.reverse ++ r := by rw [h2, List.reverse_reverse]; exact h1
                have hs1 : zso Γ as := fun w hw => hs w (by rw [hst]; exact List.mem_append_left _ (List.mem_reverse.mpr hw))
                have hs2 := zso_none hcl hs1
                have ha0 : a ≠ 0 := by
                  rintro rfl
                  cases hp
                simp only [zlk, if_neg ha0, Bool.and_eq_true, decide_eq_true_eq] at hlk
                obtain ⟨⟨k1, k2⟩, k4⟩ := hlk
                have k2' : a < 244 := Nat.lt_of_lt_of_le k2 (show zYL.length ≤ 244 by decide +kernel)
                have ha : a < 243 := by
                  rcases Nat.lt_or_ge a 243 with q | q
                  · exact q
                  · have h8 : a = 243 := by omega
                    subst h8
                    exact absurd (show (zprim 243 || decide (zis 243 = 0)) = true from hisc) (by decide +kernel)
                obtain ⟨ps, hps, hii⟩ := zf_ok2 hp ha
                have hi : Cond.static (zy a) ∈ zlg := by
                  simp only [zisB, hp, Bool.false_or, decide_eq_true_eq] at hisc
                  rcases hii with ⟨-, q⟩ | ⟨q, -⟩
                  · exact q
                  · omega
                obtain ⟨hcw, -, hin, hm17, hpl, hmh, -⟩ := zchf_iv hps
                have hG := zGs a hps (zat_in k1) hi
                have hb1 : b' = as.length := by rw [h2, List.length_reverse]; exact h3.symm
                rw [hb1] at k4
                refine zcall_end (st := st.map (zvl ad)) hp ha hX hs2 hlen hh hA (fun Qc hM => ?_) kk
                refine va_runS (As := as.map (zvl ad)) (rest := r.map (zvl ad)) ⟨hx, hb, hml, hown, hts⟩ hM (va_cwS as.length hts hG rfl rfl rfl ⟨hmh.1, hmh.2, k4⟩ ⟨by show d' + 1 ≤ R.frames; exact hR1, by show 8 + (zml a + 11) + 36 * d' ≤ R.locals; omega⟩) ⟨zPc_blind, fun U hU hW => ⟨rfl, by rw [hU], by rw [hU]; exact hP, va_K.moved hW.alike hK, hD.weaken (fun _ _ _ _ => trivial), zNw_warm hW hnw⟩⟩ rfl (by simp) hl.2.1 ?_ (lv_room (by rw [zsum_ok]; exact hz8)) hdg ⟨hR3, hR4⟩
                show st.map (zvl ad) = _
                rw [hst]
                simp
              · cases heq
            · cases heq
          · cases heq
      · cases heq
end
end
section
section
variable {p : Program} {l : Launch} {e : Env} {R : Room} {s : State} {mm : MethodId} {args : Array Value} {below : List Frame} {meth : Method} {c : Code}
variable {ad : Nat → Nat → Nat} {dC : Nat → ClassId} {dI : Nat → Nat → Nat} {tyI tyZ tyL : ClassId} {A : Nat → Prop} {b : Nat} {Γ : zG} {d m cells slots : Nat} {Qm : State → Prop}
theorem ztg {pc : Nat} {o : Int} (h : 0 ≤ (pc : Int) + o) : (pc : Int) + o = ((((pc : Int) + o).toNat : Nat) : Int) := (Int.toNat_of_nonneg h).symm
set_option maxHeartbeats 4000000 in
theorem zbx_ok (C : zCx p R s mm args c ad dC dI tyI tyZ tyL A b Γ d m cells slots) {ins : Instr} {a b' pc len : Nat} {k o : Int} {st st' : List zV} {cnd : Prop} (hdg : decode (zby m) pc = .ok (ins, len)) (hil : zil ins = 0 ∨ len = zil ins) (hok : zok (pc, len, ins, a, b', k) = true) (heq : zbx ins st = some (cnd, o, st')) (hs : zso Γ st)
    {H : Heap} {locs : List Loc} {lsM : Array Slot} (kt : cnd → zso Γ st' → W p l e R s mm args below meth c H locs cells slots Qm (F0 mm ((pc : Int) + o).toNat lsM (st'.map (zvl ad)))) (kf : ¬ cnd → zso Γ st' → W p l e R s mm args below meth c H locs cells slots Qm (F0 mm (pc + len) lsM (st'.map (zvl ad)))) : W p l e R s mm args below meth c H locs cells slots Qm (F0 mm pc lsM (st.map (zvl ad))) := by
  obtain ⟨⟨hx, hb, hml, hown⟩, -⟩ := C
  unfold zbx at heq
  split at heq
  · next cd off =>
    obtain rfl : len = 3 := by simpa [zil] using hil
    have ht : 0 ≤ (pc : Int) + off := by simpa [zok] using hok
    split at heq
    · next y x r =>
      cases heq
      have hy := zso_h hs
      have hx2 := zso_h (zso_t hs)
      have hr := zso_t (zso_t hs)
      cases cd with
      | eq => exact lv_icmp_eq hx hb hdg (ztg ht) (fun h => kt ((z_eqi hx2 hy).mp h) hr) (fun h => kf (fun q => h ((z_eqi hx2 hy).mpr q)) hr)
      | ne => exact lv_icmp_ne hx hb hdg (ztg ht) (fun h => kt (fun q => h ((z_eqi hx2 hy).mpr q)) hr) (fun h => kf (fun q => q ((z_eqi hx2 hy).mp h)) hr)
      | lt => exact lv_icmp_lt hx hb hdg (ztg ht) (fun h => kt ((z_lti hx2 hy).mp h) hr) (fun h => kf (fun q => h ((z_lti hx2 hy).mpr q)) hr)
      | ge => exact lv_icmp_ge hx hb hdg (ztg ht) (fun h => kt ((z_lei hy hx2).mp h) hr) (fun h => kf (fun q => h ((z_lei hy hx2).mpr q)) hr)
      | gt => exact lv_icmp_gt hx hb hdg (ztg ht) (fun h => kt ((z_lti hy hx2).mp h) hr) (fun h => kf (fun q => h ((z_lti hy hx2).mpr q)) hr)
      | le => exact lv_icmp_le hx hb hdg (ztg ht) (fun h => kt ((z_lei hx2 hy).mp h) hr) (fun h => kf (fun q => h ((z_lei hx2 hy).mpr q)) hr)
    · cases heq
  · next cd off =>
    obtain rfl : len = 3 := by simpa [zil] using hil
    have ht : 0 ≤ (pc : Int) + off := by simpa [zok] using hok
    split at heq
    · next x r =>
      cases heq
      have hx2 := zso_h hs
      have hr := zso_t hs
      cases cd with
      | eq => exact lv_if_eq hx hb hdg (ztg ht) (fun h => kt ((z_eqi hx2 z_zero).mp h) hr) (fun h => kf (fun q => h ((z_eqi hx2 z_zero).mpr q)) hr)
      | ne => exact lv_if_ne hx hb hdg (ztg ht) (fun h => kt (fun q => h ((z_eqi hx2 z_zero).mpr q)) hr) (fun h => kf (fun q => q ((z_eqi hx2 z_zero).mp h)) hr)
      | lt => exact lv_if_lt hx hb hdg (ztg ht) (fun h => kt ((z_lti hx2 z_zero).mp h) hr) (fun h => kf (fun q => h ((z_lti hx2 z_zero).mpr q)) hr)
      | ge => exact lv_if_ge hx hb hdg (ztg ht) (fun h => kt ((z_lei z_zero hx2).mp h) hr) (fun h => kf (fun q => h ((z_lei z_zero hx2).mpr q)) hr)
      | gt => exact lv_if_gt hx hb hdg (ztg ht) (fun h => kt ((z_lti z_zero hx2).mp h) hr) (fun h => kf (fun q => h ((z_lti z_zero hx2).mpr q)) hr)
      | le => exact lv_if_le hx hb hdg (ztg ht) (fun h => kt ((z_lei hx2 z_zero).mp h) hr) (fun h => kf (fun q => h ((z_lei hx2 z_zero).mpr q)) hr)
    · cases heq
  · cases heq
theorem zrow_ok {μ : zM} {t k sp u j dp n : Nat} (ho : zak u = 1) {x : Nat} (hk : zob[x]? = some (u, j)) : (zwd ad tyI tyZ tyL μ).set x (ad u j, .inl (tyI, zal u, .inl (va_cpy (fun i => Int32.ofInt (μ t k i)) (fun i => Int32.ofInt (μ u j i)) sp dp n))) = zwd ad tyI tyZ tyL (zcpy μ t k sp u j dp n) := by
  rw [← zwd_cpy hk]
  have e : va_cpy (fun i => Int32.ofInt (μ t k i)) (fun i => Int32.ofInt (μ u j i)) sp dp n = fun i => Int32.ofInt (zcpy μ t k sp u j dp n u j i) := by
    funext i
    unfold va_cpy zcpy
    by_cases h : dp ≤ i ∧ i < dp + n
    · rw [if_pos h, if_pos ⟨rfl, rfl, h⟩]
    · rw [if_neg h, if_neg (fun q => h q.2.2)]
  rw [e]
  congr 2
  simp only [zcl, ho]
theorem zmo_cpy {μ : zM} (h : zmo μ) {t k sp u j dp n : Nat} (h1 : zak t = 1) (h2 : zak u = 1) : zmo (zcpy μ t k sp u j dp n) := by
  intro t' i' k'
  unfold zcpy
  split
  · next q =>
    obtain ⟨rfl, rfl, -⟩ := q
    have e : zsk t' k' = 1 := by unfold zsk; rw [h2]; rfl
    rw [e]
    exact ⟨fun _ => zmo1 h h1, fun q => by omega, fun q => by omega⟩
  · exact h t' i' k'
set_option maxHeartbeats 8000000 in
theorem zox_ok (C : zCx p R s mm args c ad dC dI tyI tyZ tyL A b Γ d m cells slots) {ins : Instr} {a b' pc len pos : Nat} {k : Int} {ls : List (Option zV)} {st : List zV} {μ : zM} {go : Int → List zV → Prop} {nx : List zV → zM → Prop} {Q : zQ} (hdg : decode (zby m) pc = .ok (ins, len)) (hil : zil ins = 0 ∨ len = zil ins) (hok : zok (pc, len, ins, a, b', k) = true) (hlk : zlk (zy m).cls (pc, len, ins, a, b', k) pos = true)
    {H : Heap} {locs : List Loc} {lsM : Array Slot} (hh : zHp s ad dC dI tyI tyZ tyL A μ H locs) (hl : zLo ad (zml m) lsM ls) (hs : zso Γ st) (h : zox zak zal go (fun st' μ' => znat d (nx st' μ')) Q (zmk m) ins a st μ)
    (kg : ∀ o st', go o st' → 0 ≤ (pc : Int) + o → zso Γ st' → W p l e R s mm args below meth c H locs cells slots Qm (F0 mm ((pc : Int) + o).toNat lsM (st'.map (zvl ad))))
    (kn : ∀ st' μ' H' locs', nx st' μ' → zHp s ad dC dI tyI tyZ tyL A μ' H' locs' → zso Γ st' → W p l e R s mm args below meth c H' locs' cells slots Qm (F0 mm (pc + len) lsM (st'.map (zvl ad))))
    (kr : ∀ v, Q v μ → (∀ w, v = some w → zvk Γ w) → zRet m v pc → W p l e R s mm args below meth c H locs cells slots Qm (F0 mm pc lsM (zov ad v))) : W p l e R s mm args below meth c H locs cells slots Qm (F0 mm pc lsM (st.map (zvl ad))) := by
  obtain ⟨⟨hx, hb, hml, hown⟩, ⟨hts, hnw⟩, hK, hA, ⟨hR1, hR2, hR3, hR4⟩, hE, hG⟩ := C
  have hh0 := hh
  obtain ⟨hP, hD, hS, hmo⟩ := hh0
  unfold zox at h
  split at h
  · next off =>
    have ht : 0 ≤ (pc : Int) + off := by simpa [zok] using hok
    obtain rfl : len = 3 := by simpa [zil] using hil
    exact lv_goto hx hb hdg (ztg ht) (kg _ _ h ht hs)
  · next off =>
    have ht : 0 ≤ (pc : Int) + off := by simpa [zok] using hok
    obtain rfl : len = 3 := by simpa [zil] using hil
    split at h
    · next q r => exact lv_ifnonnull hx hb hdg (ztg ht) (kg _ _ h ht (zso_t hs))
    · exact h.elim
  · next dd lo hi os =>
    simp only [zok, Bool.and_eq_true, decide_eq_true_eq, List.all_eq_true] at hok
    obtain ⟨⟨h1, h2⟩, h3⟩ := hok
    split at h
    · next x r =>
      have hz : zin x := zso_h hs
      have hti := z_ti hz
      by_cases hr : x < lo ∨ hi < x
      · exact lv_tableOut hx hb hdg (x := Int32.ofInt x) (by rw [hti]; exact hr) (ztg h1) (kg _ _ (h.1 hr) h1 (zso_t hs))
      · have hj : (x - lo).toNat < os.toList.length := by omega
        have ho : os.toList[(x - lo).toNat]? = some os.toList[(x - lo).toNat] := List.getElem?_eq_getElem hj
        have hgo := zswt_at os.toList lo h.2 (x - lo).toNat _ ho (by omega)
        have h4 := h2 _ (List.getElem_mem hj)
        exact lv_tableIn hx hb hdg (x := Int32.ofInt x) (off := os.toList[(x - lo).toNat]) (by rw [hti]; omega) (by rw [hti]; omega) (by rw [hti, ← Array.getElem?_toList]; exact ho) (ztg h4) (kg _ _ hgo h4 (zso_t hs))
    · exact h.elim
  · next dd ps =>
    simp only [zok, Bool.and_eq_true, decide_eq_true_eq, List.all_eq_true] at hok
    obtain ⟨⟨⟨h1, h2⟩, h3⟩, h4⟩ := hok
    split at h
    · next x r =>
      have hz : zin x := zso_h hs
      have hti := z_ti hz
      have hgo := zlks_at ps.toList h
      have ht : 0 ≤ (pc : Int) + Op.lookupswitch.offset ps.toList dd x := by
        have : ∀ (l : List (Int × Int)), (∀ q ∈ l, 0 ≤ (pc : Int) + q.2) → 0 ≤ (pc : Int) + Op.lookupswitch.offset l dd x := by
          intro l
          induction l with
          | nil => intro _; exact h1
          | cons q l ih =>
            intro hq
            obtain ⟨k1, o1⟩ := q
            rw [Op.lookupswitch.offset_cons]
            split
            · exact hq (k1, o1) List.mem_cons_self
            · exact ih fun y hy => hq y (List.mem_cons_of_mem _ hy)
        exact this ps.toList h2
      refine lv_lookup hx hb hdg (x := Int32.ofInt x) (off := Op.lookupswitch.offset ps.toList dd x) ?_ (by rw [hti]) (ztg ht) (kg _ _ hgo ht (zso_t hs))
      exact List.all_eq_true.mpr fun ⟨q1, q2⟩ hq => decide_eq_true (h3 (q1, q2) hq)
    · exact h.elim
  · obtain rfl : len = 1 := by simpa [zil] using hil
    split at h
    · split at h
      · next hk => exact kr none h (fun w hw => by cases hw) (by unfold zRet; rw [hk]; exact ⟨rfl, hdg⟩)
      · exact h.elim
    · exact h.elim
  · obtain rfl : len = 1 := by simpa [zil] using hil
    split at h
    · next v =>
      split at h
      · next hk => exact kr (some (zI v)) h (fun w hw => by cases hw; exact zso_h hs) (by unfold zRet; rw [hk]; exact ⟨v, rfl, hdg⟩)
      · next hk => exact kr (some (zI v)) h.2 (fun w hw => by cases hw; exact zso_h hs) (by unfold zRet; rw [hk]; exact ⟨v, rfl, h.1, hdg⟩)
      · exact h.elim
    · exact h.elim
  · obtain rfl : len = 1 := by simpa [zil] using hil
    split at h
    · next t j =>
      split at h
      · next hk => exact kr (some (zR t j)) h (fun w hw => by cases hw; exact zso_h hs) (by unfold zRet; rw [hk]; exact ⟨t, j, rfl, hdg⟩)
      · exact h.elim
    · exact h.elim
  · next ix =>
    obtain rfl : len = 3 := by simpa [zil] using hil
    split at h
    · split at h
      · next n dp u j sp t k' r =>
        split at h
        · next hat hau =>
          split at h
          · next hz8 =>
            obtain ⟨⟨g1, g2, g3, g4, g5⟩, hn⟩ := h
            cases d with
            | zero => exact hn.elim
            | succ d' =>
              have hti := zvk_ar (zso_h (zso_t (zso_t (zso_t (zso_t hs))))) (by rw [hat]; decide)
              have hui := zvk_ar (zso_h (zso_t (zso_t hs))) (by rw [hau]; decide)
              obtain ⟨q0, hq1, hq2⟩ := zar1 (ad := ad) (tyI := tyI) (tyZ := tyZ) (tyL := tyL) (μ := μ) hti hat
              obtain ⟨q3, hq4, hq5⟩ := zar1 (ad := ad) (tyI := tyI) (tyZ := tyZ) (tyL := tyL) (μ := μ) hui hau
              simp only [zlk, if_pos] at hlk
              have zn := zso_h hs
              have zd := zso_h (zso_t hs)
              have zs := zso_h (zso_t (zso_t (zso_t hs)))
              have nn : ∀ {x : Int}, zin x → 0 ≤ x → ¬ Int32.ofInt x < 0 := fun {x} hz h0 q => by
                have := (z_lti hz z_zero).mp q
                omega
              refine va_copyi (D := (dC, dI)) hx hb (by rw [hml]; exact hl.2.1.symm) hown (hts _ (zat_in hlk)) (hts _ zcopy_w.1) (hts _ zcopy_w.2.1) (hts _ zcopy_w.2.2) hK hP hD hS q0 q3 0 0 hq2 hq5 rfl rfl rfl (nn zs g2) (nn zd g3) (nn zn g1) (by rw [z_cl zs, z_cl zn]; omega) (by rw [z_cl zd, z_cl zn]; omega) (fun _ _ => rfl) (by omega) ?_ hdg fun H1 locs1 hP1 hD1 hS1 => ?_
              · rw [zsum_ok]
                show zsum r + (nativeFrameWords "java/lang/System" "arraycopy" 5 + 11) ≤ R.locals
                have e7 : nativeFrameWords "java/lang/System" "arraycopy" 5 = 7 := by decide +kernel
                omega
              · rw [z_cl zs, z_cl zd, z_cl zn, zrow_ok hau hq4] at hP1 hD1
                exact kn _ _ _ _ hn ⟨hP1, hD1, hS1, zmo_cpy hmo hat hau⟩ (zso_t (zso_t (zso_t (zso_t (zso_t hs)))))
          · exact h.elim
        · exact h.elim
      · exact h.elim
    · split at h
      · next x r =>
        split at h
        · next hz8 =>
          cases d with
          | zero => exact h.elim
          | succ d' =>
            simp only [zlk] at hlk
            rw [if_neg (by decide)] at hlk
            simp only [Bool.and_eq_true] at hlk
            have hlk := hlk.1.1
            obtain ⟨w1, w2, w3, w4⟩ := zma_abs
            have hw := zat_in hlk
            rw [w4] at hw
            refine va_mabs hx hb (by rw [hml]; exact hl.2.1.symm) hown (hts _ hw) (hts _ w2) (hts _ w3) (hts _ w1) (by omega) (by rw [zsum_ok]; omega) hR3 hR4 hdg ?_
            have zx := zso_h hs
            have e : (if 0 ≤ Int32.ofInt x then Int32.ofInt x else 0 - Int32.ofInt x) = Int32.ofInt (zabs x) := by
              unfold zabs
              by_cases q : 0 ≤ x
              · rw [if_pos (show (0 : Int32) ≤ Int32.ofInt x from (z_lei z_zero zx).mpr q), if_pos q]
              · rw [if_neg (show ¬ (0 : Int32) ≤ Int32.ofInt x from fun z => q ((z_lei z_zero zx).mp z)), if_neg q]
                exact z_sub 0 x
            rw [e]
            refine kn _ _ _ _ h hh (zso_c (v := zI (zabs x)) ?_ (zso_t hs))
            show zin (zabs x)
            unfold zabs
            split
            · exact zx
            · exact z_w32 _
        · exact h.elim
      · exact h.elim
    · split at h
      · next y x r =>
        split at h
        · next hz8 =>
          cases d with
          | zero => exact h.elim
          | succ d' =>
            simp only [zlk] at hlk
            rw [if_neg (by decide)] at hlk
            simp only [Bool.and_eq_true] at hlk
            have hlk := hlk.1.1
            obtain ⟨w1, w2, w3, w4⟩ := zma_max
            have hw := zat_in hlk
            rw [w4] at hw
            refine va_mmax hx hb (by rw [hml]; exact hl.2.1.symm) hown (hts _ hw) (hts _ w2) (hts _ w3) (hts _ w1) (by omega) (by rw [zsum_ok]; omega) hR3 hR4 hdg ?_
            have zy := zso_h hs
            have zx := zso_h (zso_t hs)
            have e : (if Int32.ofInt x < Int32.ofInt y then Int32.ofInt y else Int32.ofInt x) = Int32.ofInt (zmax x y) := by
              unfold zmax
              by_cases q : x < y
              · rw [if_pos ((z_lti zx zy).mpr q), if_pos q]
              · rw [if_neg (fun z => q ((z_lti zx zy).mp z)), if_neg q]
            rw [e]
            refine kn _ _ _ _ h hh (zso_c (v := zI (zmax x y)) ?_ (zso_t (zso_t hs)))
            show zin (zmax x y)
            unfold zmax
            split
            · exact zy
            · exact zx
        · exact h.elim
      · exact h.elim
    · split at h
      · next y x r =>
        split at h
        · next hz8 =>
          cases d with
          | zero => exact h.elim
          | succ d' =>
            simp only [zlk] at hlk
            rw [if_neg (by decide)] at hlk
            simp only [Bool.and_eq_true] at hlk
            have hlk := hlk.1.1
            obtain ⟨w1, w2, w3, w4⟩ := zma_min
            have hw := zat_in hlk
            rw [w4] at hw
            refine va_mmin hx hb (by rw [hml]; exact hl.2.1.symm) hown (hts _ hw) (hts _ w2) (hts _ w3) (hts _ w1) (by omega) (by rw [zsum_ok]; omega) hR3 hR4 hdg ?_
            have zy := zso_h hs
            have zx := zso_h (zso_t hs)
            have e : (if Int32.ofInt y < Int32.ofInt x then Int32.ofInt y else Int32.ofInt x) = Int32.ofInt (zmin x y) := by
              unfold zmin
              by_cases q : y < x
              · rw [if_pos ((z_lti zy zx).mpr q), if_pos q]
              · rw [if_neg (fun z => q ((z_lti zy zx).mp z)), if_neg q]
            rw [e]
            refine kn _ _ _ _ h hh (zso_c (v := zI (zmin x y)) ?_ (zso_t (zso_t hs)))
            show zin (zmin x y)
            unfold zmin
            split
            · exact zy
            · exact zx
        · exact h.elim
      · exact h.elim
    · exact h.elim
  · exact h.elim
end
theorem zSX_mo : zMo zSX := by
  intro Γ d m es ls st μ Q Q' hQ h p l e R s mm args below meth c ad dC dI tyI tyZ tyL A b cells slots Qm pc H locs lsM C h1 h2 h3 h4 h5 h6 hr
  exact h p l e R s mm args below meth c ad dC dI tyI tyZ tyL A b cells slots Qm pc H locs lsM C h1 h2 h3 h4 h5 h6 (fun v μ' pc' H' locs' lsM' q => hr v μ' pc' H' locs' lsM' (hQ v μ' q))
theorem zSX_mk : zMk zSX := by
  intro Γ d m es bb ls st μ Q h p l e R s mm args below meth c ad dC dI tyI tyZ tyL A b cells slots Qm pc H locs lsM C h1 h2 h3 h4 h5 h6 hr
  exact h p l e R s mm args below meth c ad dC dI tyI tyZ tyL A b cells slots Qm pc H locs lsM C h1 h2 h3 (zLo_sub h4 (by rw [zmask_len]; exact h4.1) (fun i u hu => znth_mask bb ls i u hu)) h5 (fun i v hv => h6 i v (znth_mask bb ls i v hv)) hr
set_option maxHeartbeats 4000000 in
theorem zSX_cl : zCl zSX := by
  intro Γ d m g r ls st μ Q h p l e R s mm args below meth c ad dC dI tyI tyZ tyL A b cells slots Qm pc H locs lsM C hsuf hhd hh hl hs hv hr
  have hpc : g.1 = pc := hhd
  subst hpc
  have hmem : g ∈ zcode m := hsuf.subset List.mem_cons_self
  have hE := C.2.2.2.2.2.1
  obtain ⟨pos, hpos⟩ := hE.1 g hmem
  have hil := zil_all hmem
  have hsr : r <:+ zcode m := List.IsSuffix.trans (List.suffix_cons g r) hsuf
  have hdr : zhd r (g.1 + g.2.1) := zco_suf _ g r hE.2.1 hsuf
  have hisc : zisB g.2.2.1 g.2.2.2.1 = true := by
    rcases zcode_in m with q | q
    · rw [q] at hmem; cases hmem
    · exact List.all_eq_true.mp (List.all_eq_true.mp zis_c _ q) g hmem
  simp only [zche, Bool.and_eq_true, decide_eq_true_eq] at hpos
  obtain ⟨⟨hdg, hok⟩, hlk⟩ := hpos
  obtain ⟨pc, len, ins, a, b', k⟩ := g
  dsimp only at hdg hok hlk hil hdr hisc
  unfold zstep zst at h
  dsimp only at h
  split at h
  · next ls' st' μ' heq =>
    exact zsx_ok C hdg hil hok hlk heq (fun P q => by cases q) hh hl hs hv fun H' locs' lsM' h1 h2 h3 h4 => h p l e R s mm args below meth c ad dC dI tyI tyZ tyL A b cells slots Qm _ H' locs' lsM' C hsr hdr h1 h2 h3 h4 hr
  · next P ls' st' μ' heq =>
    exact zsx_ok C hdg hil hok hlk heq (fun P q => by cases q; exact h.1) hh hl hs hv fun H' locs' lsM' h1 h2 h3 h4 => h.2 p l e R s mm args below meth c ad dC dI tyI tyZ tyL A b cells slots Qm _ H' locs' lsM' C hsr hdr h1 h2 h3 h4 hr
  · split at h
    · next cnd o st' heq =>
      exact zbx_ok C hdg hil hok heq hs (fun hc h3 => h.1 hc p l e R s mm args below meth c ad dC dI tyI tyZ tyL A b cells slots Qm _ H locs lsM C (zsf_suf m _) (zsf_hd m _) hh hl h3 hv hr) (fun hc h3 => h.2 hc p l e R s mm args below meth c ad dC dI tyI tyZ tyL A b cells slots Qm _ H locs lsM C hsr hdr hh hl h3 hv hr)
    · split at h
      · next f as r' heq =>
        have hr2 : zso Γ r' := by
          unfold zcx at heq
          have key : ∀ n vs, ztake n [] st = some (vs, r') → zso Γ r' := by
            intro n vs hq
            obtain ⟨xs, h1, -, -⟩ := ztake_iv _ _ _ _ _ hq
            exact fun w hw => hs w (by rw [h1]; exact List.mem_append_right _ hw)
          split at heq
          · split at heq
            · cases heq
            · split at heq
              · next t j vs r2 hq =>
                split at heq
                · split at heq
                  · split at heq
                    · cases heq; exact key _ _ hq
                    · cases heq
                  · cases heq
                · cases heq
              · cases heq
          · split at heq
            · cases heq
            · split at heq
              · next vs r2 hq =>
                split at heq
                · split at heq
                  · cases heq; exact key _ _ hq
                  · cases heq
                · cases heq
              · cases heq
          · cases heq
        refine zcx_ok C hdg hil hlk hisc heq hh hl hs h fun v μ' H' locs' hn h1 h3 => ?_
        refine hn p l e R s mm args below meth c ad dC dI tyI tyZ tyL A b cells slots Qm _ H' locs' lsM C hsr hdr h1 hl ?_ hv hr
        intro w hw
        rcases List.mem_append.mp hw with q | q
        · have := h3 w q
          rcases w with a1 | a1 | q1
          · exact this
          · exact this
          · rcases this with z | z
            · exact Or.inl z
            · exact absurd z.2.2 (by simp)
        · exact hr2 w q
      · exact zox_ok C hdg hil hok hlk hh hl hs h (fun o st' hg h0 h3 => hg p l e R s mm args below meth c ad dC dI tyI tyZ tyL A b cells slots Qm _ H locs lsM C (zsf_suf m _) (zsf_hd m _) hh hl h3 hv hr) (fun st' μ' H' locs' hn h1 h3 => hn p l e R s mm args below meth c ad dC dI tyI tyZ tyL A b cells slots Qm _ H' locs' lsM C hsr hdr h1 hl h3 hv hr) (fun v hq h3 h4 => hr v μ _ H locs lsM hq hh h3 h4)
/-- what the abstract machine comes to, the machine comes to -/
theorem zsound {Γ : zG} {d m : Nat} {es : List zE} {ls : List (Option zV)} {st : List zV} {μ : zM} {Q : zQ} (h : zW Γ d m es ls st μ Q) : zSX Γ d m es ls st μ Q := h zSX zSX_mo zSX_cl zSX_mk
end
section
/-! WHAT METHODS COME TO, by program (each closed by running the abstract machine in the kernel) -/
set_option maxRecDepth 20000 in
theorem k_J6_bitCount_0f7a4 (d : Nat) (a0 : Int) (μ : zM) (K : Int → zM → Prop) (h : K (zand (w32 ((w32 ((zand (w32 ((w32 ((zand (w32 (a0 - (zand (zushr a0 1) 1431655765))) 858993459) + (zand (zushr (w32 (a0 - (zand (zushr a0 1) 1431655765))) 2) 858993459))) + (zushr (w32 ((zand (w32 (a0 - (zand (zushr a0 1) 1431655765))) 858993459) + (zand (zushr (w32 (a0 - (zand (zushr a0 1) 1431655765))) 2) 858993459))) 4))) 252645135) + (zushr (zand (w32 ((w32 ((zand (w32 (a0 - (zand (zushr a0 1) 1431655765))) 858993459) + (zand (zushr (w32 (a0 - (zand (zushr a0 1) 1431655765))) 2) 858993459))) + (zushr (w32 ((zand (w32 (a0 - (zand (zushr a0 1) 1431655765))) 858993459) + (zand (zushr (w32 (a0 - (zand (zushr a0 1) 1431655765))) 2) 858993459))) 4))) 252645135) 8))) + (zushr (w32 ((zand (w32 ((w32 ((zand (w32 (a0 - (zand (zushr a0 1) 1431655765))) 858993459) + (zand (zushr (w32 (a0 - (zand (zushr a0 1) 1431655765))) 2) 858993459))) + (zushr (w32 ((zand (w32 (a0 - (zand (zushr a0 1) 1431655765))) 858993459) + (zand (zushr (w32 (a0 - (zand (zushr a0 1) 1431655765))) 2) 858993459))) 4))) 252645135) + (zushr (zand (w32 ((w32 ((zand (w32 (a0 - (zand (zushr a0 1) 1431655765))) 858993459) + (zand (zushr (w32 (a0 - (zand (zushr a0 1) 1431655765))) 2) 858993459))) + (zushr (w32 ((zand (w32 (a0 - (zand (zushr a0 1) 1431655765))) 858993459) + (zand (zushr (w32 (a0 - (zand (zushr a0 1) 1431655765))) 2) 858993459))) 4))) 252645135) 8))) 16))) 63) μ) : zC1 d m_J6_bitCount_0f7a4 [zI a0] μ K := zgo [] 400 h
set_option maxRecDepth 20000 in
theorem k_J7_fill_53178_t10 (d : Nat) (j0 : Nat) (a1 : Int) (μ : zM) (K : zM → Prop) (h : zJ d m_J7_fill_53178 5 [some (zR 10 j0), some (zI a1), some (zI 0), some (zI 6)] μ (zQ0 K)) : zC0 d m_J7_fill_53178 [zR 10 j0, zI a1] μ K := zgo [(5, [true, true, true, true])] 400 h
set_option maxRecDepth 20000 in
theorem k_J7_fill_53178_t10_5 (d : Nat) (l0 : Nat) (l1 : Int) (l2 : Int) (l3 : Int) (μ : zM) (K : zM → Prop) (h : (l2 ≥ l3 → K μ) ∧ (¬ (l2 ≥ l3) → (0 ≤ l2 ∧ l2 < 6) ∧ zJ d m_J7_fill_53178 5 [some (zR 10 l0), some (zI l1), some (zI (w32 (l2 + 1))), some (zI l3)] (zset μ 10 l0 l2.toNat l1) (zQ0 K))) : zJ d m_J7_fill_53178 5 [some (zR 10 l0), some (zI l1), some (zI l2), some (zI l3)] μ (zQ0 K) := zgo [(5, [true, true, true, true])] 400 h
set_option maxRecDepth 20000 in
theorem k_J7_fill_53178_t11 (d : Nat) (j0 : Nat) (a1 : Int) (μ : zM) (K : zM → Prop) (h : zJ d m_J7_fill_53178 5 [some (zR 11 j0), some (zI a1), some (zI 0), some (zI 72)] μ (zQ0 K)) : zC0 d m_J7_fill_53178 [zR 11 j0, zI a1] μ K := zgo [(5, [true, true, true, true])] 400 h
set_option maxRecDepth 20000 in
theorem k_J7_fill_53178_t11_5 (d : Nat) (l0 : Nat) (l1 : Int) (l2 : Int) (l3 : Int) (μ : zM) (K : zM → Prop) (h : (l2 ≥ l3 → K μ) ∧ (¬ (l2 ≥ l3) → (0 ≤ l2 ∧ l2 < 72) ∧ zJ d m_J7_fill_53178 5 [some (zR 11 l0), some (zI l1), some (zI (w32 (l2 + 1))), some (zI l3)] (zset μ 11 l0 l2.toNat l1) (zQ0 K))) : zJ d m_J7_fill_53178 5 [some (zR 11 l0), some (zI l1), some (zI l2), some (zI l3)] μ (zQ0 K) := zgo [(5, [true, true, true, true])] 400 h
set_option maxRecDepth 20000 in
theorem k_J7_fill_53178_t12 (d : Nat) (j0 : Nat) (a1 : Int) (μ : zM) (K : zM → Prop) (h : zJ d m_J7_fill_53178 5 [some (zR 12 j0), some (zI a1), some (zI 0), some (zI 72)] μ (zQ0 K)) : zC0 d m_J7_fill_53178 [zR 12 j0, zI a1] μ K := zgo [(5, [true, true, true, true])] 400 h
set_option maxRecDepth 20000 in
theorem k_J7_fill_53178_t12_5 (d : Nat) (l0 : Nat) (l1 : Int) (l2 : Int) (l3 : Int) (μ : zM) (K : zM → Prop) (h : (l2 ≥ l3 → K μ) ∧ (¬ (l2 ≥ l3) → (0 ≤ l2 ∧ l2 < 72) ∧ zJ d m_J7_fill_53178 5 [some (zR 12 l0), some (zI l1), some (zI (w32 (l2 + 1))), some (zI l3)] (zset μ 12 l0 l2.toNat l1) (zQ0 K))) : zJ d m_J7_fill_53178 5 [some (zR 12 l0), some (zI l1), some (zI l2), some (zI l3)] μ (zQ0 K) := zgo [(5, [true, true, true, true])] 400 h
set_option maxRecDepth 20000 in
theorem k_J7_fill_53178_t15 (d : Nat) (j0 : Nat) (a1 : Int) (μ : zM) (K : zM → Prop) (h : zJ d m_J7_fill_53178 5 [some (zR 15 j0), some (zI a1), some (zI 0), some (zI 6)] μ (zQ0 K)) : zC0 d m_J7_fill_53178 [zR 15 j0, zI a1] μ K := zgo [(5, [true, true, true, true])] 400 h
set_option maxRecDepth 20000 in
theorem k_J7_fill_53178_t15_5 (d : Nat) (l0 : Nat) (l1 : Int) (l2 : Int) (l3 : Int) (μ : zM) (K : zM → Prop) (h : (l2 ≥ l3 → K μ) ∧ (¬ (l2 ≥ l3) → (0 ≤ l2 ∧ l2 < 6) ∧ zJ d m_J7_fill_53178 5 [some (zR 15 l0), some (zI l1), some (zI (w32 (l2 + 1))), some (zI l3)] (zset μ 15 l0 l2.toNat l1) (zQ0 K))) : zJ d m_J7_fill_53178 5 [some (zR 15 l0), some (zI l1), some (zI l2), some (zI l3)] μ (zQ0 K) := zgo [(5, [true, true, true, true])] 400 h
set_option maxRecDepth 20000 in
theorem k_J7_fill_53178_t30 (d : Nat) (a1 : Int) (μ : zM) (K : zM → Prop) (h : zJ d m_J7_fill_53178 5 [some (zR 30 0), some (zI a1), some (zI 0), some (zI 10)] μ (zQ0 K)) : zC0 d m_J7_fill_53178 [zR 30 0, zI a1] μ K := zgo [(5, [true, true, true, true])] 400 h
set_option maxRecDepth 20000 in
theorem k_J7_fill_53178_t30_5 (d : Nat) (l1 : Int) (l2 : Int) (l3 : Int) (μ : zM) (K : zM → Prop) (h : (l2 ≥ l3 → K μ) ∧ (¬ (l2 ≥ l3) → (0 ≤ l2 ∧ l2 < 10) ∧ zJ d m_J7_fill_53178 5 [some (zR 30 0), some (zI l1), some (zI (w32 (l2 + 1))), some (zI l3)] (zset μ 30 0 l2.toNat l1) (zQ0 K))) : zJ d m_J7_fill_53178 5 [some (zR 30 0), some (zI l1), some (zI l2), some (zI l3)] μ (zQ0 K) := zgo [(5, [true, true, true, true])] 400 h
set_option maxRecDepth 20000 in
theorem k_X0_alike (d : Nat) (j0 : Nat) (a1 : Int) (a2 : Int) (a3 : Int) (μ : zM) (K : Int → zM → Prop) (h : zC1 d m_X1_barsOf [zR 3 0, zI a1] μ (fun x1 μ1 => zJ (d + 1) m_X0_alike 16 [some (zR 4 j0), some (zI a1), some (zI a2), some (zI a3), some (zI 0), some (zI x1), some (zI 0)] μ1 (zQ1 K))) : zC1 (d + 1) m_X0_alike [zR 4 j0, zI a1, zI a2, zI a3] μ K := zgo [(16, [true, true, true, true, true, true, true])] 400 h
set_option maxRecDepth 20000 in
theorem k_X0_alike_16 (d : Nat) (l0 : Nat) (l1 : Int) (l2 : Int) (l3 : Int) (l4 : Int) (l5 : Int) (l6 : Int) (μ : zM) (K : Int → zM → Prop) (h : (l6 ≥ l5 → K l4 μ) ∧ (¬ (l6 ≥ l5) → zC1 d m_X3_reads [zR 4 l0, zI l1, zI l6] μ (fun x1 μ1 => zC1 d m_X3_readsRound [zR 4 l0, zI l2, zI (w32 (l6 + l3))] μ1 (fun x2 μ2 => (x1 ≠ x2 → zJ (d + 1) m_X0_alike 16 [some (zR 4 l0), some (zI l1), some (zI l2), some (zI l3), some (zI l4), some (zI l5), some (zI (w32 (l6 + 1)))] μ2 (zQ1 K)) ∧ (¬ (x1 ≠ x2) → zJ (d + 1) m_X0_alike 16 [some (zR 4 l0), some (zI l1), some (zI l2), some (zI l3), some (zI (w32 (l4 + 1))), some (zI l5), some (zI (w32 (l6 + 1)))] μ2 (zQ1 K)))))) : zJ (d + 1) m_X0_alike 16 [some (zR 4 l0), some (zI l1), some (zI l2), some (zI l3), some (zI l4), some (zI l5), some (zI l6)] μ (zQ1 K) := zgo [(16, [true, true, true, true, true, true, true])] 400 h
set_option maxRecDepth 20000 in
theorem k_X0_bestShift (d : Nat) (j0 : Nat) (a1 : Int) (a2 : Int) (μ : zM) (K : Int → zM → Prop) (h : zC1 d m_X1_barsOf [zR 3 0, zI a2] μ (fun x1 μ1 => zJ (d + 1) m_X0_bestShift 18 [some (zR 4 j0), some (zI a1), some (zI a2), some (zI 0), some (zI ((-1))), some (zI x1), some (zI 0), none] μ1 (zQ1 K))) : zC1 (d + 1) m_X0_bestShift [zR 4 j0, zI a1, zI a2] μ K := zgo [(18, [true, true, true, true, true, true, true, false])] 400 h
set_option maxRecDepth 20000 in
theorem k_X0_bestShift_18 (d : Nat) (l0 : Nat) (l1 : Int) (l2 : Int) (l3 : Int) (l4 : Int) (l5 : Int) (l6 : Int) (μ : zM) (K : Int → zM → Prop) (h : (l6 ≥ l5 → K l3 μ) ∧ (¬ (l6 ≥ l5) → zC1 d m_X0_alike [zR 4 l0, zI l1, zI l2, zI l6] μ (fun x1 μ1 => (x1 ≤ l4 → zJ (d + 1) m_X0_bestShift 18 [some (zR 4 l0), some (zI l1), some (zI l2), some (zI l3), some (zI l4), some (zI l5), some (zI (w32 (l6 + 1))), none] μ1 (zQ1 K)) ∧ (¬ (x1 ≤ l4) → zJ (d + 1) m_X0_bestShift 18 [some (zR 4 l0), some (zI l1), some (zI l2), some (zI l6), some (zI x1), some (zI l5), some (zI (w32 (l6 + 1))), none] μ1 (zQ1 K))))) : zJ (d + 1) m_X0_bestShift 18 [some (zR 4 l0), some (zI l1), some (zI l2), some (zI l3), some (zI l4), some (zI l5), some (zI l6), none] μ (zQ1 K) := zgo [(18, [true, true, true, true, true, true, true, false])] 400 h
set_option maxRecDepth 20000 in
theorem k_X0_barsToTurn (d : Nat) (j0 : Nat) (a1 : Int) (a2 : Int) (a3 : Int) (μ : zM) (K : Int → zM → Prop) (h : zC1 d m_X1_barsOf [zR 3 0, zI a1] μ (fun x1 μ1 => zJ (d + 1) m_X0_barsToTurn 16 [some (zR 4 j0), some (zI a1), some (zI a2), some (zI a3), some (zI 0), some (zI x1), some (zI 0), none, none] μ1 (zQ1 K))) : zC1 (d + 1) m_X0_barsToTurn [zR 4 j0, zI a1, zI a2, zI a3] μ K := zgo [(16, [true, true, true, true, true, true, true, false, false])] 400 h
set_option maxRecDepth 20000 in
theorem k_X0_barsToTurn_16 (d : Nat) (l0 : Nat) (l1 : Int) (l2 : Int) (l3 : Int) (l4 : Int) (l5 : Int) (l6 : Int) (μ : zM) (K : Int → zM → Prop) (h : (l6 ≥ l5 → K l4 μ) ∧ (¬ (l6 ≥ l5) → zC1 d m_X3_readsRound [zR 4 l0, zI l2, zI (w32 (l6 + l3))] μ (fun x1 μ1 => zC1 d m_X3_reads [zR 4 l0, zI l1, zI l6] μ1 (fun x2 μ2 => (x2 ≠ x1 → zC1 d m_X3_isLifted [zR 4 l0, zI l1, zI l6] μ2 (fun x3 μ3 => (x3 = 0 → zC1 d m_X1_underOf [zR 3 0, zI l1, zI l6] μ3 (fun x4 μ4 => (x4 = x1 → zJ (d + 1) m_X0_barsToTurn 16 [some (zR 4 l0), some (zI l1), some (zI l2), some (zI l3), some (zI (zor l4 (zshl 1 l6))), some (zI l5), some (zI (w32 (l6 + 1))), none, none] μ4 (zQ1 K)) ∧ (¬ (x4 = x1) → K ((-1)) μ4))) ∧ (¬ (x3 = 0) → zC1 d m_X1_paperOf [zR 3 0, zI l1, zI l6] μ3 (fun x5 μ5 => (x5 = x1 → zJ (d + 1) m_X0_barsToTurn 16 [some (zR 4 l0), some (zI l1), some (zI l2), some (zI l3), some (zI (zor l4 (zshl 1 l6))), some (zI l5), some (zI (w32 (l6 + 1))), none, none] μ5 (zQ1 K)) ∧ (¬ (x5 = x1) → K ((-1)) μ5))))) ∧ (¬ (x2 ≠ x1) → zJ (d + 1) m_X0_barsToTurn 16 [some (zR 4 l0), some (zI l1), some (zI l2), some (zI l3), some (zI l4), some (zI l5), some (zI (w32 (l6 + 1))), none, none] μ2 (zQ1 K)))))) : zJ (d + 1) m_X0_barsToTurn 16 [some (zR 4 l0), some (zI l1), some (zI l2), some (zI l3), some (zI l4), some (zI l5), some (zI l6), none, none] μ (zQ1 K) := zgo [(16, [true, true, true, true, true, true, true, false, false])] 400 h
set_option maxRecDepth 20000 in
theorem k_X1_clear (d : Nat) (j0 : Nat) (μ : zM) (K : zM → Prop) (h : ((0 : Int) = 0 ∨ (0 : Int) = 1) ∧ zC0 d m_J7_fill_53178 [zR 10 j0, zI 0] (zset (zset (zset (zset (zset (zset μ 3 j0 0 0) 3 j0 1 0) 3 j0 2 0) 3 j0 3 0) 3 j0 4 0) 3 j0 5 0) (fun μ1 => zC0 d m_J7_fill_53178 [zR 11 j0, zI 0] μ1 (fun μ2 => zC0 d m_J7_fill_53178 [zR 12 j0, zI 0] μ2 (fun μ3 => K μ3)))) : zC0 (d + 1) m_X1_clear [zR 3 j0] μ K := zgo [] 400 h
set_option maxRecDepth 20000 in
theorem k_X1_become (d : Nat) (j0 : Nat) (j1 : Nat) (μ : zM) (K : zM → Prop) (h : (μ 3 j1 0 = 0 ∨ μ 3 j1 0 = 1) ∧ zC0 d m_X9_copy [zR 10 j1, zR 10 j0] (zset (zset (zset (zset (zset (zset μ 3 j0 0 (μ 3 j1 0)) 3 j0 1 ((zset μ 3 j0 0 (μ 3 j1 0)) 3 j1 1)) 3 j0 2 ((zset (zset μ 3 j0 0 (μ 3 j1 0)) 3 j0 1 ((zset μ 3 j0 0 (μ 3 j1 0)) 3 j1 1)) 3 j1 2)) 3 j0 3 ((zset (zset (zset μ 3 j0 0 (μ 3 j1 0)) 3 j0 1 ((zset μ 3 j0 0 (μ 3 j1 0)) 3 j1 1)) 3 j0 2 ((zset (zset μ 3 j0 0 (μ 3 j1 0)) 3 j0 1 ((zset μ 3 j0 0 (μ 3 j1 0)) 3 j1 1)) 3 j1 2)) 3 j1 3)) 3 j0 4 ((zset (zset (zset (zset μ 3 j0 0 (μ 3 j1 0)) 3 j0 1 ((zset μ 3 j0 0 (μ 3 j1 0)) 3 j1 1)) 3 j0 2 ((zset (zset μ 3 j0 0 (μ 3 j1 0)) 3 j0 1 ((zset μ 3 j0 0 (μ 3 j1 0)) 3 j1 1)) 3 j1 2)) 3 j0 3 ((zset (zset (zset μ 3 j0 0 (μ 3 j1 0)) 3 j0 1 ((zset μ 3 j0 0 (μ 3 j1 0)) 3 j1 1)) 3 j0 2 ((zset (zset μ 3 j0 0 (μ 3 j1 0)) 3 j0 1 ((zset μ 3 j0 0 (μ 3 j1 0)) 3 j1 1)) 3 j1 2)) 3 j1 3)) 3 j1 4)) 3 j0 5 ((zset (zset (zset (zset (zset μ 3 j0 0 (μ 3 j1 0)) 3 j0 1 ((zset μ 3 j0 0 (μ 3 j1 0)) 3 j1 1)) 3 j0 2 ((zset (zset μ 3 j0 0 (μ 3 j1 0)) 3 j0 1 ((zset μ 3 j0 0 (μ 3 j1 0)) 3 j1 1)) 3 j1 2)) 3 j0 3 ((zset (zset (zset μ 3 j0 0 (μ 3 j1 0)) 3 j0 1 ((zset μ 3 j0 0 (μ 3 j1 0)) 3 j1 1)) 3 j0 2 ((zset (zset μ 3 j0 0 (μ 3 j1 0)) 3 j0 1 ((zset μ 3 j0 0 (μ 3 j1 0)) 3 j1 1)) 3 j1 2)) 3 j1 3)) 3 j0 4 ((zset (zset (zset (zset μ 3 j0 0 (μ 3 j1 0)) 3 j0 1 ((zset μ 3 j0 0 (μ 3 j1 0)) 3 j1 1)) 3 j0 2 ((zset (zset μ 3 j0 0 (μ 3 j1 0)) 3 j0 1 ((zset μ 3 j0 0 (μ 3 j1 0)) 3 j1 1)) 3 j1 2)) 3 j0 3 ((zset (zset (zset μ 3 j0 0 (μ 3 j1 0)) 3 j0 1 ((zset μ 3 j0 0 (μ 3 j1 0)) 3 j1 1)) 3 j0 2 ((zset (zset μ 3 j0 0 (μ 3 j1 0)) 3 j0 1 ((zset μ 3 j0 0 (μ 3 j1 0)) 3 j1 1)) 3 j1 2)) 3 j1 3)) 3 j1 4)) 3 j1 5)) (fun μ1 => zC0 d m_X9_copy [zR 11 j1, zR 11 j0] μ1 (fun μ2 => zC0 d m_X9_copy [zR 12 j1, zR 12 j0] μ2 (fun μ3 => zC0 d m_X9_copy [zR 13 j1, zR 13 j0] μ3 (fun μ4 => zC0 d m_X9_copy [zR 14 j1, zR 14 j0] μ4 (fun μ5 => K μ5)))))) : zC0 (d + 1) m_X1_become [zR 3 j0, zR 3 j1] μ K := zgo [] 400 h
set_option maxRecDepth 20000 in
theorem k_X1_hasRoom (d : Nat) (j0 : Nat) (a1 : Int) (μ : zM) (K : Int → zM → Prop) (h : (a1 < 0 → ((0 : Int) = 0 ∨ (0 : Int) = 1) ∧ K 0 μ) ∧ (¬ (a1 < 0) → (a1 ≥ μ 3 j0 2 → ((0 : Int) = 0 ∨ (0 : Int) = 1) ∧ K 0 μ) ∧ (¬ (a1 ≥ μ 3 j0 2) → ((1 : Int) = 0 ∨ (1 : Int) = 1) ∧ K 1 μ))) : zC1 d m_X1_hasRoom [zR 3 j0, zI a1] μ K := zgo [] 400 h
set_option maxRecDepth 20000 in
theorem k_X1_hasBar (d : Nat) (j0 : Nat) (a1 : Int) (a2 : Int) (μ : zM) (K : Int → zM → Prop) (h : zC1 d m_X1_hasRoom [zR 3 j0, zI a1] μ (fun x1 μ1 => (x1 = 0 → ((0 : Int) = 0 ∨ (0 : Int) = 1) ∧ K 0 μ1) ∧ (¬ (x1 = 0) → (a2 < 0 → ((0 : Int) = 0 ∨ (0 : Int) = 1) ∧ K 0 μ1) ∧ (¬ (a2 < 0) → zC1 d m_X1_barsOf [zR 3 j0, zI a1] μ1 (fun x2 μ2 => (a2 ≥ x2 → ((0 : Int) = 0 ∨ (0 : Int) = 1) ∧ K 0 μ2) ∧ (¬ (a2 ≥ x2) → ((1 : Int) = 0 ∨ (1 : Int) = 1) ∧ K 1 μ2)))))) : zC1 (d + 1) m_X1_hasBar [zR 3 j0, zI a1, zI a2] μ K := zgo [] 400 h
set_option maxRecDepth 20000 in
theorem k_X1_hasPerson (d : Nat) (j0 : Nat) (a1 : Int) (μ : zM) (K : Int → zM → Prop) (h : (a1 < 0 → ((0 : Int) = 0 ∨ (0 : Int) = 1) ∧ K 0 μ) ∧ (¬ (a1 < 0) → (a1 ≥ μ 3 j0 3 → ((0 : Int) = 0 ∨ (0 : Int) = 1) ∧ K 0 μ) ∧ (¬ (a1 ≥ μ 3 j0 3) → ((1 : Int) = 0 ∨ (1 : Int) = 1) ∧ K 1 μ))) : zC1 d m_X1_hasPerson [zR 3 j0, zI a1] μ K := zgo [] 400 h
set_option maxRecDepth 20000 in
theorem k_X1_hasWall (d : Nat) (j0 : Nat) (a1 : Int) (μ : zM) (K : Int → zM → Prop) (h : (a1 < 0 → ((0 : Int) = 0 ∨ (0 : Int) = 1) ∧ K 0 μ) ∧ (¬ (a1 < 0) → (a1 ≥ μ 3 j0 4 → ((0 : Int) = 0 ∨ (0 : Int) = 1) ∧ K 0 μ) ∧ (¬ (a1 ≥ μ 3 j0 4) → ((1 : Int) = 0 ∨ (1 : Int) = 1) ∧ K 1 μ))) : zC1 d m_X1_hasWall [zR 3 j0, zI a1] μ K := zgo [] 400 h
set_option maxRecDepth 20000 in
theorem k_X1_hasUnder (d : Nat) (j0 : Nat) (a1 : Int) (μ : zM) (K : Int → zM → Prop) (h : zC1 d m_X9_isIn [zI (μ 3 j0 5), zI a1] μ (fun x1 μ1 => (x1 = 0 ∨ x1 = 1) ∧ K x1 μ1)) : zC1 (d + 1) m_X1_hasUnder [zR 3 j0, zI a1] μ K := zgo [] 400 h
set_option maxRecDepth 20000 in
theorem k_X1_barsOf (d : Nat) (j0 : Nat) (a1 : Int) (μ : zM) (K : Int → zM → Prop) (h : zC1 d m_X9_at [zR 10 j0, zI a1] μ (fun x1 μ1 => K x1 μ1)) : zC1 (d + 1) m_X1_barsOf [zR 3 j0, zI a1] μ K := zgo [] 400 h
set_option maxRecDepth 20000 in
theorem k_X1_paperOf (d : Nat) (j0 : Nat) (a1 : Int) (a2 : Int) (μ : zM) (K : Int → zM → Prop) (h : zC1 d m_X9_at [zR 11 j0, zI (w32 ((w32 (a1 * 12)) + a2))] μ (fun x1 μ1 => K x1 μ1)) : zC1 (d + 1) m_X1_paperOf [zR 3 j0, zI a1, zI a2] μ K := zgo [] 400 h
set_option maxRecDepth 20000 in
theorem k_X1_underOf (d : Nat) (j0 : Nat) (a1 : Int) (a2 : Int) (μ : zM) (K : Int → zM → Prop) (h : zC1 d m_X9_at [zR 12 j0, zI (w32 ((w32 (a1 * 12)) + a2))] μ (fun x1 μ1 => K x1 μ1)) : zC1 (d + 1) m_X1_underOf [zR 3 j0, zI a1, zI a2] μ K := zgo [] 400 h
set_option maxRecDepth 20000 in
theorem k_X1_personPart (d : Nat) (j0 : Nat) (a1 : Int) (a2 : Int) (μ : zM) (K : Int → zM → Prop) (h : zC1 d m_X9_at [zR 13 j0, zI (w32 ((w32 (a1 * 3)) + a2))] μ (fun x1 μ1 => K x1 μ1)) : zC1 (d + 1) m_X1_personPart [zR 3 j0, zI a1, zI a2] μ K := zgo [] 400 h
set_option maxRecDepth 20000 in
theorem k_X1_wallPart (d : Nat) (j0 : Nat) (a1 : Int) (a2 : Int) (μ : zM) (K : Int → zM → Prop) (h : zC1 d m_X9_at [zR 14 j0, zI (w32 ((w32 (a1 * 4)) + a2))] μ (fun x1 μ1 => K x1 μ1)) : zC1 (d + 1) m_X1_wallPart [zR 3 j0, zI a1, zI a2] μ K := zgo [] 400 h
set_option maxRecDepth 20000 in
theorem k_X1_putPaper (d : Nat) (j0 : Nat) (a1 : Int) (a2 : Int) (a3 : Int) (μ : zM) (K : zM → Prop) (h : zC0 d m_X9_put [zR 11 j0, zI (w32 ((w32 (a1 * 12)) + a2)), zI a3] μ (fun μ1 => K μ1)) : zC0 (d + 1) m_X1_putPaper [zR 3 j0, zI a1, zI a2, zI a3] μ K := zgo [] 400 h
set_option maxRecDepth 20000 in
theorem k_X1_putUnder (d : Nat) (j0 : Nat) (a1 : Int) (a2 : Int) (a3 : Int) (μ : zM) (K : zM → Prop) (h : zC0 d m_X9_put [zR 12 j0, zI (w32 ((w32 (a1 * 12)) + a2)), zI a3] μ (fun μ1 => K μ1)) : zC0 (d + 1) m_X1_putUnder [zR 3 j0, zI a1, zI a2, zI a3] μ K := zgo [] 400 h
set_option maxRecDepth 20000 in
theorem k_X1_putPerson (d : Nat) (j0 : Nat) (a1 : Int) (a2 : Int) (μ : zM) (K : zM → Prop) (h : zC0 d m_X9_put [zR 13 j0, zI (w32 ((w32 ((μ 3 j0 3) * 3)) + a1)), zI a2] μ (fun μ1 => K μ1)) : zC0 (d + 1) m_X1_putPerson [zR 3 j0, zI a1, zI a2] μ K := zgo [] 400 h
set_option maxRecDepth 20000 in
theorem k_X1_putWall (d : Nat) (j0 : Nat) (a1 : Int) (a2 : Int) (μ : zM) (K : zM → Prop) (h : zC0 d m_X9_put [zR 14 j0, zI (w32 ((w32 ((μ 3 j0 4) * 4)) + a1)), zI a2] μ (fun μ1 => K μ1)) : zC0 (d + 1) m_X1_putWall [zR 3 j0, zI a1, zI a2] μ K := zgo [] 400 h
set_option maxRecDepth 20000 in
theorem k_X1_addRoom (d : Nat) (j0 : Nat) (a1 : Int) (μ : zM) (K : zM → Prop) (h : zC0 d m_X9_put [zR 10 j0, zI (μ 3 j0 2), zI a1] μ (fun μ1 => K (zset μ1 3 j0 2 (w32 ((μ1 3 j0 2) + 1))))) : zC0 (d + 1) m_X1_addRoom [zR 3 j0, zI a1] μ K := zgo [] 400 h
set_option maxRecDepth 20000 in
theorem k_X2_forget (d : Nat)  (μ : zM) (K : zM → Prop) (h : K (zset μ 6 0 2 0)) : zC0 d m_X2_forget [zR 6 0] μ K := zgo [] 400 h
set_option maxRecDepth 20000 in
theorem k_X2_has (d : Nat) (a1 : Int) (μ : zM) (K : Int → zM → Prop) (h : zC1 d m_X9_isIn [zI (μ 6 0 2), zI a1] μ (fun x1 μ1 => (x1 = 0 ∨ x1 = 1) ∧ K x1 μ1)) : zC1 (d + 1) m_X2_has [zR 6 0, zI a1] μ K := zgo [] 400 h
set_option maxRecDepth 20000 in
theorem k_X2_store (d : Nat) (a1 : Int) (j2 : Nat) (a3 : Int) (μ : zM) (K : zM → Prop) (h : (a1 < 0 → K μ) ∧ (¬ (a1 < 0) → (a1 ≥ 2 → K μ) ∧ (¬ (a1 ≥ 2) → (0 ≤ a1 ∧ a1 < 2) ∧ (0 ≤ a1 ∧ a1 < 2) ∧ zC0 d m_X3_become [zR 4 (32 + a1.toNat), zR 4 j2] μ (fun μ1 => zC0 d m_X9_put [zR 23 0, zI a1, zI a3] μ1 (fun μ2 => K (zset μ2 6 0 2 (zor (μ2 6 0 2) (zshl 1 a1)))))))) : zC0 (d + 1) m_X2_store [zR 6 0, zI a1, zR 4 j2, zI a3] μ K := zgo [] 400 h
set_option maxRecDepth 20000 in
theorem k_X2_restore (d : Nat) (a1 : Int) (j2 : Nat) (μ : zM) (K : zM → Prop) (h : (a1 < 0 → K μ) ∧ (¬ (a1 < 0) → (a1 ≥ 2 → K μ) ∧ (¬ (a1 ≥ 2) → (0 ≤ a1 ∧ a1 < 2) ∧ (0 ≤ a1 ∧ a1 < 2) ∧ zC0 d m_X3_become [zR 4 j2, zR 4 (32 + a1.toNat)] μ (fun μ1 => K μ1)))) : zC0 (d + 1) m_X2_restore [zR 6 0, zI a1, zR 4 j2] μ K := zgo [] 400 h
set_option maxRecDepth 20000 in
theorem k_X2_chanceOf (d : Nat) (a1 : Int) (μ : zM) (K : Int → zM → Prop) (h : zC1 d m_X9_at [zR 23 0, zI a1] μ (fun x1 μ1 => K x1 μ1)) : zC1 (d + 1) m_X2_chanceOf [zR 6 0, zI a1] μ K := zgo [] 400 h
set_option maxRecDepth 20000 in
theorem k_X3_begin (d : Nat) (j0 : Nat) (μ : zM) (K : zM → Prop) (h : zC0 d m_J7_fill_53178 [zR 15 j0, zI 0] (zset (zset (zset μ 4 j0 1 0) 4 j0 2 0) 4 j0 3 0) (fun μ1 => zJ (d + 1) m_X3_begin 25 [some (zR 4 j0), some (zI 0)] μ1 (zQ0 K))) : zC0 (d + 1) m_X3_begin [zR 4 j0] μ K := zgo [(25, [true, true])] 400 h
set_option maxRecDepth 20000 in
theorem k_X3_begin_25 (d : Nat) (l0 : Nat) (l1 : Int) (μ : zM) (K : zM → Prop) (h : (l1 ≥ μ 3 0 3 → K μ) ∧ (¬ (l1 ≥ μ 3 0 3) → zC1 d m_X1_personPart [zR 3 0, zI l1, zI 0] μ (fun x1 μ1 => zC1 d m_X1_personPart [zR 3 0, zI l1, zI 1] μ1 (fun x2 μ2 => zC0 d m_X3_setPlace [zR 4 l0, zI l1, zI x1, zI x2] μ2 (fun μ3 => zC1 d m_X1_personPart [zR 3 0, zI l1, zI 2] μ3 (fun x4 μ4 => zC0 d m_X3_setPace [zR 4 l0, zI l1, zI x4] μ4 (fun μ5 => zJ (d + 1) m_X3_begin 25 [some (zR 4 l0), some (zI (w32 (l1 + 1)))] μ5 (zQ0 K)))))))) : zJ (d + 1) m_X3_begin 25 [some (zR 4 l0), some (zI l1)] μ (zQ0 K) := zgo [(25, [true, true])] 400 h
set_option maxRecDepth 20000 in
theorem k_X3_become (d : Nat) (j0 : Nat) (j1 : Nat) (μ : zM) (K : zM → Prop) (h : zC0 d m_X9_copy [zR 15 j1, zR 15 j0] (zset (zset (zset μ 4 j0 1 (μ 4 j1 1)) 4 j0 2 ((zset μ 4 j0 1 (μ 4 j1 1)) 4 j1 2)) 4 j0 3 ((zset (zset μ 4 j0 1 (μ 4 j1 1)) 4 j0 2 ((zset μ 4 j0 1 (μ 4 j1 1)) 4 j1 2)) 4 j1 3)) (fun μ1 => zC0 d m_X9_copy [zR 16 j1, zR 16 j0] μ1 (fun μ2 => zC0 d m_X9_copy [zR 17 j1, zR 17 j0] μ2 (fun μ3 => zC0 d m_X9_copy [zR 18 j1, zR 18 j0] μ3 (fun μ4 => zC0 d m_X9_copy [zR 19 j1, zR 19 j0] μ4 (fun μ5 => K μ5)))))) : zC0 (d + 1) m_X3_become [zR 4 j0, zR 4 j1] μ K := zgo [] 400 h
set_option maxRecDepth 20000 in
theorem k_X3_liftedIn (d : Nat) (j0 : Nat) (a1 : Int) (μ : zM) (K : Int → zM → Prop) (h : zC1 d m_X9_at [zR 15 j0, zI a1] μ (fun x1 μ1 => K x1 μ1)) : zC1 (d + 1) m_X3_liftedIn [zR 4 j0, zI a1] μ K := zgo [] 400 h
set_option maxRecDepth 20000 in
theorem k_X3_liftedInAll (d : Nat) (j0 : Nat) (μ : zM) (K : Int → zM → Prop) (h : zJ (d + 1) m_X3_liftedInAll 4 [some (zR 4 j0), some (zI 0), some (zI 0)] μ (zQ1 K)) : zC1 (d + 1) m_X3_liftedInAll [zR 4 j0] μ K := zgo [(4, [true, true, true])] 400 h
set_option maxRecDepth 20000 in
theorem k_X3_liftedInAll_4 (d : Nat) (l0 : Nat) (l1 : Int) (l2 : Int) (μ : zM) (K : Int → zM → Prop) (h : (l2 ≥ μ 3 0 2 → K l1 μ) ∧ (¬ (l2 ≥ μ 3 0 2) → zC1 d m_X3_liftedIn [zR 4 l0, zI l2] μ (fun x1 μ1 => zC1 d m_J6_bitCount_0f7a4 [zI x1] μ1 (fun x2 μ2 => zJ (d + 1) m_X3_liftedInAll 4 [some (zR 4 l0), some (zI (w32 (l1 + x2))), some (zI (w32 (l2 + 1)))] μ2 (zQ1 K))))) : zJ (d + 1) m_X3_liftedInAll 4 [some (zR 4 l0), some (zI l1), some (zI l2)] μ (zQ1 K) := zgo [(4, [true, true, true])] 400 h
set_option maxRecDepth 20000 in
theorem k_X3_isLifted (d : Nat) (j0 : Nat) (a1 : Int) (a2 : Int) (μ : zM) (K : Int → zM → Prop) (h : zC1 d m_X9_at [zR 15 j0, zI a1] μ (fun x1 μ1 => zC1 d m_X9_isIn [zI x1, zI a2] μ1 (fun x2 μ2 => (x2 = 0 ∨ x2 = 1) ∧ K x2 μ2))) : zC1 (d + 1) m_X3_isLifted [zR 4 j0, zI a1, zI a2] μ K := zgo [] 400 h
set_option maxRecDepth 20000 in
theorem k_X3_turn (d : Nat) (j0 : Nat) (a1 : Int) (a2 : Int) (μ : zM) (K : zM → Prop) (h : zC1 d m_X3_liftedIn [zR 4 j0, zI a1] μ (fun x1 μ1 => zC0 d m_X9_put [zR 15 j0, zI a1, zI (zxor x1 (zshl 1 a2))] μ1 (fun μ2 => K μ2))) : zC0 (d + 1) m_X3_turn [zR 4 j0, zI a1, zI a2] μ K := zgo [] 400 h
set_option maxRecDepth 20000 in
theorem k_X3_reads (d : Nat) (j0 : Nat) (a1 : Int) (a2 : Int) (μ : zM) (K : Int → zM → Prop) (h : zC1 d m_X3_isLifted [zR 4 j0, zI a1, zI a2] μ (fun x1 μ1 => (x1 = 0 → zC1 d m_X1_paperOf [zR 3 0, zI a1, zI a2] μ1 (fun x2 μ2 => K x2 μ2)) ∧ (¬ (x1 = 0) → zC1 d m_X1_underOf [zR 3 0, zI a1, zI a2] μ1 (fun x3 μ3 => K x3 μ3)))) : zC1 (d + 1) m_X3_reads [zR 4 j0, zI a1, zI a2] μ K := zgo [] 400 h
set_option maxRecDepth 20000 in
theorem k_X3_readsRound (d : Nat) (j0 : Nat) (a1 : Int) (a2 : Int) (μ : zM) (K : Int → zM → Prop) (h : zC1 d m_X1_barsOf [zR 3 0, zI a1] μ (fun x1 μ1 => zC1 d m_X9_leftOver [zI a2, zI x1] μ1 (fun x2 μ2 => zC1 d m_X3_reads [zR 4 j0, zI a1, zI x2] μ2 (fun x3 μ3 => K x3 μ3)))) : zC1 (d + 1) m_X3_readsRound [zR 4 j0, zI a1, zI a2] μ K := zgo [] 400 h
set_option maxRecDepth 20000 in
theorem k_X3_roomOf (d : Nat) (j0 : Nat) (a1 : Int) (μ : zM) (K : Int → zM → Prop) (h : zC1 d m_X9_at [zR 16 j0, zI a1] μ (fun x1 μ1 => K x1 μ1)) : zC1 (d + 1) m_X3_roomOf [zR 4 j0, zI a1] μ K := zgo [] 400 h
set_option maxRecDepth 20000 in
theorem k_X3_placeOf (d : Nat) (j0 : Nat) (a1 : Int) (μ : zM) (K : Int → zM → Prop) (h : zC1 d m_X9_at [zR 17 j0, zI a1] μ (fun x1 μ1 => K x1 μ1)) : zC1 (d + 1) m_X3_placeOf [zR 4 j0, zI a1] μ K := zgo [] 400 h
set_option maxRecDepth 20000 in
theorem k_X3_paceOf (d : Nat) (j0 : Nat) (a1 : Int) (μ : zM) (K : Int → zM → Prop) (h : zC1 d m_X9_at [zR 18 j0, zI a1] μ (fun x1 μ1 => K x1 μ1)) : zC1 (d + 1) m_X3_paceOf [zR 4 j0, zI a1] μ K := zgo [] 400 h
set_option maxRecDepth 20000 in
theorem k_X3_readBy (d : Nat) (j0 : Nat) (a1 : Int) (μ : zM) (K : Int → zM → Prop) (h : zC1 d m_X3_roomOf [zR 4 j0, zI a1] μ (fun x1 μ1 => zC1 d m_X3_placeOf [zR 4 j0, zI a1] μ1 (fun x2 μ2 => zC1 d m_X3_reads [zR 4 j0, zI x1, zI x2] μ2 (fun x3 μ3 => K x3 μ3)))) : zC1 (d + 1) m_X3_readBy [zR 4 j0, zI a1] μ K := zgo [] 400 h
set_option maxRecDepth 20000 in
theorem k_X3_isAt (d : Nat) (j0 : Nat) (a1 : Int) (a2 : Int) (a3 : Int) (μ : zM) (K : Int → zM → Prop) (h : zC1 d m_X9_at [zR 16 j0, zI a1] μ (fun x1 μ1 => (x1 ≠ a2 → ((0 : Int) = 0 ∨ (0 : Int) = 1) ∧ K 0 μ1) ∧ (¬ (x1 ≠ a2) → zC1 d m_X9_at [zR 17 j0, zI a1] μ1 (fun x2 μ2 => (x2 ≠ a3 → ((0 : Int) = 0 ∨ (0 : Int) = 1) ∧ K 0 μ2) ∧ (¬ (x2 ≠ a3) → ((1 : Int) = 0 ∨ (1 : Int) = 1) ∧ K 1 μ2))))) : zC1 (d + 1) m_X3_isAt [zR 4 j0, zI a1, zI a2, zI a3] μ K := zgo [] 400 h
set_option maxRecDepth 20000 in
theorem k_X3_setPlace (d : Nat) (j0 : Nat) (a1 : Int) (a2 : Int) (a3 : Int) (μ : zM) (K : zM → Prop) (h : zC0 d m_X9_put [zR 16 j0, zI a1, zI a2] μ (fun μ1 => zC0 d m_X9_put [zR 17 j0, zI a1, zI a3] μ1 (fun μ2 => K μ2))) : zC0 (d + 1) m_X3_setPlace [zR 4 j0, zI a1, zI a2, zI a3] μ K := zgo [] 400 h
set_option maxRecDepth 20000 in
theorem k_X3_setPace (d : Nat) (j0 : Nat) (a1 : Int) (a2 : Int) (μ : zM) (K : zM → Prop) (h : zC0 d m_X9_put [zR 18 j0, zI a1, zI a2] μ (fun μ1 => K μ1)) : zC0 (d + 1) m_X3_setPace [zR 4 j0, zI a1, zI a2] μ K := zgo [] 400 h
set_option maxRecDepth 20000 in
theorem k_X3_addMeeting (d : Nat) (j0 : Nat) (a1 : Int) (a2 : Int) (a3 : Int) (μ : zM) (K : zM → Prop) (h : zC1 d m_X9_leftOver [zI ((zset μ 4 j0 2 (zmin 999999 (w32 ((μ 4 j0 2) + 1)))) 4 j0 3), zI 20] (zset μ 4 j0 2 (zmin 999999 (w32 ((μ 4 j0 2) + 1)))) (fun x1 μ1 => zC0 d m_X9_put [zR 19 j0, zI x1, zI (w32 ((w32 ((w32 (a1 * 100)) + (w32 (a2 * 10)))) + a3))] μ1 (fun μ2 => K (zset μ2 4 j0 3 (w32 ((μ2 4 j0 3) + 1)))))) : zC0 (d + 1) m_X3_addMeeting [zR 4 j0, zI a1, zI a2, zI a3] μ K := zgo [] 400 h
set_option maxRecDepth 20000 in
theorem k_X3_loggedNow (d : Nat) (j0 : Nat) (μ : zM) (K : Int → zM → Prop) (h : K (zmin 20 (μ 4 j0 3)) μ) : zC1 (d + 1) m_X3_loggedNow [zR 4 j0] μ K := zgo [] 400 h
set_option maxRecDepth 20000 in
theorem k_X3_meeting (d : Nat) (j0 : Nat) (a1 : Int) (a2 : Int) (μ : zM) (K : Int → zM → Prop) (h : zC1 d m_X9_leftOver [zI (w32 ((w32 ((μ 4 j0 3) - 1)) - a1)), zI 20] μ (fun x1 μ1 => zC1 d m_X9_at [zR 19 j0, zI x1] μ1 (fun x2 μ2 => (a2 ≠ 0 → (a2 ≠ 1 → (10 : Int) ≠ 0 ∧ K (Int.tmod x2 10) μ2) ∧ (¬ (a2 ≠ 1) → (10 : Int) ≠ 0 ∧ (10 : Int) ≠ 0 ∧ K (Int.tmod (w32 (Int.tdiv x2 10)) 10) μ2)) ∧ (¬ (a2 ≠ 0) → (100 : Int) ≠ 0 ∧ K (w32 (Int.tdiv x2 100)) μ2)))) : zC1 (d + 1) m_X3_meeting [zR 4 j0, zI a1, zI a2] μ K := zgo [] 400 h
set_option maxRecDepth 20000 in
theorem k_X4_reckon (d : Nat) (j1 : Nat) (μ : zM) (K : zM → Prop) (h : zJ (d + 1) m_X4_reckon 13 [some (zR 8 0), some (zR 4 j1), some (zI 0), none, none, none] (zset μ 8 0 2 (μ 3 0 2)) (zQ0 K)) : zC0 (d + 1) m_X4_reckon [zR 8 0, zR 4 j1] μ K := zgo [(13, [true, true, true, false, false, false]), (33, [true, true, true, true, true, false]), (105, [true, false, true, false, false, false]), (117, [true, false, true, true, false, false])] 400 h
set_option maxRecDepth 20000 in
theorem k_X4_reckon_13 (d : Nat) (l1 : Nat) (l2 : Int) (μ : zM) (K : zM → Prop) (h : (l2 ≥ μ 8 0 2 → zJ (d + 1) m_X4_reckon 105 [some (zR 8 0), none, some (zI 0), none, none, none] μ (zQ0 K)) ∧ (¬ (l2 ≥ μ 8 0 2) → zC1 d m_X1_barsOf [zR 3 0, zI l2] μ (fun x1 μ1 => zJ (d + 1) m_X4_reckon 33 [some (zR 8 0), some (zR 4 l1), some (zI l2), some (zI x1), some (zI 0), none] μ1 (zQ0 K)))) : zJ (d + 1) m_X4_reckon 13 [some (zR 8 0), some (zR 4 l1), some (zI l2), none, none, none] μ (zQ0 K) := zgo [(13, [true, true, true, false, false, false]), (33, [true, true, true, true, true, false]), (105, [true, false, true, false, false, false]), (117, [true, false, true, true, false, false])] 400 h
set_option maxRecDepth 20000 in
theorem k_X4_reckon_33 (d : Nat) (l1 : Nat) (l2 : Int) (l3 : Int) (l4 : Int) (μ : zM) (K : zM → Prop) (h : (l4 ≥ μ 8 0 2 → zC0 d m_X9_put [zR 31 0, zI (w32 (36 + l2)), zI l3] μ (fun μ1 => zJ (d + 1) m_X4_reckon 13 [some (zR 8 0), some (zR 4 l1), some (zI (w32 (l2 + 1))), none, none, none] μ1 (zQ0 K))) ∧ (¬ (l4 ≥ μ 8 0 2) → (l4 ≠ l2 → zC1 d m_X8_sharedEnd [zR 4 l1, zI l4, zI l2] μ (fun x2 μ2 => zC0 d m_X9_put [zR 31 0, zI (w32 ((w32 (l4 * 6)) + l2)), zI (w32 (l3 - x2))] μ2 (fun μ3 => zJ (d + 1) m_X4_reckon 33 [some (zR 8 0), some (zR 4 l1), some (zI l2), some (zI l3), some (zI (w32 (l4 + 1))), none] μ3 (zQ0 K)))) ∧ (¬ (l4 ≠ l2) → zC0 d m_X9_put [zR 31 0, zI (w32 ((w32 (l4 * 6)) + l2)), zI (w32 (l3 - 0))] μ (fun μ4 => zJ (d + 1) m_X4_reckon 33 [some (zR 8 0), some (zR 4 l1), some (zI l2), some (zI l3), some (zI (w32 (l4 + 1))), none] μ4 (zQ0 K))))) : zJ (d + 1) m_X4_reckon 33 [some (zR 8 0), some (zR 4 l1), some (zI l2), some (zI l3), some (zI l4), none] μ (zQ0 K) := zgo [(13, [true, true, true, false, false, false]), (33, [true, true, true, true, true, false]), (105, [true, false, true, false, false, false]), (117, [true, false, true, true, false, false])] 400 h
set_option maxRecDepth 20000 in
theorem k_X4_reckon_105 (d : Nat) (l2 : Int) (μ : zM) (K : zM → Prop) (h : (l2 ≥ zshl 1 (μ 8 0 2) → K μ) ∧ (¬ (l2 ≥ zshl 1 (μ 8 0 2)) → zJ (d + 1) m_X4_reckon 117 [some (zR 8 0), none, some (zI l2), some (zI 0), none, none] μ (zQ0 K))) : zJ (d + 1) m_X4_reckon 105 [some (zR 8 0), none, some (zI l2), none, none, none] μ (zQ0 K) := zgo [(13, [true, true, true, false, false, false]), (33, [true, true, true, true, true, false]), (105, [true, false, true, false, false, false]), (117, [true, false, true, true, false, false])] 400 h
set_option maxRecDepth 20000 in
theorem k_X4_reckon_117 (d : Nat) (l2 : Int) (l3 : Int) (μ : zM) (K : zM → Prop) (h : (l3 ≥ 7 → zJ (d + 1) m_X4_reckon 105 [some (zR 8 0), none, some (zI (w32 (l2 + 1))), none, none, none] μ (zQ0 K)) ∧ (¬ (l3 ≥ 7) → zC1 d m_X4_barsBehind [zR 8 0, zI l2, zI l3] μ (fun x1 μ1 => zC0 d m_X9_put [zR 32 0, zI (w32 ((w32 (l2 * 7)) + l3)), zI x1] μ1 (fun μ2 => zJ (d + 1) m_X4_reckon 117 [some (zR 8 0), none, some (zI l2), some (zI (w32 (l3 + 1))), none, none] μ2 (zQ0 K))))) : zJ (d + 1) m_X4_reckon 117 [some (zR 8 0), none, some (zI l2), some (zI l3), none, none] μ (zQ0 K) := zgo [(13, [true, true, true, false, false, false]), (33, [true, true, true, true, true, false]), (105, [true, false, true, false, false, false]), (117, [true, false, true, true, false, false])] 400 h
set_option maxRecDepth 20000 in
theorem k_X4_fewestBars (d : Nat)  (μ : zM) (K : Int → zM → Prop) (h : zC1 d m_X9_at [zR 32 0, zI (w32 ((w32 ((w32 ((zshl 1 (μ 8 0 2)) - 1)) * 7)) + 6))] μ (fun x1 μ1 => K x1 μ1)) : zC1 (d + 1) m_X4_fewestBars [zR 8 0] μ K := zgo [] 400 h
set_option maxRecDepth 20000 in
theorem k_X4_leastNumber (d : Nat)  (μ : zM) (K : Int → zM → Prop) (h : zJ (d + 1) m_X4_leastNumber 17 [some (zR 8 0), some (zI 0), some (zI (w32 ((zshl 1 (μ 8 0 2)) - 1))), some (zI 6), some (zI 0), none] μ (zQ1 K)) : zC1 (d + 1) m_X4_leastNumber [zR 8 0] μ K := zgo [(17, [true, true, true, true, true, false])] 400 h
set_option maxRecDepth 20000 in
theorem k_X4_leastNumber_17 (d : Nat) (l1 : Int) (l2 : Int) (l3 : Int) (l4 : Int) (μ : zM) (K : Int → zM → Prop) (h : (l4 ≥ μ 8 0 2 → K l1 μ) ∧ (¬ (l4 ≥ μ 8 0 2) → zC1 d m_X4_firstBest [zR 8 0, zI l2, zI l3] μ (fun x1 μ1 => zJ (d + 1) m_X4_leastNumber 17 [some (zR 8 0), some (zI (w32 ((w32 ((w32 (l1 * 10)) + x1)) + 1))), some (zI (zand l2 (zxor (zshl 1 x1) ((-1))))), some (zI x1), some (zI (w32 (l4 + 1))), none] μ1 (zQ1 K)))) : zJ (d + 1) m_X4_leastNumber 17 [some (zR 8 0), some (zI l1), some (zI l2), some (zI l3), some (zI l4), none] μ (zQ1 K) := zgo [(17, [true, true, true, true, true, false])] 400 h
set_option maxRecDepth 20000 in
theorem k_X4_barsBehind (d : Nat) (a1 : Int) (a2 : Int) (μ : zM) (K : Int → zM → Prop) (h : (a1 ≠ 0 → zC1 d m_X4_firstBest [zR 8 0, zI a1, zI a2] μ (fun x1 μ1 => zC1 d m_X4_barsWith [zR 8 0, zI a1, zI a2, zI x1] μ1 (fun x2 μ2 => K x2 μ2))) ∧ (¬ (a1 ≠ 0) → K 0 μ)) : zC1 (d + 1) m_X4_barsBehind [zR 8 0, zI a1, zI a2] μ K := zgo [] 400 h
set_option maxRecDepth 20000 in
theorem k_X4_firstBest (d : Nat) (a1 : Int) (a2 : Int) (μ : zM) (K : Int → zM → Prop) (h : zJ (d + 1) m_X4_firstBest 9 [some (zR 8 0), some (zI a1), some (zI a2), some (zI 0), some (zI 73), some (zI 0), none] μ (zQ1 K)) : zC1 (d + 1) m_X4_firstBest [zR 8 0, zI a1, zI a2] μ K := zgo [(9, [true, true, true, true, true, true, false])] 400 h
set_option maxRecDepth 20000 in
theorem k_X4_firstBest_9 (d : Nat) (l1 : Int) (l2 : Int) (l3 : Int) (l4 : Int) (l5 : Int) (μ : zM) (K : Int → zM → Prop) (h : (l5 ≥ μ 8 0 2 → K l3 μ) ∧ (¬ (l5 ≥ μ 8 0 2) → zC1 d m_X9_isIn [zI l1, zI l5] μ (fun x1 μ1 => (x1 ≠ 0 → zC1 d m_X4_barsWith [zR 8 0, zI l1, zI l2, zI l5] μ1 (fun x2 μ2 => (x2 ≥ l4 → zJ (d + 1) m_X4_firstBest 9 [some (zR 8 0), some (zI l1), some (zI l2), some (zI l3), some (zI l4), some (zI (w32 (l5 + 1))), none] μ2 (zQ1 K)) ∧ (¬ (x2 ≥ l4) → zJ (d + 1) m_X4_firstBest 9 [some (zR 8 0), some (zI l1), some (zI l2), some (zI l5), some (zI x2), some (zI (w32 (l5 + 1))), none] μ2 (zQ1 K)))) ∧ (¬ (x1 ≠ 0) → zJ (d + 1) m_X4_firstBest 9 [some (zR 8 0), some (zI l1), some (zI l2), some (zI l3), some (zI l4), some (zI (w32 (l5 + 1))), none] μ1 (zQ1 K))))) : zJ (d + 1) m_X4_firstBest 9 [some (zR 8 0), some (zI l1), some (zI l2), some (zI l3), some (zI l4), some (zI l5), none] μ (zQ1 K) := zgo [(9, [true, true, true, true, true, true, false])] 400 h
set_option maxRecDepth 20000 in
theorem k_X4_barsWith (d : Nat) (a1 : Int) (a2 : Int) (a3 : Int) (μ : zM) (K : Int → zM → Prop) (h : zC1 d m_X9_at [zR 31 0, zI (w32 ((w32 (a2 * 6)) + a3))] μ (fun x1 μ1 => zC1 d m_X9_at [zR 32 0, zI (w32 ((w32 ((zand a1 (zxor (zshl 1 a3) ((-1)))) * 7)) + a3))] μ1 (fun x2 μ2 => K (w32 (x1 + x2)) μ2))) : zC1 (d + 1) m_X4_barsWith [zR 8 0, zI a1, zI a2, zI a3] μ K := zgo [] 400 h
set_option maxRecDepth 20000 in
theorem k_X5_anHour (d : Nat) (j0 : Nat) (μ : zM) (K : Int → zM → Prop) (h : zJ (d + 1) m_X5_anHour 7 [some (zR 4 j0), some (zR 3 0), some (zI 0), none] μ (zQ1 K)) : zC1 (d + 1) m_X5_anHour [zR 4 j0] μ K := zgo [(7, [true, true, true, false]), (33, [true, true, true, true])] 400 h
set_option maxRecDepth 20000 in
theorem k_X5_anHour_7 (d : Nat) (l0 : Nat) (l1 : Nat) (l2 : Int) (μ : zM) (K : Int → zM → Prop) (h : (l2 ≥ μ 3 l1 3 → zJ (d + 1) m_X5_anHour 33 [some (zR 4 l0), some (zR 3 l1), some (zI (μ 4 l0 3)), some (zI 0)] μ (zQ1 K)) ∧ (¬ (l2 ≥ μ 3 l1 3) → zC0 d m_X5_goOn [zR 4 l0, zI l2] μ (fun μ1 => zJ (d + 1) m_X5_anHour 7 [some (zR 4 l0), some (zR 3 l1), some (zI (w32 (l2 + 1))), none] μ1 (zQ1 K)))) : zJ (d + 1) m_X5_anHour 7 [some (zR 4 l0), some (zR 3 l1), some (zI l2), none] μ (zQ1 K) := zgo [(7, [true, true, true, false]), (33, [true, true, true, true])] 400 h
set_option maxRecDepth 20000 in
theorem k_X5_anHour_33 (d : Nat) (l0 : Nat) (l1 : Nat) (l2 : Int) (l3 : Int) (μ : zM) (K : Int → zM → Prop) (h : (l3 ≥ μ 3 l1 4 → ((zset μ 4 l0 1 (w32 ((μ 4 l0 1) + 1))) 3 l1 1 ≤ 0 → K (w32 (((zset μ 4 l0 1 (w32 ((μ 4 l0 1) + 1))) 4 l0 3) - l2)) (zset μ 4 l0 1 (w32 ((μ 4 l0 1) + 1)))) ∧ (¬ ((zset μ 4 l0 1 (w32 ((μ 4 l0 1) + 1))) 3 l1 1 ≤ 0) → (zset μ 4 l0 1 (w32 ((μ 4 l0 1) + 1))) 3 l1 1 ≠ 0 ∧ (Int.tmod ((zset μ 4 l0 1 (w32 ((μ 4 l0 1) + 1))) 4 l0 1) ((zset μ 4 l0 1 (w32 ((μ 4 l0 1) + 1))) 3 l1 1) ≠ 0 → K (w32 (((zset μ 4 l0 1 (w32 ((μ 4 l0 1) + 1))) 4 l0 3) - l2)) (zset μ 4 l0 1 (w32 ((μ 4 l0 1) + 1)))) ∧ (¬ (Int.tmod ((zset μ 4 l0 1 (w32 ((μ 4 l0 1) + 1))) 4 l0 1) ((zset μ 4 l0 1 (w32 ((μ 4 l0 1) + 1))) 3 l1 1) ≠ 0) → (zset μ 4 l0 1 (w32 ((μ 4 l0 1) + 1))) 3 l1 1 ≠ 0 ∧ zC0 d m_X5_dampLifts [zR 4 l0, zI (w32 ((w32 (Int.tdiv ((zset μ 4 l0 1 (w32 ((μ 4 l0 1) + 1))) 4 l0 1) ((zset μ 4 l0 1 (w32 ((μ 4 l0 1) + 1))) 3 l1 1))) - 1))] (zset μ 4 l0 1 (w32 ((μ 4 l0 1) + 1))) (fun μ1 => K (w32 ((μ1 4 l0 3) - l2)) μ1)))) ∧ (¬ (l3 ≥ μ 3 l1 4) → zC0 d m_X5_meetThrough [zR 4 l0, zI l3] μ (fun μ2 => zJ (d + 1) m_X5_anHour 33 [some (zR 4 l0), some (zR 3 l1), some (zI l2), some (zI (w32 (l3 + 1)))] μ2 (zQ1 K)))) : zJ (d + 1) m_X5_anHour 33 [some (zR 4 l0), some (zR 3 l1), some (zI l2), some (zI l3)] μ (zQ1 K) := zgo [(7, [true, true, true, false]), (33, [true, true, true, true])] 400 h
set_option maxRecDepth 20000 in
theorem k_X5_areAtOneWall (d : Nat) (j0 : Nat) (a1 : Int) (a2 : Int) (μ : zM) (K : Int → zM → Prop) (h : zJ (d + 1) m_X5_areAtOneWall 2 [some (zR 4 j0), some (zI a1), some (zI a2), some (zI 0)] μ (zQ1 K)) : zC1 (d + 1) m_X5_areAtOneWall [zR 4 j0, zI a1, zI a2] μ K := zgo [(2, [true, true, true, true])] 400 h
set_option maxRecDepth 20000 in
theorem k_X5_areAtOneWall_2 (d : Nat) (l0 : Nat) (l1 : Int) (l2 : Int) (l3 : Int) (μ : zM) (K : Int → zM → Prop) (h : (l3 ≥ μ 3 0 4 → ((0 : Int) = 0 ∨ (0 : Int) = 1) ∧ K 0 μ) ∧ (¬ (l3 ≥ μ 3 0 4) → zC1 d m_X5_isAtA [zR 4 l0, zI l1, zI l3] μ (fun x1 μ1 => (x1 = 0 → zC1 d m_X5_isAtA [zR 4 l0, zI l2, zI l3] μ1 (fun x2 μ2 => (x2 = 0 → zJ (d + 1) m_X5_areAtOneWall 2 [some (zR 4 l0), some (zI l1), some (zI l2), some (zI (w32 (l3 + 1)))] μ2 (zQ1 K)) ∧ (¬ (x2 = 0) → zC1 d m_X5_isAtB [zR 4 l0, zI l1, zI l3] μ2 (fun x3 μ3 => (x3 = 0 → zJ (d + 1) m_X5_areAtOneWall 2 [some (zR 4 l0), some (zI l1), some (zI l2), some (zI (w32 (l3 + 1)))] μ3 (zQ1 K)) ∧ (¬ (x3 = 0) → ((1 : Int) = 0 ∨ (1 : Int) = 1) ∧ K 1 μ3))))) ∧ (¬ (x1 = 0) → zC1 d m_X5_isAtB [zR 4 l0, zI l2, zI l3] μ1 (fun x4 μ4 => (x4 = 0 → zC1 d m_X5_isAtA [zR 4 l0, zI l2, zI l3] μ4 (fun x5 μ5 => (x5 = 0 → zJ (d + 1) m_X5_areAtOneWall 2 [some (zR 4 l0), some (zI l1), some (zI l2), some (zI (w32 (l3 + 1)))] μ5 (zQ1 K)) ∧ (¬ (x5 = 0) → zC1 d m_X5_isAtB [zR 4 l0, zI l1, zI l3] μ5 (fun x6 μ6 => (x6 = 0 → zJ (d + 1) m_X5_areAtOneWall 2 [some (zR 4 l0), some (zI l1), some (zI l2), some (zI (w32 (l3 + 1)))] μ6 (zQ1 K)) ∧ (¬ (x6 = 0) → ((1 : Int) = 0 ∨ (1 : Int) = 1) ∧ K 1 μ6))))) ∧ (¬ (x4 = 0) → ((1 : Int) = 0 ∨ (1 : Int) = 1) ∧ K 1 μ4)))))) : zJ (d + 1) m_X5_areAtOneWall 2 [some (zR 4 l0), some (zI l1), some (zI l2), some (zI l3)] μ (zQ1 K) := zgo [(2, [true, true, true, true])] 400 h
set_option maxRecDepth 20000 in
theorem k_X5_goOn (d : Nat) (j0 : Nat) (a1 : Int) (μ : zM) (K : zM → Prop) (h : zC1 d m_X3_roomOf [zR 4 j0, zI a1] μ (fun x1 μ1 => zC1 d m_X3_placeOf [zR 4 j0, zI a1] μ1 (fun x2 μ2 => zC1 d m_X1_barsOf [zR 3 0, zI x1] μ2 (fun x3 μ3 => zC1 d m_X3_paceOf [zR 4 j0, zI a1] μ3 (fun x4 μ4 => zJ (d + 1) m_X5_goOn 32 [some (zR 4 j0), some (zI a1), some (zI x1), some (zI x2), some (zI x3), some (zI x4), some (zI 0)] μ4 (zQ0 K)))))) : zC0 (d + 1) m_X5_goOn [zR 4 j0, zI a1] μ K := zgo [(32, [true, true, true, true, true, true, true])] 400 h
set_option maxRecDepth 20000 in
theorem k_X5_goOn_32 (d : Nat) (l0 : Nat) (l1 : Int) (l2 : Int) (l3 : Int) (l4 : Int) (l5 : Int) (l6 : Int) (μ : zM) (K : zM → Prop) (h : (l6 ≥ l5 → zC0 d m_X3_setPlace [zR 4 l0, zI l1, zI l2, zI l3] μ (fun μ1 => K μ1)) ∧ (¬ (l6 ≥ l5) → zC1 d m_X9_leftOver [zI (w32 (l3 + 1)), zI l4] μ (fun x2 μ2 => zC1 d m_X3_reads [zR 4 l0, zI l2, zI x2] μ2 (fun x3 μ3 => (x3 ≠ 0 → zJ (d + 1) m_X5_goOn 32 [some (zR 4 l0), some (zI l1), some (zI l2), some (zI x2), some (zI l4), some (zI l5), some (zI (w32 (l6 + 1)))] μ3 (zQ0 K)) ∧ (¬ (x3 ≠ 0) → zC0 d m_X3_setPlace [zR 4 l0, zI l1, zI l2, zI x2] μ3 (fun μ4 => K μ4)))))) : zJ (d + 1) m_X5_goOn 32 [some (zR 4 l0), some (zI l1), some (zI l2), some (zI l3), some (zI l4), some (zI l5), some (zI l6)] μ (zQ0 K) := zgo [(32, [true, true, true, true, true, true, true])] 400 h
set_option maxRecDepth 20000 in
theorem k_X5_meetThrough (d : Nat) (j0 : Nat) (a1 : Int) (μ : zM) (K : zM → Prop) (h : zJ (d + 1) m_X5_meetThrough 10 [some (zR 4 j0), some (zI a1), some (zI (μ 3 0 3)), some (zI 0), none] μ (zQ0 K)) : zC0 (d + 1) m_X5_meetThrough [zR 4 j0, zI a1] μ K := zgo [(10, [true, true, true, true, false]), (30, [true, true, true, true, true])] 400 h
set_option maxRecDepth 20000 in
theorem k_X5_meetThrough_10 (d : Nat) (l0 : Nat) (l1 : Int) (l2 : Int) (l3 : Int) (μ : zM) (K : zM → Prop) (h : (l3 ≥ l2 → K μ) ∧ (¬ (l3 ≥ l2) → zC1 d m_X5_isAtA [zR 4 l0, zI l3, zI l1] μ (fun x1 μ1 => (x1 ≠ 0 → zJ (d + 1) m_X5_meetThrough 30 [some (zR 4 l0), some (zI l1), some (zI l2), some (zI l3), some (zI 0)] μ1 (zQ0 K)) ∧ (¬ (x1 ≠ 0) → zJ (d + 1) m_X5_meetThrough 10 [some (zR 4 l0), some (zI l1), some (zI l2), some (zI (w32 (l3 + 1))), none] μ1 (zQ0 K))))) : zJ (d + 1) m_X5_meetThrough 10 [some (zR 4 l0), some (zI l1), some (zI l2), some (zI l3), none] μ (zQ0 K) := zgo [(10, [true, true, true, true, false]), (30, [true, true, true, true, true])] 400 h
set_option maxRecDepth 20000 in
theorem k_X5_meetThrough_30 (d : Nat) (l0 : Nat) (l1 : Int) (l2 : Int) (l3 : Int) (l4 : Int) (μ : zM) (K : zM → Prop) (h : (l4 ≥ l2 → zJ (d + 1) m_X5_meetThrough 10 [some (zR 4 l0), some (zI l1), some (zI l2), some (zI (w32 (l3 + 1))), none] μ (zQ0 K)) ∧ (¬ (l4 ≥ l2) → zC1 d m_X5_isAtB [zR 4 l0, zI l4, zI l1] μ (fun x1 μ1 => (x1 = 0 → zJ (d + 1) m_X5_meetThrough 30 [some (zR 4 l0), some (zI l1), some (zI l2), some (zI l3), some (zI (w32 (l4 + 1)))] μ1 (zQ0 K)) ∧ (¬ (x1 = 0) → zC0 d m_X3_addMeeting [zR 4 l0, zI l1, zI l3, zI l4] μ1 (fun μ2 => zJ (d + 1) m_X5_meetThrough 30 [some (zR 4 l0), some (zI l1), some (zI l2), some (zI l3), some (zI (w32 (l4 + 1)))] μ2 (zQ0 K)))))) : zJ (d + 1) m_X5_meetThrough 30 [some (zR 4 l0), some (zI l1), some (zI l2), some (zI l3), some (zI l4)] μ (zQ0 K) := zgo [(10, [true, true, true, true, false]), (30, [true, true, true, true, true])] 400 h
set_option maxRecDepth 20000 in
theorem k_X5_isAtA (d : Nat) (j0 : Nat) (a1 : Int) (a2 : Int) (μ : zM) (K : Int → zM → Prop) (h : zC1 d m_X1_wallPart [zR 3 0, zI a2, zI 0] μ (fun x1 μ1 => zC1 d m_X1_wallPart [zR 3 0, zI a2, zI 1] μ1 (fun x2 μ2 => zC1 d m_X3_isAt [zR 4 j0, zI a1, zI x1, zI x2] μ2 (fun x3 μ3 => (x3 = 0 ∨ x3 = 1) ∧ K x3 μ3)))) : zC1 (d + 1) m_X5_isAtA [zR 4 j0, zI a1, zI a2] μ K := zgo [] 400 h
set_option maxRecDepth 20000 in
theorem k_X5_isAtB (d : Nat) (j0 : Nat) (a1 : Int) (a2 : Int) (μ : zM) (K : Int → zM → Prop) (h : zC1 d m_X1_wallPart [zR 3 0, zI a2, zI 2] μ (fun x1 μ1 => zC1 d m_X1_wallPart [zR 3 0, zI a2, zI 3] μ1 (fun x2 μ2 => zC1 d m_X3_isAt [zR 4 j0, zI a1, zI x1, zI x2] μ2 (fun x3 μ3 => (x3 = 0 ∨ x3 = 1) ∧ K x3 μ3)))) : zC1 (d + 1) m_X5_isAtB [zR 4 j0, zI a1, zI a2] μ K := zgo [] 400 h
set_option maxRecDepth 20000 in
theorem k_X5_dampLifts (d : Nat) (j0 : Nat) (a1 : Int) (μ : zM) (K : zM → Prop) (h : (μ 3 0 2 > 0 → μ 3 0 2 ≠ 0 ∧ μ 3 0 2 ≠ 0 ∧ zC1 d m_X1_barsOf [zR 3 0, zI (Int.tmod a1 (μ 3 0 2))] μ (fun x1 μ1 => zC1 d m_X9_leftOver [zI (w32 (Int.tdiv a1 (μ 3 0 2))), zI x1] μ1 (fun x2 μ2 => zC1 d m_X3_isLifted [zR 4 j0, zI (Int.tmod a1 (μ 3 0 2)), zI x2] μ2 (fun x3 μ3 => (x3 ≠ 0 → K μ3) ∧ (¬ (x3 ≠ 0) → zC0 d m_X3_turn [zR 4 j0, zI (Int.tmod a1 (μ 3 0 2)), zI x2] μ3 (fun μ4 => K μ4)))))) ∧ (¬ (μ 3 0 2 > 0) → K μ)) : zC0 (d + 1) m_X5_dampLifts [zR 4 j0, zI a1] μ K := zgo [] 400 h
set_option maxRecDepth 20000 in
theorem k_X6_size (d : Nat)  (μ : zM) (K : Int → zM → Prop) (h : K (μ 5 0 1) μ) : zC1 d m_X6_size [zR 5 0] μ K := zgo [] 400 h
set_option maxRecDepth 20000 in
theorem k_X6_forget (d : Nat)  (μ : zM) (K : zM → Prop) (h : K (zset μ 5 0 1 0)) : zC0 d m_X6_forget [zR 5 0] μ K := zgo [] 400 h
set_option maxRecDepth 20000 in
theorem k_X6_add (d : Nat) (j1 : Nat) (μ : zM) (K : zM → Prop) (h : zC4 d m_X6_kept [zR 5 0, zI (μ 5 0 2)] μ 4 (fun x1 μ1 => zC0 d m_X3_become [zR 4 x1, zR 4 j1] μ1 (fun μ2 => (30 : Int) ≠ 0 ∧ K (zset (zset μ2 5 0 2 (Int.tmod (w32 ((μ2 5 0 2) + 1)) 30)) 5 0 1 (zmin 30 (w32 (((zset μ2 5 0 2 (Int.tmod (w32 ((μ2 5 0 2) + 1)) 30)) 5 0 1) + 1))))))) : zC0 (d + 1) m_X6_add [zR 5 0, zR 4 j1] μ K := zgo [] 400 h
set_option maxRecDepth 20000 in
theorem k_X6_takeBack (d : Nat) (a1 : Int) (j2 : Nat) (μ : zM) (K : zM → Prop) (h : (30 : Int) ≠ 0 ∧ zC4 d m_X6_kept [zR 5 0, zI (Int.tmod (w32 ((w32 ((μ 5 0 2) + 30)) - a1)) 30)] μ 4 (fun x1 μ1 => zC0 d m_X3_become [zR 4 j2, zR 4 x1] μ1 (fun μ2 => K (zset (zset μ2 5 0 2 (Int.tmod (w32 ((w32 ((μ 5 0 2) + 30)) - a1)) 30)) 5 0 1 (w32 (((zset μ2 5 0 2 (Int.tmod (w32 ((w32 ((μ 5 0 2) + 30)) - a1)) 30)) 5 0 1) - a1)))))) : zC0 (d + 1) m_X6_takeBack [zR 5 0, zI a1, zR 4 j2] μ K := zgo [] 400 h
set_option maxRecDepth 20000 in
theorem k_X6_kept (d : Nat) (a1 : Int) (μ : zM) (K : Nat → zM → Prop) (h : (a1 < 0 → False) ∧ (¬ (a1 < 0) → (a1 ≥ 30 → False) ∧ (¬ (a1 ≥ 30) → (0 ≤ a1 ∧ a1 < 30) ∧ K (2 + a1.toNat) μ))) : zC4 d m_X6_kept [zR 5 0, zI a1] μ 4 K := zgo [] 400 h
set_option maxRecDepth 20000 in
theorem k_X7_letters (d : Nat)  (μ : zM) (K : Int → zM → Prop) (h : K (μ 2 0 2) μ) : zC1 d m_X7_letters [zR 2 0] μ K := zgo [] 400 h
end
section
/-! WHAT METHODS COME TO, by program (each closed by running the abstract machine in the kernel) -/
set_option maxRecDepth 20000 in
theorem k_X7_place (d : Nat)  (μ : zM) (K : Int → zM → Prop) (h : K (μ 2 0 6) μ) : zC1 d m_X7_place [zR 2 0] μ K := zgo [] 400 h
set_option maxRecDepth 20000 in
theorem k_X7_draft (d : Nat)  (μ : zM) (K : Nat → zM → Prop) (h : K 1 μ) : zC4 d m_X7_draft [zR 2 0] μ 3 K := zgo [] 400 h
set_option maxRecDepth 20000 in
theorem k_X7_add (d : Nat) (a1 : Int) (μ : zM) (K : Int → zM → Prop) (h : (μ 2 0 2 < 240 → zC0 d m_X9_put [zR 20 0, zI (μ 2 0 2), zI a1] μ (fun μ1 => ((1 : Int) = 0 ∨ (1 : Int) = 1) ∧ K 1 (zset μ1 2 0 2 (w32 ((μ1 2 0 2) + 1))))) ∧ (¬ (μ 2 0 2 < 240) → ((0 : Int) = 0 ∨ (0 : Int) = 1) ∧ K 0 μ)) : zC1 (d + 1) m_X7_add [zR 2 0, zI a1] μ K := zgo [] 400 h
set_option maxRecDepth 20000 in
theorem k_X7_read (d : Nat)  (μ : zM) (K : Int → zM → Prop) (h : zC0 d m_X1_clear [zR 3 1] μ (fun μ1 => zC0 d m_X7_skipBlanks [zR 2 0] (zset (zset (zset μ1 2 0 3 0) 2 0 5 0) 2 0 6 ((-1))) (fun μ2 => zJ (d + 1) m_X7_read 28 [some (zR 2 0), some (zI 0)] μ2 (zQ1 K)))) : zC1 (d + 1) m_X7_read [zR 2 0] μ K := zgo [(28, [true, true])] 400 h
set_option maxRecDepth 20000 in
theorem k_X7_read_28 (d : Nat) (l1 : Int) (μ : zM) (K : Int → zM → Prop) (h : (l1 ≥ 240 → K ((zset μ 2 0 2 0) 2 0 5) (zset μ 2 0 2 0)) ∧ (¬ (l1 ≥ 240) → (μ 2 0 5 ≠ 0 → K ((zset μ 2 0 2 0) 2 0 5) (zset μ 2 0 2 0)) ∧ (¬ (μ 2 0 5 ≠ 0) → (μ 2 0 3 ≥ μ 2 0 2 → K ((zset μ 2 0 2 0) 2 0 5) (zset μ 2 0 2 0)) ∧ (¬ (μ 2 0 3 ≥ μ 2 0 2) → zC0 d m_X7_readClause [zR 2 0] μ (fun μ1 => zC0 d m_X7_skipBlanks [zR 2 0] μ1 (fun μ2 => zJ (d + 1) m_X7_read 28 [some (zR 2 0), some (zI (w32 (l1 + 1)))] μ2 (zQ1 K))))))) : zJ (d + 1) m_X7_read 28 [some (zR 2 0), some (zI l1)] μ (zQ1 K) := zgo [(28, [true, true])] 400 h
set_option maxRecDepth 20000 in
theorem k_X7_readClause (d : Nat)  (μ : zM) (K : zM → Prop) (h : zC1 d m_X7_letter [zR 2 0] μ (fun x1 μ1 => (μ1 3 1 0 ≠ 0 → (x1 = 100 → zC0 d m_X7_readDamp [zR 2 0] μ1 (fun μ2 => K μ2)) ∧ (x1 ≠ 100 → (x1 = 112 → zC0 d m_X7_readPerson [zR 2 0] μ1 (fun μ3 => K μ3)) ∧ (x1 ≠ 112 → (x1 = 114 → zC0 d m_X7_readRoom [zR 2 0] μ1 (fun μ4 => K μ4)) ∧ (x1 ≠ 114 → (x1 = 117 → zC0 d m_X7_readUnder [zR 2 0] μ1 (fun μ5 => K μ5)) ∧ (x1 ≠ 117 → (x1 = 119 → zC0 d m_X7_readWall [zR 2 0] μ1 (fun μ6 => K μ6)) ∧ (x1 ≠ 119 → zC0 d m_X7_fail [zR 2 0, zI 1, zI (μ1 2 0 3)] μ1 (fun μ7 => K μ7))))))) ∧ (¬ (μ1 3 1 0 ≠ 0) → (x1 = 100 → (x1 = 100 → zC0 d m_X7_readDamp [zR 2 0] μ1 (fun μ8 => K μ8)) ∧ (x1 ≠ 100 → (x1 = 112 → zC0 d m_X7_readPerson [zR 2 0] μ1 (fun μ9 => K μ9)) ∧ (x1 ≠ 112 → (x1 = 114 → zC0 d m_X7_readRoom [zR 2 0] μ1 (fun μ10 => K μ10)) ∧ (x1 ≠ 114 → (x1 = 117 → zC0 d m_X7_readUnder [zR 2 0] μ1 (fun μ11 => K μ11)) ∧ (x1 ≠ 117 → (x1 = 119 → zC0 d m_X7_readWall [zR 2 0] μ1 (fun μ12 => K μ12)) ∧ (x1 ≠ 119 → zC0 d m_X7_fail [zR 2 0, zI 1, zI (μ1 2 0 3)] μ1 (fun μ13 => K μ13))))))) ∧ (¬ (x1 = 100) → zC0 d m_X7_fail [zR 2 0, zI 1, zI (μ1 2 0 3)] μ1 (fun μ14 => K μ14))))) : zC0 (d + 1) m_X7_readClause [zR 2 0] μ K := zgo [] 400 h
set_option maxRecDepth 20000 in
theorem k_X7_readDamp (d : Nat)  (μ : zM) (K : zM → Prop) (h : (μ 3 1 0 = 0 → ((1 : Int) = 0 ∨ (1 : Int) = 1) ∧ zC1 d m_X7_readNumber [zR 2 0, zI 99] (zset (zset μ 2 0 3 (w32 ((μ 2 0 3) + 1))) 3 1 0 1) (fun x1 μ1 => zC0 d m_X7_expect [zR 2 0, zI 59] (zset μ1 3 1 1 x1) (fun μ2 => K μ2))) ∧ (¬ (μ 3 1 0 = 0) → zC0 d m_X7_fail [zR 2 0, zI 3, zI (μ 2 0 3)] μ (fun μ3 => ((1 : Int) = 0 ∨ (1 : Int) = 1) ∧ zC1 d m_X7_readNumber [zR 2 0, zI 99] (zset (zset μ3 2 0 3 (w32 ((μ3 2 0 3) + 1))) 3 1 0 1) (fun x4 μ4 => zC0 d m_X7_expect [zR 2 0, zI 59] (zset μ4 3 1 1 x4) (fun μ5 => K μ5))))) : zC0 (d + 1) m_X7_readDamp [zR 2 0] μ K := zgo [] 400 h
set_option maxRecDepth 20000 in
theorem k_X7_readRoom (d : Nat)  (μ : zM) (K : zM → Prop) (h : (μ 3 1 2 < 6 → zJ (d + 1) m_X7_readRoom 33 [some (zR 2 0), some (zI 0)] (zset μ 2 0 3 (w32 ((μ 2 0 3) + 1))) (zQ0 K)) ∧ (¬ (μ 3 1 2 < 6) → zC0 d m_X7_fail [zR 2 0, zI 3, zI (μ 2 0 3)] μ (fun μ1 => zJ (d + 1) m_X7_readRoom 33 [some (zR 2 0), some (zI 0)] (zset μ1 2 0 3 (w32 ((μ1 2 0 3) + 1))) (zQ0 K)))) : zC0 (d + 1) m_X7_readRoom [zR 2 0] μ K := zgo [(33, [true, true])] 400 h
set_option maxRecDepth 20000 in
theorem k_X7_readRoom_33 (d : Nat) (l1 : Int) (μ : zM) (K : zM → Prop) (h : zC1 d m_X7_readNumber [zR 2 0, zI 9] μ (fun x1 μ1 => zC0 d m_X1_putPaper [zR 3 1, zI (μ 3 1 2), zI l1, zI x1] μ1 (fun μ2 => (w32 (l1 + 1) ≥ 12 → zC0 d m_X7_expect [zR 2 0, zI 59] μ2 (fun μ3 => zC0 d m_X1_addRoom [zR 3 1, zI (w32 (l1 + 1))] μ3 (fun μ4 => K μ4))) ∧ (¬ (w32 (l1 + 1) ≥ 12) → zC1 d m_X7_accept [zR 2 0, zI 44] μ2 (fun x5 μ5 => (x5 ≠ 0 → zJ (d + 1) m_X7_readRoom 33 [some (zR 2 0), some (zI (w32 (l1 + 1)))] μ5 (zQ0 K)) ∧ (¬ (x5 ≠ 0) → zC0 d m_X7_expect [zR 2 0, zI 59] μ5 (fun μ6 => zC0 d m_X1_addRoom [zR 3 1, zI (w32 (l1 + 1))] μ6 (fun μ7 => K μ7)))))))) : zJ (d + 1) m_X7_readRoom 33 [some (zR 2 0), some (zI l1)] μ (zQ0 K) := zgo [(33, [true, true])] 400 h
set_option maxRecDepth 20000 in
theorem k_X7_readUnder (d : Nat)  (μ : zM) (K : zM → Prop) (h : zC1 d m_X7_readNumber [zR 2 0, zI (w32 (((zset μ 2 0 3 (w32 ((μ 2 0 3) + 1))) 3 1 2) - 1))] (zset μ 2 0 3 (w32 ((μ 2 0 3) + 1))) (fun x1 μ1 => zC1 d m_X1_hasUnder [zR 3 1, zI x1] μ1 (fun x2 μ2 => (x2 = 0 → zC1 d m_X1_barsOf [zR 3 1, zI x1] μ2 (fun x3 μ3 => zJ (d + 1) m_X7_readUnder 55 [some (zR 2 0), some (zI x1), some (zI x3), some (zI 0)] μ3 (zQ0 K))) ∧ (¬ (x2 = 0) → zC0 d m_X7_fail [zR 2 0, zI 4, zI (μ2 2 0 4)] μ2 (fun μ4 => zC1 d m_X1_barsOf [zR 3 1, zI x1] μ4 (fun x5 μ5 => zJ (d + 1) m_X7_readUnder 55 [some (zR 2 0), some (zI x1), some (zI x5), some (zI 0)] μ5 (zQ0 K))))))) : zC0 (d + 1) m_X7_readUnder [zR 2 0] μ K := zgo [(55, [true, true, true, true])] 400 h
set_option maxRecDepth 20000 in
theorem k_X7_readUnder_55 (d : Nat) (l1 : Int) (l2 : Int) (l3 : Int) (μ : zM) (K : zM → Prop) (h : (l3 ≥ l2 → zC0 d m_X7_expect [zR 2 0, zI 59] μ (fun μ1 => K (zset μ1 3 1 5 (zor (μ1 3 1 5) (zshl 1 l1))))) ∧ (¬ (l3 ≥ l2) → (l3 ≤ 0 → zC1 d m_X7_readNumber [zR 2 0, zI 9] μ (fun x2 μ2 => zC0 d m_X1_putUnder [zR 3 1, zI l1, zI l3, zI x2] μ2 (fun μ3 => zJ (d + 1) m_X7_readUnder 55 [some (zR 2 0), some (zI l1), some (zI l2), some (zI (w32 (l3 + 1)))] μ3 (zQ0 K)))) ∧ (¬ (l3 ≤ 0) → zC0 d m_X7_expect [zR 2 0, zI 44] μ (fun μ4 => zC1 d m_X7_readNumber [zR 2 0, zI 9] μ4 (fun x5 μ5 => zC0 d m_X1_putUnder [zR 3 1, zI l1, zI l3, zI x5] μ5 (fun μ6 => zJ (d + 1) m_X7_readUnder 55 [some (zR 2 0), some (zI l1), some (zI l2), some (zI (w32 (l3 + 1)))] μ6 (zQ0 K))))))) : zJ (d + 1) m_X7_readUnder 55 [some (zR 2 0), some (zI l1), some (zI l2), some (zI l3)] μ (zQ0 K) := zgo [(55, [true, true, true, true])] 400 h
set_option maxRecDepth 20000 in
theorem k_X7_readPerson (d : Nat)  (μ : zM) (K : zM → Prop) (h : (μ 3 1 3 < 5 → zC1 d m_X7_readNumber [zR 2 0, zI (w32 (((zset μ 2 0 3 (w32 ((μ 2 0 3) + 1))) 3 1 2) - 1))] (zset μ 2 0 3 (w32 ((μ 2 0 3) + 1))) (fun x1 μ1 => zC0 d m_X1_putPerson [zR 3 1, zI 0, zI x1] μ1 (fun μ2 => zC1 d m_X1_barsOf [zR 3 1, zI x1] μ2 (fun x3 μ3 => zC1 d m_X7_readNumber [zR 2 0, zI (w32 (x3 - 1))] μ3 (fun x4 μ4 => zC0 d m_X1_putPerson [zR 3 1, zI 1, zI x4] μ4 (fun μ5 => zC1 d m_X7_readNumber [zR 2 0, zI 9] μ5 (fun x6 μ6 => zC0 d m_X1_putPerson [zR 3 1, zI 2, zI x6] μ6 (fun μ7 => zC0 d m_X7_expect [zR 2 0, zI 59] μ7 (fun μ8 => K (zset μ8 3 1 3 (w32 ((μ8 3 1 3) + 1)))))))))))) ∧ (¬ (μ 3 1 3 < 5) → zC0 d m_X7_fail [zR 2 0, zI 3, zI (μ 2 0 3)] μ (fun μ9 => zC1 d m_X7_readNumber [zR 2 0, zI (w32 (((zset μ9 2 0 3 (w32 ((μ9 2 0 3) + 1))) 3 1 2) - 1))] (zset μ9 2 0 3 (w32 ((μ9 2 0 3) + 1))) (fun x10 μ10 => zC0 d m_X1_putPerson [zR 3 1, zI 0, zI x10] μ10 (fun μ11 => zC1 d m_X1_barsOf [zR 3 1, zI x10] μ11 (fun x12 μ12 => zC1 d m_X7_readNumber [zR 2 0, zI (w32 (x12 - 1))] μ12 (fun x13 μ13 => zC0 d m_X1_putPerson [zR 3 1, zI 1, zI x13] μ13 (fun μ14 => zC1 d m_X7_readNumber [zR 2 0, zI 9] μ14 (fun x15 μ15 => zC0 d m_X1_putPerson [zR 3 1, zI 2, zI x15] μ15 (fun μ16 => zC0 d m_X7_expect [zR 2 0, zI 59] μ16 (fun μ17 => K (zset μ17 3 1 3 (w32 ((μ17 3 1 3) + 1)))))))))))))) : zC0 (d + 1) m_X7_readPerson [zR 2 0] μ K := zgo [] 400 h
set_option maxRecDepth 20000 in
theorem k_X7_readWall (d : Nat)  (μ : zM) (K : zM → Prop) (h : (μ 3 1 4 < 6 → zC1 d m_X7_readNumber [zR 2 0, zI (w32 (((zset μ 2 0 3 (w32 ((μ 2 0 3) + 1))) 3 1 2) - 1))] (zset μ 2 0 3 (w32 ((μ 2 0 3) + 1))) (fun x1 μ1 => zC0 d m_X1_putWall [zR 3 1, zI 0, zI x1] μ1 (fun μ2 => zC1 d m_X1_barsOf [zR 3 1, zI x1] μ2 (fun x3 μ3 => zC1 d m_X7_readNumber [zR 2 0, zI (w32 (x3 - 1))] μ3 (fun x4 μ4 => zC0 d m_X1_putWall [zR 3 1, zI 1, zI x4] μ4 (fun μ5 => zC1 d m_X7_readNumber [zR 2 0, zI (w32 ((μ5 3 1 2) - 1))] μ5 (fun x6 μ6 => (x6 ≠ x1 → zC0 d m_X1_putWall [zR 3 1, zI 2, zI x6] μ6 (fun μ7 => zC1 d m_X1_barsOf [zR 3 1, zI x6] μ7 (fun x8 μ8 => zC1 d m_X7_readNumber [zR 2 0, zI (w32 (x8 - 1))] μ8 (fun x9 μ9 => zC0 d m_X1_putWall [zR 3 1, zI 3, zI x9] μ9 (fun μ10 => zC0 d m_X7_expect [zR 2 0, zI 59] μ10 (fun μ11 => K (zset μ11 3 1 4 (w32 ((μ11 3 1 4) + 1))))))))) ∧ (¬ (x6 ≠ x1) → zC0 d m_X7_fail [zR 2 0, zI 4, zI (μ6 2 0 4)] μ6 (fun μ12 => zC0 d m_X1_putWall [zR 3 1, zI 2, zI x6] μ12 (fun μ13 => zC1 d m_X1_barsOf [zR 3 1, zI x6] μ13 (fun x14 μ14 => zC1 d m_X7_readNumber [zR 2 0, zI (w32 (x14 - 1))] μ14 (fun x15 μ15 => zC0 d m_X1_putWall [zR 3 1, zI 3, zI x15] μ15 (fun μ16 => zC0 d m_X7_expect [zR 2 0, zI 59] μ16 (fun μ17 => K (zset μ17 3 1 4 (w32 ((μ17 3 1 4) + 1))))))))))))))))) ∧ (¬ (μ 3 1 4 < 6) → zC0 d m_X7_fail [zR 2 0, zI 3, zI (μ 2 0 3)] μ (fun μ18 => zC1 d m_X7_readNumber [zR 2 0, zI (w32 (((zset μ18 2 0 3 (w32 ((μ18 2 0 3) + 1))) 3 1 2) - 1))] (zset μ18 2 0 3 (w32 ((μ18 2 0 3) + 1))) (fun x19 μ19 => zC0 d m_X1_putWall [zR 3 1, zI 0, zI x19] μ19 (fun μ20 => zC1 d m_X1_barsOf [zR 3 1, zI x19] μ20 (fun x21 μ21 => zC1 d m_X7_readNumber [zR 2 0, zI (w32 (x21 - 1))] μ21 (fun x22 μ22 => zC0 d m_X1_putWall [zR 3 1, zI 1, zI x22] μ22 (fun μ23 => zC1 d m_X7_readNumber [zR 2 0, zI (w32 ((μ23 3 1 2) - 1))] μ23 (fun x24 μ24 => (x24 ≠ x19 → zC0 d m_X1_putWall [zR 3 1, zI 2, zI x24] μ24 (fun μ25 => zC1 d m_X1_barsOf [zR 3 1, zI x24] μ25 (fun x26 μ26 => zC1 d m_X7_readNumber [zR 2 0, zI (w32 (x26 - 1))] μ26 (fun x27 μ27 => zC0 d m_X1_putWall [zR 3 1, zI 3, zI x27] μ27 (fun μ28 => zC0 d m_X7_expect [zR 2 0, zI 59] μ28 (fun μ29 => K (zset μ29 3 1 4 (w32 ((μ29 3 1 4) + 1))))))))) ∧ (¬ (x24 ≠ x19) → zC0 d m_X7_fail [zR 2 0, zI 4, zI (μ24 2 0 4)] μ24 (fun μ30 => zC0 d m_X1_putWall [zR 3 1, zI 2, zI x24] μ30 (fun μ31 => zC1 d m_X1_barsOf [zR 3 1, zI x24] μ31 (fun x32 μ32 => zC1 d m_X7_readNumber [zR 2 0, zI (w32 (x32 - 1))] μ32 (fun x33 μ33 => zC0 d m_X1_putWall [zR 3 1, zI 3, zI x33] μ33 (fun μ34 => zC0 d m_X7_expect [zR 2 0, zI 59] μ34 (fun μ35 => K (zset μ35 3 1 4 (w32 ((μ35 3 1 4) + 1))))))))))))))))))) : zC0 (d + 1) m_X7_readWall [zR 2 0] μ K := zgo [] 400 h
set_option maxRecDepth 20000 in
theorem k_X7_readNumber (d : Nat) (a1 : Int) (μ : zM) (K : Int → zM → Prop) (h : zC0 d m_X7_skipBlanks [zR 2 0] μ (fun μ1 => zJ (d + 1) m_X7_readNumber 14 [some (zR 2 0), some (zI a1), some (zI 0)] (zset μ1 2 0 4 (μ1 2 0 3)) (zQ1 K))) : zC1 (d + 1) m_X7_readNumber [zR 2 0, zI a1] μ K := zgo [(14, [true, true, true])] 400 h
set_option maxRecDepth 20000 in
theorem k_X7_readNumber_14 (d : Nat) (l1 : Int) (l2 : Int) (μ : zM) (K : Int → zM → Prop) (h : (μ 2 0 3 ≥ μ 2 0 2 → (μ 2 0 3 ≠ μ 2 0 4 → (w32 ((μ 2 0 3) - (μ 2 0 4)) > 3 → zC0 d m_X7_fail [zR 2 0, zI 2, zI (μ 2 0 4)] μ (fun μ1 => K l2 μ1)) ∧ (¬ (w32 ((μ 2 0 3) - (μ 2 0 4)) > 3) → (l2 ≤ l1 → K l2 μ) ∧ (¬ (l2 ≤ l1) → zC0 d m_X7_fail [zR 2 0, zI 2, zI (μ 2 0 4)] μ (fun μ2 => K l2 μ2)))) ∧ (¬ (μ 2 0 3 ≠ μ 2 0 4) → zC0 d m_X7_fail [zR 2 0, zI 1, zI (μ 2 0 4)] μ (fun μ3 => K l2 μ3))) ∧ (¬ (μ 2 0 3 ≥ μ 2 0 2) → zC1 d m_X7_letter [zR 2 0] μ (fun x4 μ4 => zC1 d m_X7_isFigure [zI x4] μ4 (fun x5 μ5 => (x5 = 0 → (μ5 2 0 3 ≠ μ5 2 0 4 → (w32 ((μ5 2 0 3) - (μ5 2 0 4)) > 3 → zC0 d m_X7_fail [zR 2 0, zI 2, zI (μ5 2 0 4)] μ5 (fun μ6 => K l2 μ6)) ∧ (¬ (w32 ((μ5 2 0 3) - (μ5 2 0 4)) > 3) → (l2 ≤ l1 → K l2 μ5) ∧ (¬ (l2 ≤ l1) → zC0 d m_X7_fail [zR 2 0, zI 2, zI (μ5 2 0 4)] μ5 (fun μ7 => K l2 μ7)))) ∧ (¬ (μ5 2 0 3 ≠ μ5 2 0 4) → zC0 d m_X7_fail [zR 2 0, zI 1, zI (μ5 2 0 4)] μ5 (fun μ8 => K l2 μ8))) ∧ (¬ (x5 = 0) → zC1 d m_X7_letter [zR 2 0] μ5 (fun x9 μ9 => zJ (d + 1) m_X7_readNumber 14 [some (zR 2 0), some (zI l1), some (zI (zmin 1000 (w32 ((w32 ((w32 (l2 * 10)) + x9)) - 48))))] (zset μ9 2 0 3 (w32 ((μ9 2 0 3) + 1))) (zQ1 K))))))) : zJ (d + 1) m_X7_readNumber 14 [some (zR 2 0), some (zI l1), some (zI l2)] μ (zQ1 K) := zgo [(14, [true, true, true])] 400 h
set_option maxRecDepth 20000 in
theorem k_X7_expect (d : Nat) (a1 : Int) (μ : zM) (K : zM → Prop) (h : zC0 d m_X7_skipBlanks [zR 2 0] μ (fun μ1 => zC1 d m_X7_letter [zR 2 0] μ1 (fun x2 μ2 => (x2 ≠ a1 → zC0 d m_X7_fail [zR 2 0, zI 1, zI (μ2 2 0 3)] μ2 (fun μ3 => K μ3)) ∧ (¬ (x2 ≠ a1) → K (zset μ2 2 0 3 (w32 ((μ2 2 0 3) + 1))))))) : zC0 (d + 1) m_X7_expect [zR 2 0, zI a1] μ K := zgo [] 400 h
set_option maxRecDepth 20000 in
theorem k_X7_accept (d : Nat) (a1 : Int) (μ : zM) (K : Int → zM → Prop) (h : zC0 d m_X7_skipBlanks [zR 2 0] μ (fun μ1 => zC1 d m_X7_letter [zR 2 0] μ1 (fun x2 μ2 => (x2 = a1 → ((1 : Int) = 0 ∨ (1 : Int) = 1) ∧ K 1 (zset μ2 2 0 3 (w32 ((μ2 2 0 3) + 1)))) ∧ (¬ (x2 = a1) → ((0 : Int) = 0 ∨ (0 : Int) = 1) ∧ K 0 μ2)))) : zC1 (d + 1) m_X7_accept [zR 2 0, zI a1] μ K := zgo [] 400 h
set_option maxRecDepth 20000 in
theorem k_X7_skipBlanks (d : Nat)  (μ : zM) (K : zM → Prop) (h : zJ (d + 1) m_X7_skipBlanks 0 [some (zR 2 0)] μ (zQ0 K)) : zC0 (d + 1) m_X7_skipBlanks [zR 2 0] μ K := zW_mk none _ _ _ [true] _ _ _ _ h
set_option maxRecDepth 20000 in
theorem k_X7_skipBlanks_0 (d : Nat)  (μ : zM) (K : zM → Prop) (h : (μ 2 0 3 ≥ μ 2 0 2 → K μ) ∧ (¬ (μ 2 0 3 ≥ μ 2 0 2) → zC1 d m_X7_letter [zR 2 0] μ (fun x1 μ1 => (x1 ≠ 32 → K μ1) ∧ (¬ (x1 ≠ 32) → zJ (d + 1) m_X7_skipBlanks 0 [some (zR 2 0)] (zset μ1 2 0 3 (w32 ((μ1 2 0 3) + 1))) (zQ0 K))))) : zJ (d + 1) m_X7_skipBlanks 0 [some (zR 2 0)] μ (zQ0 K) := zgo [(0, [true])] 400 h
set_option maxRecDepth 20000 in
theorem k_X7_letter (d : Nat)  (μ : zM) (K : Int → zM → Prop) (h : (μ 2 0 3 < 0 → K ((-1)) μ) ∧ (¬ (μ 2 0 3 < 0) → (μ 2 0 3 ≥ μ 2 0 2 → K ((-1)) μ) ∧ (¬ (μ 2 0 3 ≥ μ 2 0 2) → (μ 2 0 3 ≥ 240 → K ((-1)) μ) ∧ (¬ (μ 2 0 3 ≥ 240) → (0 ≤ μ 2 0 3 ∧ μ 2 0 3 < 240) ∧ K (μ 20 0 (μ 2 0 3).toNat) μ)))) : zC1 d m_X7_letter [zR 2 0] μ K := zgo [] 400 h
set_option maxRecDepth 20000 in
theorem k_X7_isFigure (d : Nat) (a0 : Int) (μ : zM) (K : Int → zM → Prop) (h : (a0 < 48 → ((0 : Int) = 0 ∨ (0 : Int) = 1) ∧ K 0 μ) ∧ (¬ (a0 < 48) → (a0 > 57 → ((0 : Int) = 0 ∨ (0 : Int) = 1) ∧ K 0 μ) ∧ (¬ (a0 > 57) → ((1 : Int) = 0 ∨ (1 : Int) = 1) ∧ K 1 μ))) : zC1 d m_X7_isFigure [zI a0] μ K := zgo [] 400 h
set_option maxRecDepth 20000 in
theorem k_X7_fail (d : Nat) (a1 : Int) (a2 : Int) (μ : zM) (K : zM → Prop) (h : (μ 2 0 5 = 0 → K (zset (zset μ 2 0 5 a1) 2 0 6 a2)) ∧ (¬ (μ 2 0 5 = 0) → K μ)) : zC0 d m_X7_fail [zR 2 0, zI a1, zI a2] μ K := zgo [] 400 h
set_option maxRecDepth 20000 in
theorem k_X8_keyOf (d : Nat) (j0 : Nat) (a1 : Int) (μ : zM) (K : Int → zM → Prop) (h : zC1 d m_X1_barsOf [zR 3 0, zI a1] μ (fun x1 μ1 => zJ (d + 1) m_X8_keyOf 14 [some (zR 4 j0), some (zI a1), some (zI 0), some (zI x1), some (zI 0)] μ1 (zQ1 K))) : zC1 (d + 1) m_X8_keyOf [zR 4 j0, zI a1] μ K := zgo [(14, [true, true, true, true, true])] 400 h
set_option maxRecDepth 20000 in
theorem k_X8_keyOf_14 (d : Nat) (l0 : Nat) (l1 : Int) (l2 : Int) (l3 : Int) (l4 : Int) (μ : zM) (K : Int → zM → Prop) (h : (l4 ≥ l3 → (12 : Int) ≠ 0 ∧ K (Int.tmod l2 12) μ) ∧ (¬ (l4 ≥ l3) → zC1 d m_X3_reads [zR 4 l0, zI l1, zI l4] μ (fun x1 μ1 => zJ (d + 1) m_X8_keyOf 14 [some (zR 4 l0), some (zI l1), some (zI (w32 (l2 + x1))), some (zI l3), some (zI (w32 (l4 + 1)))] μ1 (zQ1 K)))) : zJ (d + 1) m_X8_keyOf 14 [some (zR 4 l0), some (zI l1), some (zI l2), some (zI l3), some (zI l4)] μ (zQ1 K) := zgo [(14, [true, true, true, true, true])] 400 h
set_option maxRecDepth 20000 in
theorem k_X8_repeatOf (d : Nat) (j0 : Nat) (a1 : Int) (μ : zM) (K : Int → zM → Prop) (h : zC1 d m_X1_barsOf [zR 3 0, zI a1] μ (fun x1 μ1 => zJ (d + 1) m_X8_repeatOf 11 [some (zR 4 j0), some (zI a1), some (zI x1), some (zI 1)] μ1 (zQ1 K))) : zC1 (d + 1) m_X8_repeatOf [zR 4 j0, zI a1] μ K := zgo [(11, [true, true, true, true])] 400 h
set_option maxRecDepth 20000 in
theorem k_X8_repeatOf_11 (d : Nat) (l0 : Nat) (l1 : Int) (l2 : Int) (l3 : Int) (μ : zM) (K : Int → zM → Prop) (h : (l3 ≥ l2 → K l2 μ) ∧ (¬ (l3 ≥ l2) → zC1 d m_X8_repeatsBy [zR 4 l0, zI l1, zI l3] μ (fun x1 μ1 => (x1 = 0 → zJ (d + 1) m_X8_repeatOf 11 [some (zR 4 l0), some (zI l1), some (zI l2), some (zI (w32 (l3 + 1)))] μ1 (zQ1 K)) ∧ (¬ (x1 = 0) → K l3 μ1)))) : zJ (d + 1) m_X8_repeatOf 11 [some (zR 4 l0), some (zI l1), some (zI l2), some (zI l3)] μ (zQ1 K) := zgo [(11, [true, true, true, true])] 400 h
set_option maxRecDepth 20000 in
theorem k_X8_repeatsBy (d : Nat) (j0 : Nat) (a1 : Int) (a2 : Int) (μ : zM) (K : Int → zM → Prop) (h : zC1 d m_X1_barsOf [zR 3 0, zI a1] μ (fun x1 μ1 => zJ (d + 1) m_X8_repeatsBy 12 [some (zR 4 j0), some (zI a1), some (zI a2), some (zI x1), some (zI 0)] μ1 (zQ1 K))) : zC1 (d + 1) m_X8_repeatsBy [zR 4 j0, zI a1, zI a2] μ K := zgo [(12, [true, true, true, true, true])] 400 h
set_option maxRecDepth 20000 in
theorem k_X8_repeatsBy_12 (d : Nat) (l0 : Nat) (l1 : Int) (l2 : Int) (l3 : Int) (l4 : Int) (μ : zM) (K : Int → zM → Prop) (h : (l4 ≥ l3 → ((1 : Int) = 0 ∨ (1 : Int) = 1) ∧ K 1 μ) ∧ (¬ (l4 ≥ l3) → zC1 d m_X3_reads [zR 4 l0, zI l1, zI l4] μ (fun x1 μ1 => zC1 d m_X3_readsRound [zR 4 l0, zI l1, zI (w32 (l4 + l2))] μ1 (fun x2 μ2 => (x1 = x2 → zJ (d + 1) m_X8_repeatsBy 12 [some (zR 4 l0), some (zI l1), some (zI l2), some (zI l3), some (zI (w32 (l4 + 1)))] μ2 (zQ1 K)) ∧ (¬ (x1 = x2) → ((0 : Int) = 0 ∨ (0 : Int) = 1) ∧ K 0 μ2))))) : zJ (d + 1) m_X8_repeatsBy 12 [some (zR 4 l0), some (zI l1), some (zI l2), some (zI l3), some (zI l4)] μ (zQ1 K) := zgo [(12, [true, true, true, true, true])] 400 h
set_option maxRecDepth 20000 in
theorem k_X8_openRooms (d : Nat) (j0 : Nat) (μ : zM) (K : Int → zM → Prop) (h : zJ (d + 1) m_X8_openRooms 4 [some (zR 4 j0), some (zI 0), some (zI 0)] μ (zQ1 K)) : zC1 (d + 1) m_X8_openRooms [zR 4 j0] μ K := zgo [(4, [true, true, true])] 400 h
set_option maxRecDepth 20000 in
theorem k_X8_openRooms_4 (d : Nat) (l0 : Nat) (l1 : Int) (l2 : Int) (μ : zM) (K : Int → zM → Prop) (h : (l2 ≥ μ 3 0 2 → K l1 μ) ∧ (¬ (l2 ≥ μ 3 0 2) → zC1 d m_X1_barsOf [zR 3 0, zI l2] μ (fun x1 μ1 => zC1 d m_X3_reads [zR 4 l0, zI l2, zI (w32 (x1 - 1))] μ1 (fun x2 μ2 => zC1 d m_X3_reads [zR 4 l0, zI l2, zI 0] μ2 (fun x3 μ3 => (x2 = x3 → zJ (d + 1) m_X8_openRooms 4 [some (zR 4 l0), some (zI l1), some (zI (w32 (l2 + 1)))] μ3 (zQ1 K)) ∧ (¬ (x2 = x3) → zJ (d + 1) m_X8_openRooms 4 [some (zR 4 l0), some (zI (zor l1 (zshl 1 l2))), some (zI (w32 (l2 + 1)))] μ3 (zQ1 K))))))) : zJ (d + 1) m_X8_openRooms 4 [some (zR 4 l0), some (zI l1), some (zI l2)] μ (zQ1 K) := zgo [(4, [true, true, true])] 400 h
set_option maxRecDepth 20000 in
theorem k_X8_mostRead (d : Nat) (j0 : Nat) (μ : zM) (K : Int → zM → Prop) (h : zJ (d + 1) m_X8_mostRead 6 [some (zR 4 j0), some (zI ((-1))), some (zI 0), some (zI 1), none] μ (zQ1 K)) : zC1 (d + 1) m_X8_mostRead [zR 4 j0] μ K := zgo [(6, [true, true, true, true, false])] 400 h
set_option maxRecDepth 20000 in
theorem k_X8_mostRead_6 (d : Nat) (l0 : Nat) (l1 : Int) (l2 : Int) (l3 : Int) (μ : zM) (K : Int → zM → Prop) (h : (l3 > 9 → K l1 μ) ∧ (¬ (l3 > 9) → zC1 d m_X8_howManyRead [zR 4 l0, zI l3] μ (fun x1 μ1 => (x1 ≤ l2 → zJ (d + 1) m_X8_mostRead 6 [some (zR 4 l0), some (zI l1), some (zI l2), some (zI (w32 (l3 + 1))), none] μ1 (zQ1 K)) ∧ (¬ (x1 ≤ l2) → zJ (d + 1) m_X8_mostRead 6 [some (zR 4 l0), some (zI l3), some (zI x1), some (zI (w32 (l3 + 1))), none] μ1 (zQ1 K))))) : zJ (d + 1) m_X8_mostRead 6 [some (zR 4 l0), some (zI l1), some (zI l2), some (zI l3), none] μ (zQ1 K) := zgo [(6, [true, true, true, true, false])] 400 h
set_option maxRecDepth 20000 in
theorem k_X8_howManyRead (d : Nat) (j0 : Nat) (a1 : Int) (μ : zM) (K : Int → zM → Prop) (h : zJ (d + 1) m_X8_howManyRead 4 [some (zR 4 j0), some (zI a1), some (zI 0), some (zI 0), none, none] μ (zQ1 K)) : zC1 (d + 1) m_X8_howManyRead [zR 4 j0, zI a1] μ K := zgo [(4, [true, true, true, true, false, false]), (28, [true, true, true, true, true, true])] 400 h
set_option maxRecDepth 20000 in
theorem k_X8_howManyRead_4 (d : Nat) (l0 : Nat) (l1 : Int) (l2 : Int) (l3 : Int) (μ : zM) (K : Int → zM → Prop) (h : (l3 ≥ μ 3 0 2 → K l2 μ) ∧ (¬ (l3 ≥ μ 3 0 2) → zC1 d m_X1_barsOf [zR 3 0, zI l3] μ (fun x1 μ1 => zJ (d + 1) m_X8_howManyRead 28 [some (zR 4 l0), some (zI l1), some (zI l2), some (zI l3), some (zI x1), some (zI 0)] μ1 (zQ1 K)))) : zJ (d + 1) m_X8_howManyRead 4 [some (zR 4 l0), some (zI l1), some (zI l2), some (zI l3), none, none] μ (zQ1 K) := zgo [(4, [true, true, true, true, false, false]), (28, [true, true, true, true, true, true])] 400 h
set_option maxRecDepth 20000 in
theorem k_X8_howManyRead_28 (d : Nat) (l0 : Nat) (l1 : Int) (l2 : Int) (l3 : Int) (l4 : Int) (l5 : Int) (μ : zM) (K : Int → zM → Prop) (h : (l5 ≥ l4 → zJ (d + 1) m_X8_howManyRead 4 [some (zR 4 l0), some (zI l1), some (zI l2), some (zI (w32 (l3 + 1))), none, none] μ (zQ1 K)) ∧ (¬ (l5 ≥ l4) → zC1 d m_X3_reads [zR 4 l0, zI l3, zI l5] μ (fun x1 μ1 => (x1 ≠ l1 → zJ (d + 1) m_X8_howManyRead 28 [some (zR 4 l0), some (zI l1), some (zI l2), some (zI l3), some (zI l4), some (zI (w32 (l5 + 1)))] μ1 (zQ1 K)) ∧ (¬ (x1 ≠ l1) → zJ (d + 1) m_X8_howManyRead 28 [some (zR 4 l0), some (zI l1), some (zI (w32 (l2 + 1))), some (zI l3), some (zI l4), some (zI (w32 (l5 + 1)))] μ1 (zQ1 K))))) : zJ (d + 1) m_X8_howManyRead 28 [some (zR 4 l0), some (zI l1), some (zI l2), some (zI l3), some (zI l4), some (zI l5)] μ (zQ1 K) := zgo [(4, [true, true, true, true, false, false]), (28, [true, true, true, true, true, true])] 400 h
set_option maxRecDepth 20000 in
theorem k_X8_firstThatReads (d : Nat) (j0 : Nat) (a1 : Int) (a2 : Int) (μ : zM) (K : Int → zM → Prop) (h : zC1 d m_X1_barsOf [zR 3 0, zI a1] μ (fun x1 μ1 => zJ (d + 1) m_X8_firstThatReads 12 [some (zR 4 j0), some (zI a1), some (zI a2), some (zI x1), some (zI 0)] μ1 (zQ1 K))) : zC1 (d + 1) m_X8_firstThatReads [zR 4 j0, zI a1, zI a2] μ K := zgo [(12, [true, true, true, true, true])] 400 h
set_option maxRecDepth 20000 in
theorem k_X8_firstThatReads_12 (d : Nat) (l0 : Nat) (l1 : Int) (l2 : Int) (l3 : Int) (l4 : Int) (μ : zM) (K : Int → zM → Prop) (h : (l4 ≥ l3 → K ((-1)) μ) ∧ (¬ (l4 ≥ l3) → zC1 d m_X3_reads [zR 4 l0, zI l1, zI l4] μ (fun x1 μ1 => (x1 ≠ l2 → zJ (d + 1) m_X8_firstThatReads 12 [some (zR 4 l0), some (zI l1), some (zI l2), some (zI l3), some (zI (w32 (l4 + 1)))] μ1 (zQ1 K)) ∧ (¬ (x1 ≠ l2) → K l4 μ1)))) : zJ (d + 1) m_X8_firstThatReads 12 [some (zR 4 l0), some (zI l1), some (zI l2), some (zI l3), some (zI l4)] μ (zQ1 K) := zgo [(12, [true, true, true, true, true])] 400 h
set_option maxRecDepth 20000 in
theorem k_X8_sharedEnd (d : Nat) (j0 : Nat) (a1 : Int) (a2 : Int) (μ : zM) (K : Int → zM → Prop) (h : zC1 d m_X1_barsOf [zR 3 0, zI a1] μ (fun x1 μ1 => zC1 d m_X1_barsOf [zR 3 0, zI a2] μ1 (fun x2 μ2 => zJ (d + 1) m_X8_sharedEnd 23 [some (zR 4 j0), some (zI a1), some (zI a2), none, some (zI (zmin x1 x2))] μ2 (zQ1 K)))) : zC1 (d + 1) m_X8_sharedEnd [zR 4 j0, zI a1, zI a2] μ K := zgo [(23, [true, true, true, false, true])] 400 h
set_option maxRecDepth 20000 in
theorem k_X8_sharedEnd_23 (d : Nat) (l0 : Nat) (l1 : Int) (l2 : Int) (l4 : Int) (μ : zM) (K : Int → zM → Prop) (h : (l4 ≤ 0 → K 0 μ) ∧ (¬ (l4 ≤ 0) → zC1 d m_X8_endsAsBegins [zR 4 l0, zI l1, zI l2, zI l4] μ (fun x1 μ1 => (x1 = 0 → zJ (d + 1) m_X8_sharedEnd 23 [some (zR 4 l0), some (zI l1), some (zI l2), none, some (zI (w32 (l4 + (-1))))] μ1 (zQ1 K)) ∧ (¬ (x1 = 0) → K l4 μ1)))) : zJ (d + 1) m_X8_sharedEnd 23 [some (zR 4 l0), some (zI l1), some (zI l2), none, some (zI l4)] μ (zQ1 K) := zgo [(23, [true, true, true, false, true])] 400 h
set_option maxRecDepth 20000 in
theorem k_X8_endsAsBegins (d : Nat) (j0 : Nat) (a1 : Int) (a2 : Int) (a3 : Int) (μ : zM) (K : Int → zM → Prop) (h : zC1 d m_X1_barsOf [zR 3 0, zI a1] μ (fun x1 μ1 => zJ (d + 1) m_X8_endsAsBegins 15 [some (zR 4 j0), some (zI a1), some (zI a2), some (zI a3), some (zI (w32 (x1 - a3))), some (zI 0)] μ1 (zQ1 K))) : zC1 (d + 1) m_X8_endsAsBegins [zR 4 j0, zI a1, zI a2, zI a3] μ K := zgo [(15, [true, true, true, true, true, true])] 400 h
set_option maxRecDepth 20000 in
theorem k_X8_endsAsBegins_15 (d : Nat) (l0 : Nat) (l1 : Int) (l2 : Int) (l3 : Int) (l4 : Int) (l5 : Int) (μ : zM) (K : Int → zM → Prop) (h : (l5 ≥ l3 → ((1 : Int) = 0 ∨ (1 : Int) = 1) ∧ K 1 μ) ∧ (¬ (l5 ≥ l3) → zC1 d m_X3_reads [zR 4 l0, zI l1, zI (w32 (l4 + l5))] μ (fun x1 μ1 => zC1 d m_X3_reads [zR 4 l0, zI l2, zI l5] μ1 (fun x2 μ2 => (x1 = x2 → zJ (d + 1) m_X8_endsAsBegins 15 [some (zR 4 l0), some (zI l1), some (zI l2), some (zI l3), some (zI l4), some (zI (w32 (l5 + 1)))] μ2 (zQ1 K)) ∧ (¬ (x1 = x2) → ((0 : Int) = 0 ∨ (0 : Int) = 1) ∧ K 0 μ2))))) : zJ (d + 1) m_X8_endsAsBegins 15 [some (zR 4 l0), some (zI l1), some (zI l2), some (zI l3), some (zI l4), some (zI l5)] μ (zQ1 K) := zgo [(15, [true, true, true, true, true, true])] 400 h
set_option maxRecDepth 20000 in
theorem k_X8_nearestRoom (d : Nat) (j0 : Nat) (a1 : Int) (μ : zM) (K : Int → zM → Prop) (h : zC1 d m_X8_keyOf [zR 4 j0, zI a1] μ (fun x1 μ1 => zJ (d + 1) m_X8_nearestRoom 15 [some (zR 4 j0), some (zI a1), some (zI x1), some (zI ((-1))), some (zI 12), some (zI 0), none] μ1 (zQ1 K))) : zC1 (d + 1) m_X8_nearestRoom [zR 4 j0, zI a1] μ K := zgo [(15, [true, true, true, true, true, true, false])] 400 h
set_option maxRecDepth 20000 in
theorem k_X8_nearestRoom_15 (d : Nat) (l0 : Nat) (l1 : Int) (l2 : Int) (l3 : Int) (l4 : Int) (l5 : Int) (μ : zM) (K : Int → zM → Prop) (h : (l5 ≥ μ 3 0 2 → K l3 μ) ∧ (¬ (l5 ≥ μ 3 0 2) → zC1 d m_X8_keyOf [zR 4 l0, zI l5] μ (fun x1 μ1 => zC1 d m_X8_between [zI l2, zI x1] μ1 (fun x2 μ2 => (l5 = l1 → zJ (d + 1) m_X8_nearestRoom 15 [some (zR 4 l0), some (zI l1), some (zI l2), some (zI l3), some (zI l4), some (zI (w32 (l5 + 1))), none] μ2 (zQ1 K)) ∧ (¬ (l5 = l1) → (x2 ≥ l4 → zJ (d + 1) m_X8_nearestRoom 15 [some (zR 4 l0), some (zI l1), some (zI l2), some (zI l3), some (zI l4), some (zI (w32 (l5 + 1))), none] μ2 (zQ1 K)) ∧ (¬ (x2 ≥ l4) → zJ (d + 1) m_X8_nearestRoom 15 [some (zR 4 l0), some (zI l1), some (zI l2), some (zI l5), some (zI x2), some (zI (w32 (l5 + 1))), none] μ2 (zQ1 K))))))) : zJ (d + 1) m_X8_nearestRoom 15 [some (zR 4 l0), some (zI l1), some (zI l2), some (zI l3), some (zI l4), some (zI l5), none] μ (zQ1 K) := zgo [(15, [true, true, true, true, true, true, false])] 400 h
set_option maxRecDepth 20000 in
theorem k_X8_between (d : Nat) (a0 : Int) (a1 : Int) (μ : zM) (K : Int → zM → Prop) (h : K (zmin (zabs (w32 (a0 - a1))) (w32 (12 - (zabs (w32 (a0 - a1)))))) μ) : zC1 (d + 1) m_X8_between [zI a0, zI a1] μ K := zgo [] 400 h
set_option maxRecDepth 20000 in
theorem k_X8_stepsBetween (d : Nat) (j0 : Nat) (a1 : Int) (a2 : Int) (μ : zM) (K : Int → zM → Prop) (h : zJ (d + 1) m_X8_stepsBetween 7 [some (zR 4 j0), none, some (zI a2), some (zI (zshl 1 a1)), some (zI 0)] μ (zQ1 K)) : zC1 (d + 1) m_X8_stepsBetween [zR 4 j0, zI a1, zI a2] μ K := zgo [(7, [true, false, true, true, true])] 400 h
set_option maxRecDepth 20000 in
theorem k_X8_stepsBetween_7 (d : Nat) (l0 : Nat) (l2 : Int) (l3 : Int) (l4 : Int) (μ : zM) (K : Int → zM → Prop) (h : (l4 ≥ 6 → K ((-1)) μ) ∧ (¬ (l4 ≥ 6) → zC1 d m_X9_isIn [zI l3, zI l2] μ (fun x1 μ1 => (x1 = 0 → zC1 d m_X8_oneStepOn [zR 4 l0, zI l3] μ1 (fun x2 μ2 => zJ (d + 1) m_X8_stepsBetween 7 [some (zR 4 l0), none, some (zI l2), some (zI x2), some (zI (w32 (l4 + 1)))] μ2 (zQ1 K))) ∧ (¬ (x1 = 0) → K l4 μ1)))) : zJ (d + 1) m_X8_stepsBetween 7 [some (zR 4 l0), none, some (zI l2), some (zI l3), some (zI l4)] μ (zQ1 K) := zgo [(7, [true, false, true, true, true])] 400 h
set_option maxRecDepth 20000 in
theorem k_X8_oneStepOn (d : Nat) (j0 : Nat) (a1 : Int) (μ : zM) (K : Int → zM → Prop) (h : zJ (d + 1) m_X8_oneStepOn 4 [some (zR 4 j0), some (zI a1), some (zI a1), some (zI 0), none, none] μ (zQ1 K)) : zC1 (d + 1) m_X8_oneStepOn [zR 4 j0, zI a1] μ K := zgo [(4, [true, true, true, true, false, false]), (36, [true, true, true, true, true, true])] 400 h
set_option maxRecDepth 20000 in
theorem k_X8_oneStepOn_4 (d : Nat) (l0 : Nat) (l1 : Int) (l2 : Int) (l3 : Int) (μ : zM) (K : Int → zM → Prop) (h : (l3 ≥ μ 3 0 2 → K l2 μ) ∧ (¬ (l3 ≥ μ 3 0 2) → zC1 d m_X9_isIn [zI l1, zI l3] μ (fun x1 μ1 => (x1 ≠ 0 → zC1 d m_X8_keyOf [zR 4 l0, zI l3] μ1 (fun x2 μ2 => zJ (d + 1) m_X8_oneStepOn 36 [some (zR 4 l0), some (zI l1), some (zI l2), some (zI l3), some (zI x2), some (zI 0)] μ2 (zQ1 K))) ∧ (¬ (x1 ≠ 0) → zJ (d + 1) m_X8_oneStepOn 4 [some (zR 4 l0), some (zI l1), some (zI l2), some (zI (w32 (l3 + 1))), none, none] μ1 (zQ1 K))))) : zJ (d + 1) m_X8_oneStepOn 4 [some (zR 4 l0), some (zI l1), some (zI l2), some (zI l3), none, none] μ (zQ1 K) := zgo [(4, [true, true, true, true, false, false]), (36, [true, true, true, true, true, true])] 400 h
set_option maxRecDepth 20000 in
theorem k_X8_oneStepOn_36 (d : Nat) (l0 : Nat) (l1 : Int) (l2 : Int) (l3 : Int) (l4 : Int) (l5 : Int) (μ : zM) (K : Int → zM → Prop) (h : (l5 ≥ μ 3 0 2 → zJ (d + 1) m_X8_oneStepOn 4 [some (zR 4 l0), some (zI l1), some (zI l2), some (zI (w32 (l3 + 1))), none, none] μ (zQ1 K)) ∧ (¬ (l5 ≥ μ 3 0 2) → zC1 d m_X8_keyOf [zR 4 l0, zI l5] μ (fun x1 μ1 => zC1 d m_X8_between [zI l4, zI x1] μ1 (fun x2 μ2 => (x2 > 2 → zJ (d + 1) m_X8_oneStepOn 36 [some (zR 4 l0), some (zI l1), some (zI l2), some (zI l3), some (zI l4), some (zI (w32 (l5 + 1)))] μ2 (zQ1 K)) ∧ (¬ (x2 > 2) → zJ (d + 1) m_X8_oneStepOn 36 [some (zR 4 l0), some (zI l1), some (zI (zor l2 (zshl 1 l5))), some (zI l3), some (zI l4), some (zI (w32 (l5 + 1)))] μ2 (zQ1 K)))))) : zJ (d + 1) m_X8_oneStepOn 36 [some (zR 4 l0), some (zI l1), some (zI l2), some (zI l3), some (zI l4), some (zI l5)] μ (zQ1 K) := zgo [(4, [true, true, true, true, false, false]), (36, [true, true, true, true, true, true])] 400 h
set_option maxRecDepth 20000 in
theorem k_X9_at_t10 (d : Nat) (j0 : Nat) (a1 : Int) (μ : zM) (K : Int → zM → Prop) (h : (a1 < 0 → K 0 μ) ∧ (¬ (a1 < 0) → (a1 ≥ 6 → K 0 μ) ∧ (¬ (a1 ≥ 6) → (0 ≤ a1 ∧ a1 < 6) ∧ K (μ 10 j0 a1.toNat) μ))) : zC1 d m_X9_at [zR 10 j0, zI a1] μ K := zgo [] 400 h
set_option maxRecDepth 20000 in
theorem k_X9_at_t11 (d : Nat) (j0 : Nat) (a1 : Int) (μ : zM) (K : Int → zM → Prop) (h : (a1 < 0 → K 0 μ) ∧ (¬ (a1 < 0) → (a1 ≥ 72 → K 0 μ) ∧ (¬ (a1 ≥ 72) → (0 ≤ a1 ∧ a1 < 72) ∧ K (μ 11 j0 a1.toNat) μ))) : zC1 d m_X9_at [zR 11 j0, zI a1] μ K := zgo [] 400 h
set_option maxRecDepth 20000 in
theorem k_X9_at_t12 (d : Nat) (j0 : Nat) (a1 : Int) (μ : zM) (K : Int → zM → Prop) (h : (a1 < 0 → K 0 μ) ∧ (¬ (a1 < 0) → (a1 ≥ 72 → K 0 μ) ∧ (¬ (a1 ≥ 72) → (0 ≤ a1 ∧ a1 < 72) ∧ K (μ 12 j0 a1.toNat) μ))) : zC1 d m_X9_at [zR 12 j0, zI a1] μ K := zgo [] 400 h
set_option maxRecDepth 20000 in
theorem k_X9_at_t13 (d : Nat) (j0 : Nat) (a1 : Int) (μ : zM) (K : Int → zM → Prop) (h : (a1 < 0 → K 0 μ) ∧ (¬ (a1 < 0) → (a1 ≥ 15 → K 0 μ) ∧ (¬ (a1 ≥ 15) → (0 ≤ a1 ∧ a1 < 15) ∧ K (μ 13 j0 a1.toNat) μ))) : zC1 d m_X9_at [zR 13 j0, zI a1] μ K := zgo [] 400 h
set_option maxRecDepth 20000 in
theorem k_X9_at_t14 (d : Nat) (j0 : Nat) (a1 : Int) (μ : zM) (K : Int → zM → Prop) (h : (a1 < 0 → K 0 μ) ∧ (¬ (a1 < 0) → (a1 ≥ 24 → K 0 μ) ∧ (¬ (a1 ≥ 24) → (0 ≤ a1 ∧ a1 < 24) ∧ K (μ 14 j0 a1.toNat) μ))) : zC1 d m_X9_at [zR 14 j0, zI a1] μ K := zgo [] 400 h
set_option maxRecDepth 20000 in
theorem k_X9_at_t15 (d : Nat) (j0 : Nat) (a1 : Int) (μ : zM) (K : Int → zM → Prop) (h : (a1 < 0 → K 0 μ) ∧ (¬ (a1 < 0) → (a1 ≥ 6 → K 0 μ) ∧ (¬ (a1 ≥ 6) → (0 ≤ a1 ∧ a1 < 6) ∧ K (μ 15 j0 a1.toNat) μ))) : zC1 d m_X9_at [zR 15 j0, zI a1] μ K := zgo [] 400 h
set_option maxRecDepth 20000 in
theorem k_X9_at_t16 (d : Nat) (j0 : Nat) (a1 : Int) (μ : zM) (K : Int → zM → Prop) (h : (a1 < 0 → K 0 μ) ∧ (¬ (a1 < 0) → (a1 ≥ 5 → K 0 μ) ∧ (¬ (a1 ≥ 5) → (0 ≤ a1 ∧ a1 < 5) ∧ K (μ 16 j0 a1.toNat) μ))) : zC1 d m_X9_at [zR 16 j0, zI a1] μ K := zgo [] 400 h
set_option maxRecDepth 20000 in
theorem k_X9_at_t17 (d : Nat) (j0 : Nat) (a1 : Int) (μ : zM) (K : Int → zM → Prop) (h : (a1 < 0 → K 0 μ) ∧ (¬ (a1 < 0) → (a1 ≥ 5 → K 0 μ) ∧ (¬ (a1 ≥ 5) → (0 ≤ a1 ∧ a1 < 5) ∧ K (μ 17 j0 a1.toNat) μ))) : zC1 d m_X9_at [zR 17 j0, zI a1] μ K := zgo [] 400 h
set_option maxRecDepth 20000 in
theorem k_X9_at_t18 (d : Nat) (j0 : Nat) (a1 : Int) (μ : zM) (K : Int → zM → Prop) (h : (a1 < 0 → K 0 μ) ∧ (¬ (a1 < 0) → (a1 ≥ 5 → K 0 μ) ∧ (¬ (a1 ≥ 5) → (0 ≤ a1 ∧ a1 < 5) ∧ K (μ 18 j0 a1.toNat) μ))) : zC1 d m_X9_at [zR 18 j0, zI a1] μ K := zgo [] 400 h
set_option maxRecDepth 20000 in
theorem k_X9_at_t19 (d : Nat) (j0 : Nat) (a1 : Int) (μ : zM) (K : Int → zM → Prop) (h : (a1 < 0 → K 0 μ) ∧ (¬ (a1 < 0) → (a1 ≥ 20 → K 0 μ) ∧ (¬ (a1 ≥ 20) → (0 ≤ a1 ∧ a1 < 20) ∧ K (μ 19 j0 a1.toNat) μ))) : zC1 d m_X9_at [zR 19 j0, zI a1] μ K := zgo [] 400 h
set_option maxRecDepth 20000 in
theorem k_X9_at_t23 (d : Nat) (a1 : Int) (μ : zM) (K : Int → zM → Prop) (h : (a1 < 0 → K 0 μ) ∧ (¬ (a1 < 0) → (a1 ≥ 2 → K 0 μ) ∧ (¬ (a1 ≥ 2) → (0 ≤ a1 ∧ a1 < 2) ∧ K (μ 23 0 a1.toNat) μ))) : zC1 d m_X9_at [zR 23 0, zI a1] μ K := zgo [] 400 h
set_option maxRecDepth 20000 in
theorem k_X9_at_t24 (d : Nat) (a1 : Int) (μ : zM) (K : Int → zM → Prop) (h : (a1 < 0 → K 0 μ) ∧ (¬ (a1 < 0) → (a1 ≥ 6 → K 0 μ) ∧ (¬ (a1 ≥ 6) → (0 ≤ a1 ∧ a1 < 6) ∧ K (μ 24 0 a1.toNat) μ))) : zC1 d m_X9_at [zR 24 0, zI a1] μ K := zgo [] 400 h
set_option maxRecDepth 20000 in
theorem k_X9_at_t25 (d : Nat) (a1 : Int) (μ : zM) (K : Int → zM → Prop) (h : (a1 < 0 → K 0 μ) ∧ (¬ (a1 < 0) → (a1 ≥ 6 → K 0 μ) ∧ (¬ (a1 ≥ 6) → (0 ≤ a1 ∧ a1 < 6) ∧ K (μ 25 0 a1.toNat) μ))) : zC1 d m_X9_at [zR 25 0, zI a1] μ K := zgo [] 400 h
set_option maxRecDepth 20000 in
theorem k_X9_at_t26 (d : Nat) (a1 : Int) (μ : zM) (K : Int → zM → Prop) (h : (a1 < 0 → K 0 μ) ∧ (¬ (a1 < 0) → (a1 ≥ 20 → K 0 μ) ∧ (¬ (a1 ≥ 20) → (0 ≤ a1 ∧ a1 < 20) ∧ K (μ 26 0 a1.toNat) μ))) : zC1 d m_X9_at [zR 26 0, zI a1] μ K := zgo [] 400 h
set_option maxRecDepth 20000 in
theorem k_X9_at_t27 (d : Nat) (a1 : Int) (μ : zM) (K : Int → zM → Prop) (h : (a1 < 0 → K 0 μ) ∧ (¬ (a1 < 0) → (a1 ≥ 20 → K 0 μ) ∧ (¬ (a1 ≥ 20) → (0 ≤ a1 ∧ a1 < 20) ∧ K (μ 27 0 a1.toNat) μ))) : zC1 d m_X9_at [zR 27 0, zI a1] μ K := zgo [] 400 h
set_option maxRecDepth 20000 in
theorem k_X9_at_t28 (d : Nat) (a1 : Int) (μ : zM) (K : Int → zM → Prop) (h : (a1 < 0 → K 0 μ) ∧ (¬ (a1 < 0) → (a1 ≥ 20 → K 0 μ) ∧ (¬ (a1 ≥ 20) → (0 ≤ a1 ∧ a1 < 20) ∧ K (μ 28 0 a1.toNat) μ))) : zC1 d m_X9_at [zR 28 0, zI a1] μ K := zgo [] 400 h
set_option maxRecDepth 20000 in
theorem k_X9_at_t29 (d : Nat) (a1 : Int) (μ : zM) (K : Int → zM → Prop) (h : (a1 < 0 → K 0 μ) ∧ (¬ (a1 < 0) → (a1 ≥ 72 → K 0 μ) ∧ (¬ (a1 ≥ 72) → (0 ≤ a1 ∧ a1 < 72) ∧ K (μ 29 0 a1.toNat) μ))) : zC1 d m_X9_at [zR 29 0, zI a1] μ K := zgo [] 400 h
set_option maxRecDepth 20000 in
theorem k_X9_at_t30 (d : Nat) (a1 : Int) (μ : zM) (K : Int → zM → Prop) (h : (a1 < 0 → K 0 μ) ∧ (¬ (a1 < 0) → (a1 ≥ 10 → K 0 μ) ∧ (¬ (a1 ≥ 10) → (0 ≤ a1 ∧ a1 < 10) ∧ K (μ 30 0 a1.toNat) μ))) : zC1 d m_X9_at [zR 30 0, zI a1] μ K := zgo [] 400 h
set_option maxRecDepth 20000 in
theorem k_X9_at_t31 (d : Nat) (a1 : Int) (μ : zM) (K : Int → zM → Prop) (h : (a1 < 0 → K 0 μ) ∧ (¬ (a1 < 0) → (a1 ≥ 42 → K 0 μ) ∧ (¬ (a1 ≥ 42) → (0 ≤ a1 ∧ a1 < 42) ∧ K (μ 31 0 a1.toNat) μ))) : zC1 d m_X9_at [zR 31 0, zI a1] μ K := zgo [] 400 h
set_option maxRecDepth 20000 in
theorem k_X9_at_t32 (d : Nat) (a1 : Int) (μ : zM) (K : Int → zM → Prop) (h : (a1 < 0 → K 0 μ) ∧ (¬ (a1 < 0) → (a1 ≥ 448 → K 0 μ) ∧ (¬ (a1 ≥ 448) → (0 ≤ a1 ∧ a1 < 448) ∧ K (μ 32 0 a1.toNat) μ))) : zC1 d m_X9_at [zR 32 0, zI a1] μ K := zgo [] 400 h
set_option maxRecDepth 20000 in
theorem k_X9_put_t10 (d : Nat) (j0 : Nat) (a1 : Int) (a2 : Int) (μ : zM) (K : zM → Prop) (h : (a1 < 0 → K μ) ∧ (¬ (a1 < 0) → (a1 ≥ 6 → K μ) ∧ (¬ (a1 ≥ 6) → (0 ≤ a1 ∧ a1 < 6) ∧ K (zset μ 10 j0 a1.toNat a2)))) : zC0 d m_X9_put [zR 10 j0, zI a1, zI a2] μ K := zgo [] 400 h
set_option maxRecDepth 20000 in
theorem k_X9_put_t11 (d : Nat) (j0 : Nat) (a1 : Int) (a2 : Int) (μ : zM) (K : zM → Prop) (h : (a1 < 0 → K μ) ∧ (¬ (a1 < 0) → (a1 ≥ 72 → K μ) ∧ (¬ (a1 ≥ 72) → (0 ≤ a1 ∧ a1 < 72) ∧ K (zset μ 11 j0 a1.toNat a2)))) : zC0 d m_X9_put [zR 11 j0, zI a1, zI a2] μ K := zgo [] 400 h
set_option maxRecDepth 20000 in
theorem k_X9_put_t12 (d : Nat) (j0 : Nat) (a1 : Int) (a2 : Int) (μ : zM) (K : zM → Prop) (h : (a1 < 0 → K μ) ∧ (¬ (a1 < 0) → (a1 ≥ 72 → K μ) ∧ (¬ (a1 ≥ 72) → (0 ≤ a1 ∧ a1 < 72) ∧ K (zset μ 12 j0 a1.toNat a2)))) : zC0 d m_X9_put [zR 12 j0, zI a1, zI a2] μ K := zgo [] 400 h
set_option maxRecDepth 20000 in
theorem k_X9_put_t13 (d : Nat) (j0 : Nat) (a1 : Int) (a2 : Int) (μ : zM) (K : zM → Prop) (h : (a1 < 0 → K μ) ∧ (¬ (a1 < 0) → (a1 ≥ 15 → K μ) ∧ (¬ (a1 ≥ 15) → (0 ≤ a1 ∧ a1 < 15) ∧ K (zset μ 13 j0 a1.toNat a2)))) : zC0 d m_X9_put [zR 13 j0, zI a1, zI a2] μ K := zgo [] 400 h
set_option maxRecDepth 20000 in
theorem k_X9_put_t14 (d : Nat) (j0 : Nat) (a1 : Int) (a2 : Int) (μ : zM) (K : zM → Prop) (h : (a1 < 0 → K μ) ∧ (¬ (a1 < 0) → (a1 ≥ 24 → K μ) ∧ (¬ (a1 ≥ 24) → (0 ≤ a1 ∧ a1 < 24) ∧ K (zset μ 14 j0 a1.toNat a2)))) : zC0 d m_X9_put [zR 14 j0, zI a1, zI a2] μ K := zgo [] 400 h
set_option maxRecDepth 20000 in
theorem k_X9_put_t15 (d : Nat) (j0 : Nat) (a1 : Int) (a2 : Int) (μ : zM) (K : zM → Prop) (h : (a1 < 0 → K μ) ∧ (¬ (a1 < 0) → (a1 ≥ 6 → K μ) ∧ (¬ (a1 ≥ 6) → (0 ≤ a1 ∧ a1 < 6) ∧ K (zset μ 15 j0 a1.toNat a2)))) : zC0 d m_X9_put [zR 15 j0, zI a1, zI a2] μ K := zgo [] 400 h
set_option maxRecDepth 20000 in
theorem k_X9_put_t16 (d : Nat) (j0 : Nat) (a1 : Int) (a2 : Int) (μ : zM) (K : zM → Prop) (h : (a1 < 0 → K μ) ∧ (¬ (a1 < 0) → (a1 ≥ 5 → K μ) ∧ (¬ (a1 ≥ 5) → (0 ≤ a1 ∧ a1 < 5) ∧ K (zset μ 16 j0 a1.toNat a2)))) : zC0 d m_X9_put [zR 16 j0, zI a1, zI a2] μ K := zgo [] 400 h
set_option maxRecDepth 20000 in
theorem k_X9_put_t17 (d : Nat) (j0 : Nat) (a1 : Int) (a2 : Int) (μ : zM) (K : zM → Prop) (h : (a1 < 0 → K μ) ∧ (¬ (a1 < 0) → (a1 ≥ 5 → K μ) ∧ (¬ (a1 ≥ 5) → (0 ≤ a1 ∧ a1 < 5) ∧ K (zset μ 17 j0 a1.toNat a2)))) : zC0 d m_X9_put [zR 17 j0, zI a1, zI a2] μ K := zgo [] 400 h
set_option maxRecDepth 20000 in
theorem k_X9_put_t18 (d : Nat) (j0 : Nat) (a1 : Int) (a2 : Int) (μ : zM) (K : zM → Prop) (h : (a1 < 0 → K μ) ∧ (¬ (a1 < 0) → (a1 ≥ 5 → K μ) ∧ (¬ (a1 ≥ 5) → (0 ≤ a1 ∧ a1 < 5) ∧ K (zset μ 18 j0 a1.toNat a2)))) : zC0 d m_X9_put [zR 18 j0, zI a1, zI a2] μ K := zgo [] 400 h
set_option maxRecDepth 20000 in
theorem k_X9_put_t19 (d : Nat) (j0 : Nat) (a1 : Int) (a2 : Int) (μ : zM) (K : zM → Prop) (h : (a1 < 0 → K μ) ∧ (¬ (a1 < 0) → (a1 ≥ 20 → K μ) ∧ (¬ (a1 ≥ 20) → (0 ≤ a1 ∧ a1 < 20) ∧ K (zset μ 19 j0 a1.toNat a2)))) : zC0 d m_X9_put [zR 19 j0, zI a1, zI a2] μ K := zgo [] 400 h
set_option maxRecDepth 20000 in
theorem k_X9_put_t20 (d : Nat) (a1 : Int) (a2 : Int) (μ : zM) (K : zM → Prop) (h : (a1 < 0 → K μ) ∧ (¬ (a1 < 0) → (a1 ≥ 240 → K μ) ∧ (¬ (a1 ≥ 240) → (0 ≤ a1 ∧ a1 < 240) ∧ K (zset μ 20 0 a1.toNat a2)))) : zC0 d m_X9_put [zR 20 0, zI a1, zI a2] μ K := zgo [] 400 h
set_option maxRecDepth 20000 in
theorem k_X9_put_t23 (d : Nat) (a1 : Int) (a2 : Int) (μ : zM) (K : zM → Prop) (h : (a1 < 0 → K μ) ∧ (¬ (a1 < 0) → (a1 ≥ 2 → K μ) ∧ (¬ (a1 ≥ 2) → (0 ≤ a1 ∧ a1 < 2) ∧ K (zset μ 23 0 a1.toNat a2)))) : zC0 d m_X9_put [zR 23 0, zI a1, zI a2] μ K := zgo [] 400 h
set_option maxRecDepth 20000 in
theorem k_X9_put_t24 (d : Nat) (a1 : Int) (a2 : Int) (μ : zM) (K : zM → Prop) (h : (a1 < 0 → K μ) ∧ (¬ (a1 < 0) → (a1 ≥ 6 → K μ) ∧ (¬ (a1 ≥ 6) → (0 ≤ a1 ∧ a1 < 6) ∧ K (zset μ 24 0 a1.toNat a2)))) : zC0 d m_X9_put [zR 24 0, zI a1, zI a2] μ K := zgo [] 400 h
set_option maxRecDepth 20000 in
theorem k_X9_put_t25 (d : Nat) (a1 : Int) (a2 : Int) (μ : zM) (K : zM → Prop) (h : (a1 < 0 → K μ) ∧ (¬ (a1 < 0) → (a1 ≥ 6 → K μ) ∧ (¬ (a1 ≥ 6) → (0 ≤ a1 ∧ a1 < 6) ∧ K (zset μ 25 0 a1.toNat a2)))) : zC0 d m_X9_put [zR 25 0, zI a1, zI a2] μ K := zgo [] 400 h
set_option maxRecDepth 20000 in
theorem k_X9_put_t26 (d : Nat) (a1 : Int) (a2 : Int) (μ : zM) (K : zM → Prop) (h : (a1 < 0 → K μ) ∧ (¬ (a1 < 0) → (a1 ≥ 20 → K μ) ∧ (¬ (a1 ≥ 20) → (0 ≤ a1 ∧ a1 < 20) ∧ K (zset μ 26 0 a1.toNat a2)))) : zC0 d m_X9_put [zR 26 0, zI a1, zI a2] μ K := zgo [] 400 h
set_option maxRecDepth 20000 in
theorem k_X9_put_t27 (d : Nat) (a1 : Int) (a2 : Int) (μ : zM) (K : zM → Prop) (h : (a1 < 0 → K μ) ∧ (¬ (a1 < 0) → (a1 ≥ 20 → K μ) ∧ (¬ (a1 ≥ 20) → (0 ≤ a1 ∧ a1 < 20) ∧ K (zset μ 27 0 a1.toNat a2)))) : zC0 d m_X9_put [zR 27 0, zI a1, zI a2] μ K := zgo [] 400 h
set_option maxRecDepth 20000 in
theorem k_X9_put_t28 (d : Nat) (a1 : Int) (a2 : Int) (μ : zM) (K : zM → Prop) (h : (a1 < 0 → K μ) ∧ (¬ (a1 < 0) → (a1 ≥ 20 → K μ) ∧ (¬ (a1 ≥ 20) → (0 ≤ a1 ∧ a1 < 20) ∧ K (zset μ 28 0 a1.toNat a2)))) : zC0 d m_X9_put [zR 28 0, zI a1, zI a2] μ K := zgo [] 400 h
set_option maxRecDepth 20000 in
theorem k_X9_put_t29 (d : Nat) (a1 : Int) (a2 : Int) (μ : zM) (K : zM → Prop) (h : (a1 < 0 → K μ) ∧ (¬ (a1 < 0) → (a1 ≥ 72 → K μ) ∧ (¬ (a1 ≥ 72) → (0 ≤ a1 ∧ a1 < 72) ∧ K (zset μ 29 0 a1.toNat a2)))) : zC0 d m_X9_put [zR 29 0, zI a1, zI a2] μ K := zgo [] 400 h
set_option maxRecDepth 20000 in
theorem k_X9_put_t30 (d : Nat) (a1 : Int) (a2 : Int) (μ : zM) (K : zM → Prop) (h : (a1 < 0 → K μ) ∧ (¬ (a1 < 0) → (a1 ≥ 10 → K μ) ∧ (¬ (a1 ≥ 10) → (0 ≤ a1 ∧ a1 < 10) ∧ K (zset μ 30 0 a1.toNat a2)))) : zC0 d m_X9_put [zR 30 0, zI a1, zI a2] μ K := zgo [] 400 h
set_option maxRecDepth 20000 in
theorem k_X9_put_t31 (d : Nat) (a1 : Int) (a2 : Int) (μ : zM) (K : zM → Prop) (h : (a1 < 0 → K μ) ∧ (¬ (a1 < 0) → (a1 ≥ 42 → K μ) ∧ (¬ (a1 ≥ 42) → (0 ≤ a1 ∧ a1 < 42) ∧ K (zset μ 31 0 a1.toNat a2)))) : zC0 d m_X9_put [zR 31 0, zI a1, zI a2] μ K := zgo [] 400 h
set_option maxRecDepth 20000 in
theorem k_X9_put_t32 (d : Nat) (a1 : Int) (a2 : Int) (μ : zM) (K : zM → Prop) (h : (a1 < 0 → K μ) ∧ (¬ (a1 < 0) → (a1 ≥ 448 → K μ) ∧ (¬ (a1 ≥ 448) → (0 ≤ a1 ∧ a1 < 448) ∧ K (zset μ 32 0 a1.toNat a2)))) : zC0 d m_X9_put [zR 32 0, zI a1, zI a2] μ K := zgo [] 400 h
end
section
/-! WHAT METHODS COME TO, by program (each closed by running the abstract machine in the kernel) -/
set_option maxRecDepth 20000 in
theorem k_X9_copy_t10_10 (d : Nat) (j0 : Nat) (j1 : Nat) (μ : zM) (K : zM → Prop) (h : (0 ≤ zmin 6 6 ∧ 0 ≤ (0 : Int) ∧ 0 ≤ (0 : Int) ∧ (0 : Int) + (zmin 6 6) ≤ 6 ∧ (0 : Int) + (zmin 6 6) ≤ 6) ∧ K (zcpy μ 10 j0 0 10 j1 0 (zmin 6 6).toNat)) : zC0 (d + 1) m_X9_copy [zR 10 j0, zR 10 j1] μ K := zgo [] 400 h
set_option maxRecDepth 20000 in
theorem k_X9_copy_t11_11 (d : Nat) (j0 : Nat) (j1 : Nat) (μ : zM) (K : zM → Prop) (h : (0 ≤ zmin 72 72 ∧ 0 ≤ (0 : Int) ∧ 0 ≤ (0 : Int) ∧ (0 : Int) + (zmin 72 72) ≤ 72 ∧ (0 : Int) + (zmin 72 72) ≤ 72) ∧ K (zcpy μ 11 j0 0 11 j1 0 (zmin 72 72).toNat)) : zC0 (d + 1) m_X9_copy [zR 11 j0, zR 11 j1] μ K := zgo [] 400 h
set_option maxRecDepth 20000 in
theorem k_X9_copy_t12_12 (d : Nat) (j0 : Nat) (j1 : Nat) (μ : zM) (K : zM → Prop) (h : (0 ≤ zmin 72 72 ∧ 0 ≤ (0 : Int) ∧ 0 ≤ (0 : Int) ∧ (0 : Int) + (zmin 72 72) ≤ 72 ∧ (0 : Int) + (zmin 72 72) ≤ 72) ∧ K (zcpy μ 12 j0 0 12 j1 0 (zmin 72 72).toNat)) : zC0 (d + 1) m_X9_copy [zR 12 j0, zR 12 j1] μ K := zgo [] 400 h
set_option maxRecDepth 20000 in
theorem k_X9_copy_t13_13 (d : Nat) (j0 : Nat) (j1 : Nat) (μ : zM) (K : zM → Prop) (h : (0 ≤ zmin 15 15 ∧ 0 ≤ (0 : Int) ∧ 0 ≤ (0 : Int) ∧ (0 : Int) + (zmin 15 15) ≤ 15 ∧ (0 : Int) + (zmin 15 15) ≤ 15) ∧ K (zcpy μ 13 j0 0 13 j1 0 (zmin 15 15).toNat)) : zC0 (d + 1) m_X9_copy [zR 13 j0, zR 13 j1] μ K := zgo [] 400 h
set_option maxRecDepth 20000 in
theorem k_X9_copy_t14_14 (d : Nat) (j0 : Nat) (j1 : Nat) (μ : zM) (K : zM → Prop) (h : (0 ≤ zmin 24 24 ∧ 0 ≤ (0 : Int) ∧ 0 ≤ (0 : Int) ∧ (0 : Int) + (zmin 24 24) ≤ 24 ∧ (0 : Int) + (zmin 24 24) ≤ 24) ∧ K (zcpy μ 14 j0 0 14 j1 0 (zmin 24 24).toNat)) : zC0 (d + 1) m_X9_copy [zR 14 j0, zR 14 j1] μ K := zgo [] 400 h
set_option maxRecDepth 20000 in
theorem k_X9_copy_t15_15 (d : Nat) (j0 : Nat) (j1 : Nat) (μ : zM) (K : zM → Prop) (h : (0 ≤ zmin 6 6 ∧ 0 ≤ (0 : Int) ∧ 0 ≤ (0 : Int) ∧ (0 : Int) + (zmin 6 6) ≤ 6 ∧ (0 : Int) + (zmin 6 6) ≤ 6) ∧ K (zcpy μ 15 j0 0 15 j1 0 (zmin 6 6).toNat)) : zC0 (d + 1) m_X9_copy [zR 15 j0, zR 15 j1] μ K := zgo [] 400 h
set_option maxRecDepth 20000 in
theorem k_X9_copy_t16_16 (d : Nat) (j0 : Nat) (j1 : Nat) (μ : zM) (K : zM → Prop) (h : (0 ≤ zmin 5 5 ∧ 0 ≤ (0 : Int) ∧ 0 ≤ (0 : Int) ∧ (0 : Int) + (zmin 5 5) ≤ 5 ∧ (0 : Int) + (zmin 5 5) ≤ 5) ∧ K (zcpy μ 16 j0 0 16 j1 0 (zmin 5 5).toNat)) : zC0 (d + 1) m_X9_copy [zR 16 j0, zR 16 j1] μ K := zgo [] 400 h
set_option maxRecDepth 20000 in
theorem k_X9_copy_t17_17 (d : Nat) (j0 : Nat) (j1 : Nat) (μ : zM) (K : zM → Prop) (h : (0 ≤ zmin 5 5 ∧ 0 ≤ (0 : Int) ∧ 0 ≤ (0 : Int) ∧ (0 : Int) + (zmin 5 5) ≤ 5 ∧ (0 : Int) + (zmin 5 5) ≤ 5) ∧ K (zcpy μ 17 j0 0 17 j1 0 (zmin 5 5).toNat)) : zC0 (d + 1) m_X9_copy [zR 17 j0, zR 17 j1] μ K := zgo [] 400 h
set_option maxRecDepth 20000 in
theorem k_X9_copy_t18_18 (d : Nat) (j0 : Nat) (j1 : Nat) (μ : zM) (K : zM → Prop) (h : (0 ≤ zmin 5 5 ∧ 0 ≤ (0 : Int) ∧ 0 ≤ (0 : Int) ∧ (0 : Int) + (zmin 5 5) ≤ 5 ∧ (0 : Int) + (zmin 5 5) ≤ 5) ∧ K (zcpy μ 18 j0 0 18 j1 0 (zmin 5 5).toNat)) : zC0 (d + 1) m_X9_copy [zR 18 j0, zR 18 j1] μ K := zgo [] 400 h
set_option maxRecDepth 20000 in
theorem k_X9_copy_t19_19 (d : Nat) (j0 : Nat) (j1 : Nat) (μ : zM) (K : zM → Prop) (h : (0 ≤ zmin 20 20 ∧ 0 ≤ (0 : Int) ∧ 0 ≤ (0 : Int) ∧ (0 : Int) + (zmin 20 20) ≤ 20 ∧ (0 : Int) + (zmin 20 20) ≤ 20) ∧ K (zcpy μ 19 j0 0 19 j1 0 (zmin 20 20).toNat)) : zC0 (d + 1) m_X9_copy [zR 19 j0, zR 19 j1] μ K := zgo [] 400 h
set_option maxRecDepth 20000 in
theorem k_X9_leftOver (d : Nat) (a0 : Int) (a1 : Int) (μ : zM) (K : Int → zM → Prop) (h : (a1 ≤ 0 → K 0 μ) ∧ (¬ (a1 ≤ 0) → a1 ≠ 0 ∧ K (Int.tmod a0 a1) μ)) : zC1 d m_X9_leftOver [zI a0, zI a1] μ K := zgo [] 400 h
set_option maxRecDepth 20000 in
theorem k_X9_isIn (d : Nat) (a0 : Int) (a1 : Int) (μ : zM) (K : Int → zM → Prop) (h : (a1 < 0 → ((0 : Int) = 0 ∨ (0 : Int) = 1) ∧ K 0 μ) ∧ (¬ (a1 < 0) → (a1 ≥ 31 → ((0 : Int) = 0 ∨ (0 : Int) = 1) ∧ K 0 μ) ∧ (¬ (a1 ≥ 31) → (zand (zshr a0 a1) 1 ≠ 1 → ((0 : Int) = 0 ∨ (0 : Int) = 1) ∧ K 0 μ) ∧ (¬ (zand (zshr a0 a1) 1 ≠ 1) → ((1 : Int) = 0 ∨ (1 : Int) = 1) ∧ K 1 μ)))) : zC1 d m_X9_isIn [zI a0, zI a1] μ K := zgo [] 400 h
set_option maxRecDepth 20000 in
theorem k_X10_seen (d : Nat)  (μ : zM) (K : Int → zM → Prop) (h : K (μ 7 0 7) μ) : zC1 d m_X10_seen [zR 7 0] μ K := zgo [] 400 h
set_option maxRecDepth 20000 in
theorem k_X10_entries (d : Nat)  (μ : zM) (K : Int → zM → Prop) (h : K (μ 7 0 8) μ) : zC1 d m_X10_entries [zR 7 0] μ K := zgo [] 400 h
set_option maxRecDepth 20000 in
theorem k_X10_forget (d : Nat)  (μ : zM) (K : zM → Prop) (h : K (zset (zset μ 7 0 7 0) 7 0 8 0)) : zC0 d m_X10_forget [zR 7 0] μ K := zgo [] 400 h
set_option maxRecDepth 20000 in
theorem k_X10_addSeen (d : Nat) (a1 : Int) (a2 : Int) (μ : zM) (K : Int → zM → Prop) (h : (μ 7 0 7 < 6 → zC0 d m_X9_put [zR 24 0, zI (μ 7 0 7), zI a1] μ (fun μ1 => zC0 d m_X9_put [zR 25 0, zI (μ1 7 0 7), zI a2] μ1 (fun μ2 => ((1 : Int) = 0 ∨ (1 : Int) = 1) ∧ K 1 (zset μ2 7 0 7 (w32 ((μ2 7 0 7) + 1)))))) ∧ (¬ (μ 7 0 7 < 6) → ((0 : Int) = 0 ∨ (0 : Int) = 1) ∧ K 0 μ)) : zC1 (d + 1) m_X10_addSeen [zR 7 0, zI a1, zI a2] μ K := zgo [] 400 h
set_option maxRecDepth 20000 in
theorem k_X10_addEntry (d : Nat) (a1 : Int) (a2 : Int) (a3 : Int) (μ : zM) (K : Int → zM → Prop) (h : (μ 7 0 8 < 20 → zC0 d m_X9_put [zR 26 0, zI (μ 7 0 8), zI a1] μ (fun μ1 => zC0 d m_X9_put [zR 27 0, zI (μ1 7 0 8), zI a2] μ1 (fun μ2 => zC0 d m_X9_put [zR 28 0, zI (μ2 7 0 8), zI a3] μ2 (fun μ3 => ((1 : Int) = 0 ∨ (1 : Int) = 1) ∧ K 1 (zset μ3 7 0 8 (w32 ((μ3 7 0 8) + 1))))))) ∧ (¬ (μ 7 0 8 < 20) → ((0 : Int) = 0 ∨ (0 : Int) = 1) ∧ K 0 μ)) : zC1 (d + 1) m_X10_addEntry [zR 7 0, zI a1, zI a2, zI a3] μ K := zgo [] 400 h
set_option maxRecDepth 20000 in
theorem k_X10_firstWrong (d : Nat) (j1 : Nat) (μ : zM) (K : Int → zM → Prop) (h : zJ (d + 1) m_X10_firstWrong 2 [some (zR 7 0), some (zR 4 j1), some (zI 0), none] μ (zQ1 K)) : zC1 (d + 1) m_X10_firstWrong [zR 7 0, zR 4 j1] μ K := zgo [(2, [true, true, true, false])] 400 h
set_option maxRecDepth 20000 in
theorem k_X10_firstWrong_2 (d : Nat) (l1 : Nat) (l2 : Int) (μ : zM) (K : Int → zM → Prop) (h : (l2 ≥ μ 7 0 8 → K ((-1)) μ) ∧ (¬ (l2 ≥ μ 7 0 8) → zC1 d m_X9_at [zR 26 0, zI l2] μ (fun x1 μ1 => zC1 d m_X9_at [zR 27 0, zI l2] μ1 (fun x2 μ2 => zC1 d m_X3_reads [zR 4 l1, zI x1, zI x2] μ2 (fun x3 μ3 => zC1 d m_X9_at [zR 28 0, zI l2] μ3 (fun x4 μ4 => (x3 = x4 → zJ (d + 1) m_X10_firstWrong 2 [some (zR 7 0), some (zR 4 l1), some (zI (w32 (l2 + 1))), none] μ4 (zQ1 K)) ∧ (¬ (x3 = x4) → K l2 μ4))))))) : zJ (d + 1) m_X10_firstWrong 2 [some (zR 7 0), some (zR 4 l1), some (zI l2), none] μ (zQ1 K) := zgo [(2, [true, true, true, false])] 400 h
set_option maxRecDepth 20000 in
theorem k_X10_findPlaces (d : Nat) (j1 : Nat) (μ : zM) (K : zM → Prop) (h : zJ (d + 1) m_X10_findPlaces 7 [some (zR 7 0), some (zR 4 j1), some (zI 0), none, none] (zset μ 7 0 9 0) (zQ0 K)) : zC0 (d + 1) m_X10_findPlaces [zR 7 0, zR 4 j1] μ K := zgo [(7, [true, true, true, false, false]), (30, [true, true, true, true, true])] 400 h
set_option maxRecDepth 20000 in
theorem k_X10_findPlaces_7 (d : Nat) (l1 : Nat) (l2 : Int) (μ : zM) (K : zM → Prop) (h : (l2 ≥ μ 3 0 2 → K μ) ∧ (¬ (l2 ≥ μ 3 0 2) → zC1 d m_X1_barsOf [zR 3 0, zI l2] μ (fun x1 μ1 => zJ (d + 1) m_X10_findPlaces 30 [some (zR 7 0), some (zR 4 l1), some (zI l2), some (zI x1), some (zI 0)] μ1 (zQ0 K)))) : zJ (d + 1) m_X10_findPlaces 7 [some (zR 7 0), some (zR 4 l1), some (zI l2), none, none] μ (zQ0 K) := zgo [(7, [true, true, true, false, false]), (30, [true, true, true, true, true])] 400 h
set_option maxRecDepth 20000 in
theorem k_X10_findPlaces_30 (d : Nat) (l1 : Nat) (l2 : Int) (l3 : Int) (l4 : Int) (μ : zM) (K : zM → Prop) (h : (l4 ≥ l3 → zJ (d + 1) m_X10_findPlaces 7 [some (zR 7 0), some (zR 4 l1), some (zI (w32 (l2 + 1))), none, none] μ (zQ0 K)) ∧ (¬ (l4 ≥ l3) → zC1 d m_X10_fits [zR 7 0, zR 4 l1, zI l2, zI l4] μ (fun x1 μ1 => (x1 ≠ 0 → zC0 d m_X9_put [zR 29 0, zI (μ1 7 0 9), zI (w32 ((w32 (l2 * 100)) + l4))] μ1 (fun μ2 => zJ (d + 1) m_X10_findPlaces 30 [some (zR 7 0), some (zR 4 l1), some (zI l2), some (zI l3), some (zI (w32 (l4 + 1)))] (zset μ2 7 0 9 (w32 ((μ2 7 0 9) + 1))) (zQ0 K))) ∧ (¬ (x1 ≠ 0) → zJ (d + 1) m_X10_findPlaces 30 [some (zR 7 0), some (zR 4 l1), some (zI l2), some (zI l3), some (zI (w32 (l4 + 1)))] μ1 (zQ0 K))))) : zJ (d + 1) m_X10_findPlaces 30 [some (zR 7 0), some (zR 4 l1), some (zI l2), some (zI l3), some (zI l4)] μ (zQ0 K) := zgo [(7, [true, true, true, false, false]), (30, [true, true, true, true, true])] 400 h
set_option maxRecDepth 20000 in
theorem k_X10_found (d : Nat)  (μ : zM) (K : Int → zM → Prop) (h : K (μ 7 0 9) μ) : zC1 d m_X10_found [zR 7 0] μ K := zgo [] 400 h
set_option maxRecDepth 20000 in
theorem k_X10_firstFound (d : Nat)  (μ : zM) (K : Int → zM → Prop) (h : (μ 7 0 9 ≠ 0 → zC1 d m_X9_at [zR 29 0, zI 0] μ (fun x1 μ1 => K x1 μ1)) ∧ (¬ (μ 7 0 9 ≠ 0) → K ((-1)) μ)) : zC1 (d + 1) m_X10_firstFound [zR 7 0] μ K := zgo [] 400 h
set_option maxRecDepth 20000 in
theorem k_X10_roomsFound (d : Nat)  (μ : zM) (K : Int → zM → Prop) (h : zJ (d + 1) m_X10_roomsFound 4 [some (zR 7 0), some (zI 0), some (zI 0)] μ (zQ1 K)) : zC1 (d + 1) m_X10_roomsFound [zR 7 0] μ K := zgo [(4, [true, true, true])] 400 h
set_option maxRecDepth 20000 in
theorem k_X10_roomsFound_4 (d : Nat) (l1 : Int) (l2 : Int) (μ : zM) (K : Int → zM → Prop) (h : (l2 ≥ μ 7 0 9 → K l1 μ) ∧ (¬ (l2 ≥ μ 7 0 9) → zC1 d m_X9_at [zR 29 0, zI l2] μ (fun x1 μ1 => (100 : Int) ≠ 0 ∧ zJ (d + 1) m_X10_roomsFound 4 [some (zR 7 0), some (zI (zor l1 (zshl 1 (w32 (Int.tdiv x1 100))))), some (zI (w32 (l2 + 1)))] μ1 (zQ1 K)))) : zJ (d + 1) m_X10_roomsFound 4 [some (zR 7 0), some (zI l1), some (zI l2)] μ (zQ1 K) := zgo [(4, [true, true, true])] 400 h
set_option maxRecDepth 20000 in
theorem k_X10_bestLook (d : Nat) (j1 : Nat) (μ : zM) (K : Int → zM → Prop) (h : zJ (d + 1) m_X10_bestLook 10 [some (zR 7 0), some (zR 4 j1), some (zI ((-1))), some (zI (μ 7 0 9)), some (zI 0), none] μ (zQ1 K)) : zC1 (d + 1) m_X10_bestLook [zR 7 0, zR 4 j1] μ K := zgo [(10, [true, true, true, true, true, false])] 400 h
set_option maxRecDepth 20000 in
theorem k_X10_bestLook_10 (d : Nat) (l1 : Nat) (l2 : Int) (l3 : Int) (l4 : Int) (μ : zM) (K : Int → zM → Prop) (h : (l4 ≥ 12 → K l2 μ) ∧ (¬ (l4 ≥ 12) → zC1 d m_X10_greatestPart [zR 7 0, zR 4 l1, zI l4] μ (fun x1 μ1 => (x1 ≥ l3 → zJ (d + 1) m_X10_bestLook 10 [some (zR 7 0), some (zR 4 l1), some (zI l2), some (zI l3), some (zI (w32 (l4 + 1))), none] μ1 (zQ1 K)) ∧ (¬ (x1 ≥ l3) → zJ (d + 1) m_X10_bestLook 10 [some (zR 7 0), some (zR 4 l1), some (zI l4), some (zI x1), some (zI (w32 (l4 + 1))), none] μ1 (zQ1 K))))) : zJ (d + 1) m_X10_bestLook 10 [some (zR 7 0), some (zR 4 l1), some (zI l2), some (zI l3), some (zI l4), none] μ (zQ1 K) := zgo [(10, [true, true, true, true, true, false])] 400 h
set_option maxRecDepth 20000 in
theorem k_X10_fits (d : Nat) (j1 : Nat) (a2 : Int) (a3 : Int) (μ : zM) (K : Int → zM → Prop) (h : zJ (d + 1) m_X10_fits 3 [some (zR 7 0), some (zR 4 j1), some (zI a2), some (zI a3), some (zI 0)] μ (zQ1 K)) : zC1 (d + 1) m_X10_fits [zR 7 0, zR 4 j1, zI a2, zI a3] μ K := zgo [(3, [true, true, true, true, true])] 400 h
set_option maxRecDepth 20000 in
theorem k_X10_fits_3 (d : Nat) (l1 : Nat) (l2 : Int) (l3 : Int) (l4 : Int) (μ : zM) (K : Int → zM → Prop) (h : (l4 ≥ μ 7 0 7 → ((1 : Int) = 0 ∨ (1 : Int) = 1) ∧ K 1 μ) ∧ (¬ (l4 ≥ μ 7 0 7) → zC1 d m_X9_at [zR 24 0, zI l4] μ (fun x1 μ1 => zC1 d m_X3_readsRound [zR 4 l1, zI l2, zI (w32 (l3 + x1))] μ1 (fun x2 μ2 => zC1 d m_X9_at [zR 25 0, zI l4] μ2 (fun x3 μ3 => (x2 = x3 → zJ (d + 1) m_X10_fits 3 [some (zR 7 0), some (zR 4 l1), some (zI l2), some (zI l3), some (zI (w32 (l4 + 1)))] μ3 (zQ1 K)) ∧ (¬ (x2 = x3) → ((0 : Int) = 0 ∨ (0 : Int) = 1) ∧ K 0 μ3)))))) : zJ (d + 1) m_X10_fits 3 [some (zR 7 0), some (zR 4 l1), some (zI l2), some (zI l3), some (zI l4)] μ (zQ1 K) := zgo [(3, [true, true, true, true, true])] 400 h
set_option maxRecDepth 20000 in
theorem k_X10_greatestPart (d : Nat) (j1 : Nat) (a2 : Int) (μ : zM) (K : Int → zM → Prop) (h : zC0 d m_J7_fill_53178 [zR 30 0, zI 0] μ (fun μ1 => zJ (d + 1) m_X10_greatestPart 13 [some (zR 7 0), some (zR 4 j1), some (zI a2), some (zI 0), some (zI 0), none, none, none] μ1 (zQ1 K))) : zC1 (d + 1) m_X10_greatestPart [zR 7 0, zR 4 j1, zI a2] μ K := zgo [(13, [true, true, true, true, true, false, false, false])] 400 h
set_option maxRecDepth 20000 in
theorem k_X10_greatestPart_13 (d : Nat) (l1 : Nat) (l2 : Int) (l3 : Int) (l4 : Int) (μ : zM) (K : Int → zM → Prop) (h : (l4 ≥ μ 7 0 9 → K l3 μ) ∧ (¬ (l4 ≥ μ 7 0 9) → zC1 d m_X9_at [zR 29 0, zI l4] μ (fun x1 μ1 => (100 : Int) ≠ 0 ∧ (100 : Int) ≠ 0 ∧ zC1 d m_X3_readsRound [zR 4 l1, zI (w32 (Int.tdiv x1 100)), zI (w32 ((Int.tmod x1 100) + l2))] μ1 (fun x2 μ2 => zC1 d m_X9_at [zR 30 0, zI x2] μ2 (fun x3 μ3 => zC0 d m_X9_put [zR 30 0, zI x2, zI (w32 (x3 + 1))] μ3 (fun μ4 => zJ (d + 1) m_X10_greatestPart 13 [some (zR 7 0), some (zR 4 l1), some (zI l2), some (zI (zmax l3 (w32 (x3 + 1)))), some (zI (w32 (l4 + 1))), none, none, none] μ4 (zQ1 K))))))) : zJ (d + 1) m_X10_greatestPart 13 [some (zR 7 0), some (zR 4 l1), some (zI l2), some (zI l3), some (zI l4), none, none, none] μ (zQ1 K) := zgo [(13, [true, true, true, true, true, false, false, false])] 400 h
set_option maxRecDepth 20000 in
theorem k_X11_feed (d : Nat) (a1 : Int) (μ : zM) (K : Int → zM → Prop) (h : zC1 d m_X11_beyond [zI a1, zI 255] μ (fun x1 μ1 => (x1 = 0 → zC1 d m_X7_add [zR 2 0, zI a1] μ1 (fun x2 μ2 => (x2 = 0 → K ((-1000000004)) μ2) ∧ (¬ (x2 = 0) → zC1 d m_X7_letters [zR 2 0] μ2 (fun x3 μ3 => K x3 μ3)))) ∧ (¬ (x1 = 0) → K ((-1000000002)) μ1))) : zC1 (d + 1) m_X11_feed [zR 1 0, zI a1] μ K := zgo [] 400 h
set_option maxRecDepth 20000 in
theorem k_X11_house (d : Nat)  (μ : zM) (K : Int → zM → Prop) (h : zC1 d m_X7_read [zR 2 0] μ (fun x1 μ1 => (x1 = 0 → zC4 d m_X7_draft [zR 2 0] μ1 3 (fun x2 μ2 => zC0 d m_X1_become [zR 3 0, zR 3 x2] μ2 (fun μ3 => zC0 d m_X3_begin [zR 4 0] μ3 (fun μ4 => zC0 d m_X6_forget [zR 5 0] μ4 (fun μ5 => zC0 d m_X2_forget [zR 6 0] μ5 (fun μ6 => zC0 d m_X10_forget [zR 7 0] μ6 (fun μ7 => K (μ7 3 0 2) μ7))))))) ∧ (¬ (x1 = 0) → K (w32 (((-10)) - x1)) μ1))) : zC1 (d + 1) m_X11_house [zR 1 0] μ K := zgo [] 400 h
set_option maxRecDepth 20000 in
theorem k_X11_fault (d : Nat)  (μ : zM) (K : Int → zM → Prop) (h : zC1 d m_X7_place [zR 2 0] μ (fun x1 μ1 => K x1 μ1)) : zC1 (d + 1) m_X11_fault [zR 1 0] μ K := zgo [] 400 h
set_option maxRecDepth 20000 in
theorem k_X11_told (d : Nat) (a1 : Int) (μ : zM) (K : Int → zM → Prop) (h : ((a1 < 0 ∨ 13 < a1) → K ((-1000000002)) μ) ∧ (a1 = 0 → (μ 3 0 0 = 0 → K ((-1)) μ) ∧ (¬ (μ 3 0 0 = 0) → K (μ 3 0 1) μ)) ∧ (a1 = 1 → K (μ 3 0 2) μ) ∧ (a1 = 2 → K (μ 3 0 3) μ) ∧ (a1 = 3 → K (μ 3 0 4) μ) ∧ (a1 = 4 → zC1 d m_X7_letters [zR 2 0] μ (fun x1 μ1 => K x1 μ1)) ∧ (a1 = 5 → K (μ 4 0 1) μ) ∧ (a1 = 6 → K (μ 4 0 2) μ) ∧ (a1 = 7 → zC1 d m_X3_loggedNow [zR 4 0] μ (fun x2 μ2 => K x2 μ2)) ∧ (a1 = 8 → zC1 d m_X8_openRooms [zR 4 0] μ (fun x3 μ3 => K x3 μ3)) ∧ (a1 = 9 → zC1 d m_X3_liftedInAll [zR 4 0] μ (fun x4 μ4 => K x4 μ4)) ∧ (a1 = 10 → zC1 d m_X8_mostRead [zR 4 0] μ (fun x5 μ5 => K x5 μ5)) ∧ (a1 = 11 → zC1 d m_X10_seen [zR 7 0] μ (fun x6 μ6 => K x6 μ6)) ∧ (a1 = 12 → zC1 d m_X10_entries [zR 7 0] μ (fun x7 μ7 => K x7 μ7)) ∧ (a1 = 13 → zC1 d m_X6_size [zR 5 0] μ (fun x8 μ8 => K x8 μ8)) ∧ True) : zC1 (d + 1) m_X11_told [zR 1 0, zI a1] μ K := zgo [] 400 h
set_option maxRecDepth 20000 in
theorem k_X11_room (d : Nat) (a1 : Int) (a2 : Int) (μ : zM) (K : Int → zM → Prop) (h : zC1 d m_X1_hasRoom [zR 3 0, zI a1] μ (fun x1 μ1 => (x1 ≠ 0 → ((a2 < 0 ∨ 4 < a2) → K ((-1000000002)) μ1) ∧ (a2 = 0 → zC1 d m_X1_barsOf [zR 3 0, zI a1] μ1 (fun x2 μ2 => K x2 μ2)) ∧ (a2 = 1 → zC1 d m_X3_liftedIn [zR 4 0, zI a1] μ1 (fun x3 μ3 => K x3 μ3)) ∧ (a2 = 2 → zC1 d m_X8_keyOf [zR 4 0, zI a1] μ1 (fun x4 μ4 => K x4 μ4)) ∧ (a2 = 3 → zC1 d m_X8_repeatOf [zR 4 0, zI a1] μ1 (fun x5 μ5 => K x5 μ5)) ∧ (a2 = 4 → zC1 d m_X1_hasUnder [zR 3 0, zI a1] μ1 (fun x6 μ6 => (x6 = 0 → K 0 μ6) ∧ (¬ (x6 = 0) → K 1 μ6))) ∧ True) ∧ (¬ (x1 ≠ 0) → K ((-1000000001)) μ1))) : zC1 (d + 1) m_X11_room [zR 1 0, zI a1, zI a2] μ K := zgo [] 400 h
set_option maxRecDepth 20000 in
theorem k_X11_bar (d : Nat) (a1 : Int) (a2 : Int) (a3 : Int) (μ : zM) (K : Int → zM → Prop) (h : zC1 d m_X1_hasBar [zR 3 0, zI a1, zI a2] μ (fun x1 μ1 => (x1 ≠ 0 → ((a3 < 0 ∨ 2 < a3) → K ((-1000000002)) μ1) ∧ (a3 = 0 → zC1 d m_X1_paperOf [zR 3 0, zI a1, zI a2] μ1 (fun x2 μ2 => K x2 μ2)) ∧ (a3 = 1 → zC1 d m_X1_underOf [zR 3 0, zI a1, zI a2] μ1 (fun x3 μ3 => K x3 μ3)) ∧ (a3 = 2 → zC1 d m_X3_reads [zR 4 0, zI a1, zI a2] μ1 (fun x4 μ4 => K x4 μ4)) ∧ True) ∧ (¬ (x1 ≠ 0) → K ((-1000000001)) μ1))) : zC1 (d + 1) m_X11_bar [zR 1 0, zI a1, zI a2, zI a3] μ K := zgo [] 400 h
set_option maxRecDepth 20000 in
theorem k_X11_person (d : Nat) (a1 : Int) (a2 : Int) (μ : zM) (K : Int → zM → Prop) (h : zC1 d m_X1_hasPerson [zR 3 0, zI a1] μ (fun x1 μ1 => (x1 ≠ 0 → ((a2 < 0 ∨ 3 < a2) → K ((-1000000002)) μ1) ∧ (a2 = 0 → zC1 d m_X3_roomOf [zR 4 0, zI a1] μ1 (fun x2 μ2 => K x2 μ2)) ∧ (a2 = 1 → zC1 d m_X3_placeOf [zR 4 0, zI a1] μ1 (fun x3 μ3 => K x3 μ3)) ∧ (a2 = 2 → zC1 d m_X3_paceOf [zR 4 0, zI a1] μ1 (fun x4 μ4 => K x4 μ4)) ∧ (a2 = 3 → zC1 d m_X3_readBy [zR 4 0, zI a1] μ1 (fun x5 μ5 => K x5 μ5)) ∧ True) ∧ (¬ (x1 ≠ 0) → K ((-1000000001)) μ1))) : zC1 (d + 1) m_X11_person [zR 1 0, zI a1, zI a2] μ K := zgo [] 400 h
set_option maxRecDepth 20000 in
theorem k_X11_wall (d : Nat) (a1 : Int) (a2 : Int) (μ : zM) (K : Int → zM → Prop) (h : zC1 d m_X1_hasWall [zR 3 0, zI a1] μ (fun x1 μ1 => (x1 ≠ 0 → zC1 d m_X11_beyond [zI a2, zI 3] μ1 (fun x2 μ2 => (x2 = 0 → zC1 d m_X1_wallPart [zR 3 0, zI a1, zI a2] μ2 (fun x3 μ3 => K x3 μ3)) ∧ (¬ (x2 = 0) → K ((-1000000002)) μ2))) ∧ (¬ (x1 ≠ 0) → K ((-1000000001)) μ1))) : zC1 (d + 1) m_X11_wall [zR 1 0, zI a1, zI a2] μ K := zgo [] 400 h
set_option maxRecDepth 20000 in
theorem k_X11_logged (d : Nat) (a1 : Int) (a2 : Int) (μ : zM) (K : Int → zM → Prop) (h : zC1 d m_X11_beyond [zI a2, zI 2] μ (fun x1 μ1 => (x1 = 0 → zC1 d m_X3_loggedNow [zR 4 0] μ1 (fun x2 μ2 => zC1 d m_X11_beyond [zI a1, zI (w32 (x2 - 1))] μ2 (fun x3 μ3 => (x3 = 0 → zC1 d m_X3_meeting [zR 4 0, zI a1, zI a2] μ3 (fun x4 μ4 => K x4 μ4)) ∧ (¬ (x3 = 0) → K ((-1)) μ3)))) ∧ (¬ (x1 = 0) → K ((-1000000002)) μ1))) : zC1 (d + 1) m_X11_logged [zR 1 0, zI a1, zI a2] μ K := zgo [] 400 h
set_option maxRecDepth 20000 in
theorem k_X11_hour (d : Nat) (a1 : Int) (μ : zM) (K : Int → zM → Prop) (h : zC1 d m_X11_refusalOfHours [zR 1 0, zI a1] μ (fun x1 μ1 => (x1 = 0 → zJ (d + 1) m_X11_hour 14 [some (zR 1 0), some (zI a1), none, some (zI 0)] μ1 (zQ1 K)) ∧ (¬ (x1 = 0) → K x1 μ1))) : zC1 (d + 1) m_X11_hour [zR 1 0, zI a1] μ K := zgo [(14, [true, true, false, true])] 400 h
set_option maxRecDepth 20000 in
theorem k_X11_hour_14 (d : Nat) (l1 : Int) (l3 : Int) (μ : zM) (K : Int → zM → Prop) (h : (l3 ≥ l1 → K (μ 4 0 2) μ) ∧ (¬ (l3 ≥ l1) → zC0 d m_X6_add [zR 5 0, zR 4 0] μ (fun μ1 => zC1 d m_X5_anHour [zR 4 0] μ1 (fun x2 μ2 => zJ (d + 1) m_X11_hour 14 [some (zR 1 0), some (zI l1), none, some (zI (w32 (l3 + 1)))] μ2 (zQ1 K))))) : zJ (d + 1) m_X11_hour 14 [some (zR 1 0), some (zI l1), none, some (zI l3)] μ (zQ1 K) := zgo [(14, [true, true, false, true])] 400 h
set_option maxRecDepth 20000 in
theorem k_X11_lift (d : Nat) (a1 : Int) (a2 : Int) (μ : zM) (K : Int → zM → Prop) (h : zC1 d m_X11_turnByHand [zR 1 0, zI a1, zI a2, zI 0] μ (fun x1 μ1 => K x1 μ1)) : zC1 (d + 1) m_X11_lift [zR 1 0, zI a1, zI a2] μ K := zgo [] 400 h
set_option maxRecDepth 20000 in
theorem k_X11_paste (d : Nat) (a1 : Int) (a2 : Int) (μ : zM) (K : Int → zM → Prop) (h : zC1 d m_X11_turnByHand [zR 1 0, zI a1, zI a2, zI 1] μ (fun x1 μ1 => K x1 μ1)) : zC1 (d + 1) m_X11_paste [zR 1 0, zI a1, zI a2] μ K := zgo [] 400 h
set_option maxRecDepth 20000 in
theorem k_X11_moveTo (d : Nat) (a1 : Int) (a2 : Int) (μ : zM) (K : Int → zM → Prop) (h : zC1 d m_X1_hasPerson [zR 3 0, zI a1] μ (fun x1 μ1 => (x1 = 0 → K ((-1000000001)) μ1) ∧ (¬ (x1 = 0) → zC1 d m_X1_hasRoom [zR 3 0, zI a2] μ1 (fun x2 μ2 => (x2 ≠ 0 → zC1 d m_X3_roomOf [zR 4 0, zI a1] μ2 (fun x3 μ3 => (x3 ≠ a2 → zC1 d m_X3_readBy [zR 4 0, zI a1] μ3 (fun x4 μ4 => zC1 d m_X8_firstThatReads [zR 4 0, zI a2, zI x4] μ4 (fun x5 μ5 => (x5 ≠ (-1) → zC0 d m_X6_add [zR 5 0, zR 4 0] μ5 (fun μ6 => zC0 d m_X3_setPlace [zR 4 0, zI a1, zI a2, zI x5] μ6 (fun μ7 => K x5 μ7))) ∧ (¬ (x5 ≠ (-1)) → K ((-1000000003)) μ5)))) ∧ (¬ (x3 ≠ a2) → (((-1) : Int) ≠ (-1) → zC0 d m_X6_add [zR 5 0, zR 4 0] μ3 (fun μ8 => zC0 d m_X3_setPlace [zR 4 0, zI a1, zI a2, zI ((-1))] μ8 (fun μ9 => K ((-1)) μ9))) ∧ (¬ (((-1) : Int) ≠ (-1)) → K ((-1000000003)) μ3)))) ∧ (¬ (x2 ≠ 0) → K ((-1000000001)) μ2))))) : zC1 (d + 1) m_X11_moveTo [zR 1 0, zI a1, zI a2] μ K := zgo [] 400 h
set_option maxRecDepth 20000 in
theorem k_X11_pace (d : Nat) (a1 : Int) (a2 : Int) (μ : zM) (K : Int → zM → Prop) (h : zC1 d m_X1_hasPerson [zR 3 0, zI a1] μ (fun x1 μ1 => (x1 ≠ 0 → zC1 d m_X11_beyond [zI a2, zI 9] μ1 (fun x2 μ2 => (x2 = 0 → zC1 d m_X3_paceOf [zR 4 0, zI a1] μ2 (fun x3 μ3 => zC0 d m_X6_add [zR 5 0, zR 4 0] μ3 (fun μ4 => zC0 d m_X3_setPace [zR 4 0, zI a1, zI a2] μ4 (fun μ5 => K x3 μ5)))) ∧ (¬ (x2 = 0) → K ((-1000000002)) μ2))) ∧ (¬ (x1 ≠ 0) → K ((-1000000001)) μ1))) : zC1 (d + 1) m_X11_pace [zR 1 0, zI a1, zI a2] μ K := zgo [] 400 h
set_option maxRecDepth 20000 in
theorem k_X11_drift (d : Nat) (a1 : Int) (μ : zM) (K : Int → zM → Prop) (h : zC1 d m_X11_refusalOfHours [zR 1 0, zI a1] μ (fun x1 μ1 => (x1 = 0 → zJ (d + 1) m_X11_drift 14 [some (zR 1 0), some (zI a1), none, some (zI 0)] μ1 (zQ1 K)) ∧ (¬ (x1 = 0) → K x1 μ1))) : zC1 (d + 1) m_X11_drift [zR 1 0, zI a1] μ K := zgo [(14, [true, true, false, true])] 400 h
set_option maxRecDepth 20000 in
theorem k_X11_drift_14 (d : Nat) (l1 : Int) (l3 : Int) (μ : zM) (K : Int → zM → Prop) (h : (l3 ≥ l1 → K (μ 4 0 2) μ) ∧ (¬ (l3 ≥ l1) → zC0 d m_X6_add [zR 5 0, zR 4 0] μ (fun μ1 => zC0 d m_X11_deedByDraws [zR 1 0] μ1 (fun μ2 => zC1 d m_X5_anHour [zR 4 0] μ2 (fun x3 μ3 => zJ (d + 1) m_X11_drift 14 [some (zR 1 0), some (zI l1), none, some (zI (w32 (l3 + 1)))] μ3 (zQ1 K)))))) : zJ (d + 1) m_X11_drift 14 [some (zR 1 0), some (zI l1), none, some (zI l3)] μ (zQ1 K) := zgo [(14, [true, true, false, true])] 400 h
set_option maxRecDepth 20000 in
theorem k_X11_undo (d : Nat) (a1 : Int) (μ : zM) (K : Int → zM → Prop) (h : (a1 < 1 → K ((-1000000002)) μ) ∧ (¬ (a1 < 1) → (a1 ≤ 30 → zC1 d m_X6_size [zR 5 0] μ (fun x1 μ1 => (a1 ≤ x1 → zC0 d m_X6_takeBack [zR 5 0, zI a1, zR 4 0] μ1 (fun μ2 => K (μ2 4 0 1) μ2)) ∧ (¬ (a1 ≤ x1) → K ((-1000000003)) μ1))) ∧ (¬ (a1 ≤ 30) → K ((-1000000002)) μ))) : zC1 (d + 1) m_X11_undo [zR 1 0, zI a1] μ K := zgo [] 400 h
set_option maxRecDepth 20000 in
theorem k_X11_where (d : Nat) (a1 : Int) (a2 : Int) (μ : zM) (K : Int → zM → Prop) (h : zC1 d m_X1_hasPerson [zR 3 0, zI a1] μ (fun x1 μ1 => (x1 ≠ 0 → zC1 d m_X11_beyond [zI a2, zI 99] μ1 (fun x2 μ2 => (x2 = 0 → zC1 d m_X11_meetingsTried [zR 1 0, zI a2] μ2 (fun x3 μ3 => zC1 d m_X3_placeOf [zR 4 1, zI a1] μ3 (fun x4 μ4 => K x4 μ4))) ∧ (¬ (x2 = 0) → K ((-1000000002)) μ2))) ∧ (¬ (x1 ≠ 0) → K ((-1000000001)) μ1))) : zC1 (d + 1) m_X11_where [zR 1 0, zI a1, zI a2] μ K := zgo [] 400 h
set_option maxRecDepth 20000 in
theorem k_X11_meets (d : Nat) (a1 : Int) (μ : zM) (K : Int → zM → Prop) (h : zC1 d m_X11_beyond [zI a1, zI 99] μ (fun x1 μ1 => (x1 = 0 → zC1 d m_X11_meetingsTried [zR 1 0, zI a1] μ1 (fun x2 μ2 => K x2 μ2)) ∧ (¬ (x1 = 0) → K ((-1000000002)) μ1))) : zC1 (d + 1) m_X11_meets [zR 1 0, zI a1] μ K := zgo [] 400 h
set_option maxRecDepth 20000 in
theorem k_X11_together (d : Nat) (a1 : Int) (a2 : Int) (μ : zM) (K : Int → zM → Prop) (h : zC1 d m_X1_hasPerson [zR 3 0, zI a1] μ (fun x1 μ1 => (x1 = 0 → K ((-1000000001)) μ1) ∧ (¬ (x1 = 0) → zC1 d m_X1_hasPerson [zR 3 0, zI a2] μ1 (fun x2 μ2 => (x2 = 0 → K ((-1000000001)) μ2) ∧ (¬ (x2 = 0) → (a1 ≠ a2 → zC0 d m_X3_become [zR 4 1, zR 4 0] μ2 (fun μ3 => zJ (d + 1) m_X11_together 43 [some (zR 1 0), some (zI a1), some (zI a2), some (zI 1)] μ3 (zQ1 K))) ∧ (¬ (a1 ≠ a2) → K ((-1000000001)) μ2)))))) : zC1 (d + 1) m_X11_together [zR 1 0, zI a1, zI a2] μ K := zgo [(43, [true, true, true, true])] 400 h
set_option maxRecDepth 20000 in
theorem k_X11_together_43 (d : Nat) (l1 : Int) (l2 : Int) (l3 : Int) (μ : zM) (K : Int → zM → Prop) (h : (l3 > 200 → K ((-1)) μ) ∧ (¬ (l3 > 200) → zC1 d m_X5_anHour [zR 4 1] μ (fun x1 μ1 => zC1 d m_X5_areAtOneWall [zR 4 1, zI l1, zI l2] μ1 (fun x2 μ2 => (x2 = 0 → zJ (d + 1) m_X11_together 43 [some (zR 1 0), some (zI l1), some (zI l2), some (zI (w32 (l3 + 1)))] μ2 (zQ1 K)) ∧ (¬ (x2 = 0) → K l3 μ2))))) : zJ (d + 1) m_X11_together 43 [some (zR 1 0), some (zI l1), some (zI l2), some (zI l3)] μ (zQ1 K) := zgo [(43, [true, true, true, true])] 400 h
set_option maxRecDepth 20000 in
theorem k_X11_canon (d : Nat) (a1 : Int) (a2 : Int) (a3 : Int) (μ : zM) (K : Int → zM → Prop) (h : zC1 d m_X11_areTwoRooms [zR 1 0, zI a1, zI a2] μ (fun x1 μ1 => (x1 ≠ 0 → zC1 d m_X11_beyond [zI a3, zI 11] μ1 (fun x2 μ2 => (x2 = 0 → zC1 d m_X0_alike [zR 4 0, zI a1, zI a2, zI a3] μ2 (fun x3 μ3 => K x3 μ3)) ∧ (¬ (x2 = 0) → K ((-1000000002)) μ2))) ∧ (¬ (x1 ≠ 0) → K ((-1000000001)) μ1))) : zC1 (d + 1) m_X11_canon [zR 1 0, zI a1, zI a2, zI a3] μ K := zgo [] 400 h
set_option maxRecDepth 20000 in
theorem k_X11_bestCanon (d : Nat) (a1 : Int) (a2 : Int) (a3 : Int) (μ : zM) (K : Int → zM → Prop) (h : zC1 d m_X11_areTwoRooms [zR 1 0, zI a1, zI a2] μ (fun x1 μ1 => (x1 ≠ 0 → zC1 d m_X11_beyond [zI a3, zI 1] μ1 (fun x2 μ2 => (x2 = 0 → zC1 d m_X0_bestShift [zR 4 0, zI a1, zI a2] μ2 (fun x3 μ3 => (a3 ≠ 0 → zC1 d m_X0_alike [zR 4 0, zI a1, zI a2, zI x3] μ3 (fun x4 μ4 => K x4 μ4)) ∧ (¬ (a3 ≠ 0) → K x3 μ3))) ∧ (¬ (x2 = 0) → K ((-1000000002)) μ2))) ∧ (¬ (x1 ≠ 0) → K ((-1000000001)) μ1))) : zC1 (d + 1) m_X11_bestCanon [zR 1 0, zI a1, zI a2, zI a3] μ K := zgo [] 400 h
set_option maxRecDepth 20000 in
theorem k_X11_match (d : Nat) (a1 : Int) (a2 : Int) (a3 : Int) (a4 : Int) (μ : zM) (K : Int → zM → Prop) (h : zC1 d m_X11_areTwoRooms [zR 1 0, zI a1, zI a2] μ (fun x1 μ1 => (x1 ≠ 0 → zC1 d m_X11_beyond [zI a3, zI 11] μ1 (fun x2 μ2 => (x2 ≠ 0 → K ((-1000000002)) μ2) ∧ (¬ (x2 ≠ 0) → zC1 d m_X11_beyond [zI a4, zI 1] μ2 (fun x3 μ3 => (x3 = 0 → zC1 d m_X0_barsToTurn [zR 4 0, zI a1, zI a2, zI a3] μ3 (fun x4 μ4 => (a4 = 1 → K x4 μ4) ∧ (¬ (a4 = 1) → (x4 ≠ (-1) → zC1 d m_J6_bitCount_0f7a4 [zI x4] μ4 (fun x5 μ5 => K x5 μ5)) ∧ (¬ (x4 ≠ (-1)) → K x4 μ4)))) ∧ (¬ (x3 = 0) → K ((-1000000002)) μ3))))) ∧ (¬ (x1 ≠ 0) → K ((-1000000001)) μ1))) : zC1 (d + 1) m_X11_match [zR 1 0, zI a1, zI a2, zI a3, zI a4] μ K := zgo [] 400 h
set_option maxRecDepth 20000 in
theorem k_X11_join (d : Nat) (a1 : Int) (a2 : Int) (μ : zM) (K : Int → zM → Prop) (h : zC1 d m_X11_areTwoRooms [zR 1 0, zI a1, zI a2] μ (fun x1 μ1 => (x1 ≠ 0 → zC1 d m_X8_sharedEnd [zR 4 0, zI a1, zI a2] μ1 (fun x2 μ2 => K x2 μ2)) ∧ (¬ (x1 ≠ 0) → K ((-1000000001)) μ1))) : zC1 (d + 1) m_X11_join [zR 1 0, zI a1, zI a2] μ K := zgo [] 400 h
set_option maxRecDepth 20000 in
theorem k_X11_shortest (d : Nat) (a1 : Int) (μ : zM) (K : Int → zM → Prop) (h : zC1 d m_X11_beyond [zI a1, zI 1] μ (fun x1 μ1 => (x1 = 0 → (μ1 3 0 2 ≠ 0 → zC0 d m_X4_reckon [zR 8 0, zR 4 0] μ1 (fun μ2 => (a1 ≠ 0 → zC1 d m_X4_leastNumber [zR 8 0] μ2 (fun x3 μ3 => K x3 μ3)) ∧ (¬ (a1 ≠ 0) → zC1 d m_X4_fewestBars [zR 8 0] μ2 (fun x4 μ4 => K x4 μ4)))) ∧ (¬ (μ1 3 0 2 ≠ 0) → K ((-1)) μ1)) ∧ (¬ (x1 = 0) → K ((-1000000002)) μ1))) : zC1 (d + 1) m_X11_shortest [zR 1 0, zI a1] μ K := zgo [] 400 h
set_option maxRecDepth 20000 in
theorem k_X11_nearest (d : Nat) (a1 : Int) (μ : zM) (K : Int → zM → Prop) (h : zC1 d m_X1_hasRoom [zR 3 0, zI a1] μ (fun x1 μ1 => (x1 ≠ 0 → zC1 d m_X8_nearestRoom [zR 4 0, zI a1] μ1 (fun x2 μ2 => K x2 μ2)) ∧ (¬ (x1 ≠ 0) → K ((-1000000001)) μ1))) : zC1 (d + 1) m_X11_nearest [zR 1 0, zI a1] μ K := zgo [] 400 h
set_option maxRecDepth 20000 in
theorem k_X11_modulation (d : Nat) (a1 : Int) (a2 : Int) (μ : zM) (K : Int → zM → Prop) (h : zC1 d m_X1_hasRoom [zR 3 0, zI a1] μ (fun x1 μ1 => (x1 = 0 → K ((-1000000001)) μ1) ∧ (¬ (x1 = 0) → zC1 d m_X1_hasRoom [zR 3 0, zI a2] μ1 (fun x2 μ2 => (x2 ≠ 0 → zC1 d m_X8_stepsBetween [zR 4 0, zI a1, zI a2] μ2 (fun x3 μ3 => K x3 μ3)) ∧ (¬ (x2 ≠ 0) → K ((-1000000001)) μ2))))) : zC1 (d + 1) m_X11_modulation [zR 1 0, zI a1, zI a2] μ K := zgo [] 400 h
set_option maxRecDepth 20000 in
theorem k_X11_sounds (d : Nat) (a1 : Int) (μ : zM) (K : Int → zM → Prop) (h : zC1 d m_X11_beyond [zI a1, zI 9] μ (fun x1 μ1 => (x1 = 0 → zJ (d + 1) m_X11_sounds 16 [some (zR 1 0), some (zI a1), some (zI 0), some (zI 0)] μ1 (zQ1 K)) ∧ (¬ (x1 = 0) → K ((-1000000002)) μ1))) : zC1 (d + 1) m_X11_sounds [zR 1 0, zI a1] μ K := zgo [(16, [true, true, true, true])] 400 h
set_option maxRecDepth 20000 in
theorem k_X11_sounds_16 (d : Nat) (l1 : Int) (l2 : Int) (l3 : Int) (μ : zM) (K : Int → zM → Prop) (h : (l3 ≥ μ 3 0 3 → K l2 μ) ∧ (¬ (l3 ≥ μ 3 0 3) → zC1 d m_X3_readBy [zR 4 0, zI l3] μ (fun x1 μ1 => (x1 ≠ l1 → zJ (d + 1) m_X11_sounds 16 [some (zR 1 0), some (zI l1), some (zI l2), some (zI (w32 (l3 + 1)))] μ1 (zQ1 K)) ∧ (¬ (x1 ≠ l1) → zJ (d + 1) m_X11_sounds 16 [some (zR 1 0), some (zI l1), some (zI (zor l2 (zshl 1 l3))), some (zI (w32 (l3 + 1)))] μ1 (zQ1 K))))) : zJ (d + 1) m_X11_sounds 16 [some (zR 1 0), some (zI l1), some (zI l2), some (zI l3)] μ (zQ1 K) := zgo [(16, [true, true, true, true])] 400 h
set_option maxRecDepth 20000 in
theorem k_X11_dry (d : Nat) (a1 : Int) (a2 : Int) (μ : zM) (K : Int → zM → Prop) (h : zC1 d m_X11_beyond [zI a1, zI 60] μ (fun x1 μ1 => (x1 ≠ 0 → K ((-1000000002)) μ1) ∧ (¬ (x1 ≠ 0) → zC1 d m_X11_beyond [zI a2, zI 100] μ1 (fun x2 μ2 => (x2 = 0 → zJ (d + 1) m_X11_dry 28 [none, some (zI a1), some (zI a2), some (zL 1000000000), none, some (zI 0)] μ2 (zQ1 K)) ∧ (¬ (x2 = 0) → K ((-1000000002)) μ2))))) : zC1 (d + 1) m_X11_dry [zR 1 0, zI a1, zI a2] μ K := zgo [(28, [false, true, true, true, false, true])] 400 h
set_option maxRecDepth 20000 in
theorem k_X11_dry_28 (d : Nat) (l1 : Int) (l2 : Int) (l3 : Int) (l5 : Int) (μ : zM) (K : Int → zM → Prop) (h : (l5 ≥ l1 → K (w32 l3) μ) ∧ (¬ (l5 ≥ l1) → (100 : Int) ≠ 0 ∧ zJ (d + 1) m_X11_dry 28 [none, some (zI l1), some (zI l2), some (zL (w64 (Int.tdiv (w64 (l3 * l2)) 100))), none, some (zI (w32 (l5 + 1)))] μ (zQ1 K))) : zJ (d + 1) m_X11_dry 28 [none, some (zI l1), some (zI l2), some (zL l3), none, some (zI l5)] μ (zQ1 K) := zgo [(28, [false, true, true, true, false, true])] 400 h
set_option maxRecDepth 20000 in
theorem k_X11_see (d : Nat) (a1 : Int) (a2 : Int) (μ : zM) (K : Int → zM → Prop) (h : zC1 d m_X11_beyond [zI a1, zI 11] μ (fun x1 μ1 => (x1 ≠ 0 → K ((-1000000002)) μ1) ∧ (¬ (x1 ≠ 0) → zC1 d m_X11_beyond [zI a2, zI 9] μ1 (fun x2 μ2 => (x2 = 0 → zC1 d m_X10_addSeen [zR 7 0, zI a1, zI a2] μ2 (fun x3 μ3 => (x3 = 0 → K ((-1000000004)) μ3) ∧ (¬ (x3 = 0) → zC1 d m_X10_seen [zR 7 0] μ3 (fun x4 μ4 => K x4 μ4)))) ∧ (¬ (x2 = 0) → K ((-1000000002)) μ2))))) : zC1 (d + 1) m_X11_see [zR 1 0, zI a1, zI a2] μ K := zgo [] 400 h
set_option maxRecDepth 20000 in
theorem k_X11_places (d : Nat) (a1 : Int) (μ : zM) (K : Int → zM → Prop) (h : zC1 d m_X11_beyond [zI a1, zI 2] μ (fun x1 μ1 => (x1 = 0 → zC0 d m_X10_findPlaces [zR 7 0, zR 4 0] μ1 (fun μ2 => (a1 ≠ 0 → (a1 ≠ 1 → zC1 d m_X10_roomsFound [zR 7 0] μ2 (fun x3 μ3 => K x3 μ3)) ∧ (¬ (a1 ≠ 1) → zC1 d m_X10_firstFound [zR 7 0] μ2 (fun x4 μ4 => K x4 μ4))) ∧ (¬ (a1 ≠ 0) → zC1 d m_X10_found [zR 7 0] μ2 (fun x5 μ5 => K x5 μ5)))) ∧ (¬ (x1 = 0) → K ((-1000000002)) μ1))) : zC1 (d + 1) m_X11_places [zR 1 0, zI a1] μ K := zgo [] 400 h
set_option maxRecDepth 20000 in
theorem k_X11_lookAt (d : Nat)  (μ : zM) (K : Int → zM → Prop) (h : zC0 d m_X10_findPlaces [zR 7 0, zR 4 0] μ (fun μ1 => zC1 d m_X10_bestLook [zR 7 0, zR 4 0] μ1 (fun x2 μ2 => K x2 μ2))) : zC1 (d + 1) m_X11_lookAt [zR 1 0] μ K := zgo [] 400 h
set_option maxRecDepth 20000 in
theorem k_X11_write (d : Nat) (a1 : Int) (a2 : Int) (a3 : Int) (μ : zM) (K : Int → zM → Prop) (h : zC1 d m_X1_hasBar [zR 3 0, zI a1, zI a2] μ (fun x1 μ1 => (x1 ≠ 0 → zC1 d m_X11_beyond [zI a3, zI 9] μ1 (fun x2 μ2 => (x2 = 0 → zC1 d m_X10_addEntry [zR 7 0, zI a1, zI a2, zI a3] μ2 (fun x3 μ3 => (x3 = 0 → K ((-1000000004)) μ3) ∧ (¬ (x3 = 0) → zC1 d m_X10_entries [zR 7 0] μ3 (fun x4 μ4 => K x4 μ4)))) ∧ (¬ (x2 = 0) → K ((-1000000002)) μ2))) ∧ (¬ (x1 ≠ 0) → K ((-1000000001)) μ1))) : zC1 (d + 1) m_X11_write [zR 1 0, zI a1, zI a2, zI a3] μ K := zgo [] 400 h
set_option maxRecDepth 20000 in
theorem k_X11_judge (d : Nat)  (μ : zM) (K : Int → zM → Prop) (h : zC1 d m_X10_firstWrong [zR 7 0, zR 4 0] μ (fun x1 μ1 => K x1 μ1)) : zC1 (d + 1) m_X11_judge [zR 1 0] μ K := zgo [] 400 h
set_option maxRecDepth 20000 in
theorem k_X11_tear (d : Nat)  (μ : zM) (K : Int → zM → Prop) (h : zC1 d m_X10_seen [zR 7 0] μ (fun x1 μ1 => zC1 d m_X10_entries [zR 7 0] μ1 (fun x2 μ2 => zC0 d m_X10_forget [zR 7 0] μ2 (fun μ3 => K (w32 (x1 + x2)) μ3)))) : zC1 (d + 1) m_X11_tear [zR 1 0] μ K := zgo [] 400 h
set_option maxRecDepth 20000 in
theorem k_X11_seed (d : Nat) (a1 : Int) (μ : zM) (K : Int → zM → Prop) (h : (a1 ≥ 0 → K (μ 1 0 8) (zset μ 1 0 8 a1)) ∧ (¬ (a1 ≥ 0) → K ((-1000000002)) μ)) : zC1 d m_X11_seed [zR 1 0, zI a1] μ K := zgo [] 400 h
set_option maxRecDepth 20000 in
theorem k_X11_keep (d : Nat) (a1 : Int) (μ : zM) (K : Int → zM → Prop) (h : zC1 d m_X11_beyond [zI a1, zI 1] μ (fun x1 μ1 => (x1 = 0 → zC0 d m_X2_store [zR 6 0, zI a1, zR 4 0, zI (μ1 1 0 8)] μ1 (fun μ2 => zC0 d m_X6_forget [zR 5 0] μ2 (fun μ3 => K 1 μ3))) ∧ (¬ (x1 = 0) → K ((-1000000001)) μ1))) : zC1 (d + 1) m_X11_keep [zR 1 0, zI a1] μ K := zgo [] 400 h
set_option maxRecDepth 20000 in
theorem k_X11_goBack (d : Nat) (a1 : Int) (μ : zM) (K : Int → zM → Prop) (h : zC1 d m_X11_beyond [zI a1, zI 1] μ (fun x1 μ1 => (x1 = 0 → zC1 d m_X2_has [zR 6 0, zI a1] μ1 (fun x2 μ2 => (x2 ≠ 0 → zC0 d m_X2_restore [zR 6 0, zI a1, zR 4 0] μ2 (fun μ3 => zC1 d m_X2_chanceOf [zR 6 0, zI a1] μ3 (fun x4 μ4 => zC0 d m_X6_forget [zR 5 0] (zset μ4 1 0 8 x4) (fun μ5 => K 1 μ5)))) ∧ (¬ (x2 ≠ 0) → K ((-1000000003)) μ2))) ∧ (¬ (x1 = 0) → K ((-1000000001)) μ1))) : zC1 (d + 1) m_X11_goBack [zR 1 0, zI a1] μ K := zgo [] 400 h
set_option maxRecDepth 20000 in
theorem k_X11_beyond (d : Nat) (a0 : Int) (a1 : Int) (μ : zM) (K : Int → zM → Prop) (h : (a0 < 0 → ((1 : Int) = 0 ∨ (1 : Int) = 1) ∧ K 1 μ) ∧ (¬ (a0 < 0) → (a0 ≤ a1 → ((0 : Int) = 0 ∨ (0 : Int) = 1) ∧ K 0 μ) ∧ (¬ (a0 ≤ a1) → ((1 : Int) = 0 ∨ (1 : Int) = 1) ∧ K 1 μ))) : zC1 d m_X11_beyond [zI a0, zI a1] μ K := zgo [] 400 h
set_option maxRecDepth 20000 in
theorem k_X11_areTwoRooms (d : Nat) (a1 : Int) (a2 : Int) (μ : zM) (K : Int → zM → Prop) (h : zC1 d m_X1_hasRoom [zR 3 0, zI a1] μ (fun x1 μ1 => (x1 = 0 → ((0 : Int) = 0 ∨ (0 : Int) = 1) ∧ K 0 μ1) ∧ (¬ (x1 = 0) → zC1 d m_X1_hasRoom [zR 3 0, zI a2] μ1 (fun x2 μ2 => (x2 = 0 → ((0 : Int) = 0 ∨ (0 : Int) = 1) ∧ K 0 μ2) ∧ (¬ (x2 = 0) → (a1 = a2 → ((0 : Int) = 0 ∨ (0 : Int) = 1) ∧ K 0 μ2) ∧ (¬ (a1 = a2) → ((1 : Int) = 0 ∨ (1 : Int) = 1) ∧ K 1 μ2)))))) : zC1 (d + 1) m_X11_areTwoRooms [zR 1 0, zI a1, zI a2] μ K := zgo [] 400 h
set_option maxRecDepth 20000 in
theorem k_X11_refusalOfHours (d : Nat) (a1 : Int) (μ : zM) (K : Int → zM → Prop) (h : (a1 < 1 → K ((-1000000002)) μ) ∧ (¬ (a1 < 1) → (a1 ≤ 30 → (μ 3 0 0 ≠ 0 → (μ 4 0 1 ≤ 90000 → K 0 μ) ∧ (¬ (μ 4 0 1 ≤ 90000) → K ((-1000000004)) μ)) ∧ (¬ (μ 3 0 0 ≠ 0) → K ((-1000000003)) μ)) ∧ (¬ (a1 ≤ 30) → K ((-1000000002)) μ))) : zC1 d m_X11_refusalOfHours [zR 1 0, zI a1] μ K := zgo [] 400 h
set_option maxRecDepth 20000 in
theorem k_X11_turnByHand (d : Nat) (a1 : Int) (a2 : Int) (a3 : Int) (μ : zM) (K : Int → zM → Prop) (h : zC1 d m_X1_hasBar [zR 3 0, zI a1, zI a2] μ (fun x1 μ1 => (x1 ≠ 0 → zC1 d m_X3_isLifted [zR 4 0, zI a1, zI a2] μ1 (fun x2 μ2 => (x2 = a3 → zC0 d m_X6_add [zR 5 0, zR 4 0] μ2 (fun μ3 => zC0 d m_X3_turn [zR 4 0, zI a1, zI a2] μ3 (fun μ4 => zC1 d m_X3_reads [zR 4 0, zI a1, zI a2] μ4 (fun x5 μ5 => K x5 μ5)))) ∧ (¬ (x2 = a3) → K ((-1000000003)) μ2))) ∧ (¬ (x1 ≠ 0) → K ((-1000000001)) μ1))) : zC1 (d + 1) m_X11_turnByHand [zR 1 0, zI a1, zI a2, zI a3] μ K := zgo [] 400 h
set_option maxRecDepth 20000 in
theorem k_X11_meetingsTried (d : Nat) (a1 : Int) (μ : zM) (K : Int → zM → Prop) (h : zC0 d m_X3_become [zR 4 1, zR 4 0] μ (fun μ1 => zJ (d + 1) m_X11_meetingsTried 15 [some (zR 1 0), some (zI a1), some (zI 0), some (zI 0)] μ1 (zQ1 K))) : zC1 (d + 1) m_X11_meetingsTried [zR 1 0, zI a1] μ K := zgo [(15, [true, true, true, true])] 400 h
set_option maxRecDepth 20000 in
theorem k_X11_meetingsTried_15 (d : Nat) (l1 : Int) (l2 : Int) (l3 : Int) (μ : zM) (K : Int → zM → Prop) (h : (l3 ≥ l1 → K l2 μ) ∧ (¬ (l3 ≥ l1) → zC1 d m_X5_anHour [zR 4 1] μ (fun x1 μ1 => zJ (d + 1) m_X11_meetingsTried 15 [some (zR 1 0), some (zI l1), some (zI (w32 (l2 + x1))), some (zI (w32 (l3 + 1)))] μ1 (zQ1 K)))) : zJ (d + 1) m_X11_meetingsTried 15 [some (zR 1 0), some (zI l1), some (zI l2), some (zI l3)] μ (zQ1 K) := zgo [(15, [true, true, true, true])] 400 h
set_option maxRecDepth 20000 in
theorem k_X11_draw (d : Nat) (a1 : Int) (μ : zM) (K : Int → zM → Prop) (h : (65536 : Int) ≠ 0 ∧ zC1 d m_X9_leftOver [zI (w32 (Int.tdiv ((zset μ 1 0 8 (w32 (zland (w64 ((w64 ((μ 1 0 8) * 1103515245)) + 12345)) 2147483647))) 1 0 8) 65536)), zI a1] (zset μ 1 0 8 (w32 (zland (w64 ((w64 ((μ 1 0 8) * 1103515245)) + 12345)) 2147483647))) (fun x1 μ1 => K x1 μ1)) : zC1 (d + 1) m_X11_draw [zR 1 0, zI a1] μ K := zgo [] 400 h
set_option maxRecDepth 20000 in
theorem k_X11_deedByDraws (d : Nat)  (μ : zM) (K : zM → Prop) (h : (μ 3 0 2 ≠ 0 → zC1 d m_X11_draw [zR 1 0, zI 4] μ (fun x1 μ1 => (x1 ≠ 0 → (x1 ≠ 1 → K μ1) ∧ (¬ (x1 ≠ 1) → (μ1 3 0 3 ≤ 0 → K μ1) ∧ (¬ (μ1 3 0 3 ≤ 0) → zC1 d m_X11_draw [zR 1 0, zI (μ1 3 0 3)] μ1 (fun x2 μ2 => zC1 d m_X11_draw [zR 1 0, zI 10] μ2 (fun x3 μ3 => zC0 d m_X3_setPace [zR 4 0, zI x2, zI x3] μ3 (fun μ4 => K μ4)))))) ∧ (¬ (x1 ≠ 0) → zC1 d m_X11_draw [zR 1 0, zI (μ1 3 0 2)] μ1 (fun x5 μ5 => zC1 d m_X1_barsOf [zR 3 0, zI x5] μ5 (fun x6 μ6 => zC1 d m_X11_draw [zR 1 0, zI x6] μ6 (fun x7 μ7 => zC0 d m_X3_turn [zR 4 0, zI x5, zI x7] μ7 (fun μ8 => K μ8))))))) ∧ (¬ (μ 3 0 2 ≠ 0) → K μ)) : zC0 (d + 1) m_X11_deedByDraws [zR 1 0] μ K := zgo [] 400 h
set_option maxRecDepth 20000 in
theorem k_X12_in (d : Nat) (a0 : Int) (a1 : Int) (a2 : Int) (μ : zM) (K : Int → zM → Prop) (h : (zlcmp a0 a1 < 0 → ((0 : Int) = 0 ∨ (0 : Int) = 1) ∧ K 0 μ) ∧ (¬ (zlcmp a0 a1 < 0) → (zlcmp a0 a2 > 0 → ((0 : Int) = 0 ∨ (0 : Int) = 1) ∧ K 0 μ) ∧ (¬ (zlcmp a0 a2 > 0) → ((1 : Int) = 0 ∨ (1 : Int) = 1) ∧ K 1 μ))) : zC1 d m_X12_in [zL a0, zL a1, zL a2] μ K := zgo [] 400 h
set_option maxRecDepth 20000 in
theorem k_X12_has (d : Nat) (a0 : Int) (a1 : Int) (μ : zM) (K : Int → zM → Prop) (h : (zand (zshr a0 a1) 1 ≠ 1 → ((0 : Int) = 0 ∨ (0 : Int) = 1) ∧ K 0 μ) ∧ (¬ (zand (zshr a0 a1) 1 ≠ 1) → ((1 : Int) = 0 ∨ (1 : Int) = 1) ∧ K 1 μ)) : zC1 d m_X12_has [zI a0, zI a1] μ K := zgo [] 400 h
set_option maxRecDepth 20000 in
theorem k_X12_bits (d : Nat) (a0 : Int) (μ : zM) (K : Int → zM → Prop) (h : zJ d m_X12_bits 4 [none, some (zI 0), some (zI a0)] μ (zQ1 K)) : zC1 d m_X12_bits [zI a0] μ K := zgo [(4, [false, true, true])] 400 h
set_option maxRecDepth 20000 in
theorem k_X12_bits_4 (d : Nat) (l1 : Int) (l2 : Int) (μ : zM) (K : Int → zM → Prop) (h : (l2 = 0 → K l1 μ) ∧ (¬ (l2 = 0) → zJ d m_X12_bits 4 [none, some (zI (w32 (l1 + 1))), some (zI (zand l2 (w32 (l2 - 1))))] μ (zQ1 K))) : zJ d m_X12_bits 4 [none, some (zI l1), some (zI l2)] μ (zQ1 K) := zgo [(4, [false, true, true])] 400 h
set_option maxRecDepth 20000 in
theorem k_X12_lesser (d : Nat) (a0 : Int) (a1 : Int) (μ : zM) (K : Int → zM → Prop) (h : (a0 ≥ a1 → K a1 μ) ∧ (¬ (a0 ≥ a1) → K a0 μ)) : zC1 d m_X12_lesser [zI a0, zI a1] μ K := zgo [] 400 h
set_option maxRecDepth 20000 in
theorem k_X12_copies_t33_33 (d : Nat) (j0 : Nat) (a1 : Int) (j2 : Nat) (a3 : Int) (a4 : Int) (μ : zM) (K : zM → Prop) (h : zJ d m_X12_copies 3 [some (zR 33 j0), some (zI a1), some (zR 33 j2), some (zI a3), some (zI a4), some (zI 0)] μ (zQ0 K)) : zC0 d m_X12_copies [zR 33 j0, zI a1, zR 33 j2, zI a3, zI a4] μ K := zgo [(3, [true, true, true, true, true, true])] 400 h
set_option maxRecDepth 20000 in
theorem k_X12_copies_t33_33_3 (d : Nat) (l0 : Nat) (l1 : Int) (l2 : Nat) (l3 : Int) (l4 : Int) (l5 : Int) (μ : zM) (K : zM → Prop) (h : (l5 ≥ l4 → K μ) ∧ (¬ (l5 ≥ l4) → (0 ≤ w32 (l1 + l5) ∧ w32 (l1 + l5) < 200) ∧ (0 ≤ w32 (l3 + l5) ∧ w32 (l3 + l5) < 200) ∧ zJ d m_X12_copies 3 [some (zR 33 l0), some (zI l1), some (zR 33 l2), some (zI l3), some (zI l4), some (zI (w32 (l5 + 1)))] (zset μ 33 l2 (w32 (l3 + l5)).toNat (μ 33 l0 (w32 (l1 + l5)).toNat)) (zQ0 K))) : zJ d m_X12_copies 3 [some (zR 33 l0), some (zI l1), some (zR 33 l2), some (zI l3), some (zI l4), some (zI l5)] μ (zQ0 K) := zgo [(3, [true, true, true, true, true, true])] 400 h
set_option maxRecDepth 20000 in
theorem k_X12_copies_t33_34 (d : Nat) (j0 : Nat) (a1 : Int) (j2 : Nat) (a3 : Int) (a4 : Int) (μ : zM) (K : zM → Prop) (h : zJ d m_X12_copies 3 [some (zR 33 j0), some (zI a1), some (zR 34 j2), some (zI a3), some (zI a4), some (zI 0)] μ (zQ0 K)) : zC0 d m_X12_copies [zR 33 j0, zI a1, zR 34 j2, zI a3, zI a4] μ K := zgo [(3, [true, true, true, true, true, true])] 400 h
end
section
/-! WHAT METHODS COME TO, by program (each closed by running the abstract machine in the kernel) -/
set_option maxRecDepth 20000 in
theorem k_X12_copies_t33_34_3 (d : Nat) (l0 : Nat) (l1 : Int) (l2 : Nat) (l3 : Int) (l4 : Int) (l5 : Int) (μ : zM) (K : zM → Prop) (h : (l5 ≥ l4 → K μ) ∧ (¬ (l5 ≥ l4) → (0 ≤ w32 (l1 + l5) ∧ w32 (l1 + l5) < 200) ∧ (0 ≤ w32 (l3 + l5) ∧ w32 (l3 + l5) < 44) ∧ zJ d m_X12_copies 3 [some (zR 33 l0), some (zI l1), some (zR 34 l2), some (zI l3), some (zI l4), some (zI (w32 (l5 + 1)))] (zset μ 34 l2 (w32 (l3 + l5)).toNat (μ 33 l0 (w32 (l1 + l5)).toNat)) (zQ0 K))) : zJ d m_X12_copies 3 [some (zR 33 l0), some (zI l1), some (zR 34 l2), some (zI l3), some (zI l4), some (zI l5)] μ (zQ0 K) := zgo [(3, [true, true, true, true, true, true])] 400 h
set_option maxRecDepth 20000 in
theorem k_X12_copies_t34_34 (d : Nat) (j0 : Nat) (a1 : Int) (j2 : Nat) (a3 : Int) (a4 : Int) (μ : zM) (K : zM → Prop) (h : zJ d m_X12_copies 3 [some (zR 34 j0), some (zI a1), some (zR 34 j2), some (zI a3), some (zI a4), some (zI 0)] μ (zQ0 K)) : zC0 d m_X12_copies [zR 34 j0, zI a1, zR 34 j2, zI a3, zI a4] μ K := zgo [(3, [true, true, true, true, true, true])] 400 h
set_option maxRecDepth 20000 in
theorem k_X12_copies_t34_34_3 (d : Nat) (l0 : Nat) (l1 : Int) (l2 : Nat) (l3 : Int) (l4 : Int) (l5 : Int) (μ : zM) (K : zM → Prop) (h : (l5 ≥ l4 → K μ) ∧ (¬ (l5 ≥ l4) → (0 ≤ w32 (l1 + l5) ∧ w32 (l1 + l5) < 44) ∧ (0 ≤ w32 (l3 + l5) ∧ w32 (l3 + l5) < 44) ∧ zJ d m_X12_copies 3 [some (zR 34 l0), some (zI l1), some (zR 34 l2), some (zI l3), some (zI l4), some (zI (w32 (l5 + 1)))] (zset μ 34 l2 (w32 (l3 + l5)).toNat (μ 34 l0 (w32 (l1 + l5)).toNat)) (zQ0 K))) : zJ d m_X12_copies 3 [some (zR 34 l0), some (zI l1), some (zR 34 l2), some (zI l3), some (zI l4), some (zI l5)] μ (zQ0 K) := zgo [(3, [true, true, true, true, true, true])] 400 h
set_option maxRecDepth 20000 in
theorem k_X12_copies_t34_35 (d : Nat) (j0 : Nat) (a1 : Int) (a3 : Int) (a4 : Int) (μ : zM) (K : zM → Prop) (h : zJ d m_X12_copies 3 [some (zR 34 j0), some (zI a1), some (zR 35 0), some (zI a3), some (zI a4), some (zI 0)] μ (zQ0 K)) : zC0 d m_X12_copies [zR 34 j0, zI a1, zR 35 0, zI a3, zI a4] μ K := zgo [(3, [true, true, true, true, true, true])] 400 h
set_option maxRecDepth 20000 in
theorem k_X12_copies_t34_35_3 (d : Nat) (l0 : Nat) (l1 : Int) (l3 : Int) (l4 : Int) (l5 : Int) (μ : zM) (K : zM → Prop) (h : (l5 ≥ l4 → K μ) ∧ (¬ (l5 ≥ l4) → (0 ≤ w32 (l1 + l5) ∧ w32 (l1 + l5) < 44) ∧ (0 ≤ w32 (l3 + l5) ∧ w32 (l3 + l5) < 1320) ∧ zJ d m_X12_copies 3 [some (zR 34 l0), some (zI l1), some (zR 35 0), some (zI l3), some (zI l4), some (zI (w32 (l5 + 1)))] (zset μ 35 0 (w32 (l3 + l5)).toNat (μ 34 l0 (w32 (l1 + l5)).toNat)) (zQ0 K))) : zJ d m_X12_copies 3 [some (zR 34 l0), some (zI l1), some (zR 35 0), some (zI l3), some (zI l4), some (zI l5)] μ (zQ0 K) := zgo [(3, [true, true, true, true, true, true])] 400 h
set_option maxRecDepth 20000 in
theorem k_X12_copies_t34_36 (d : Nat) (j0 : Nat) (a1 : Int) (a3 : Int) (a4 : Int) (μ : zM) (K : zM → Prop) (h : zJ d m_X12_copies 3 [some (zR 34 j0), some (zI a1), some (zR 36 0), some (zI a3), some (zI a4), some (zI 0)] μ (zQ0 K)) : zC0 d m_X12_copies [zR 34 j0, zI a1, zR 36 0, zI a3, zI a4] μ K := zgo [(3, [true, true, true, true, true, true])] 400 h
set_option maxRecDepth 20000 in
theorem k_X12_copies_t34_36_3 (d : Nat) (l0 : Nat) (l1 : Int) (l3 : Int) (l4 : Int) (l5 : Int) (μ : zM) (K : zM → Prop) (h : (l5 ≥ l4 → K μ) ∧ (¬ (l5 ≥ l4) → (0 ≤ w32 (l1 + l5) ∧ w32 (l1 + l5) < 44) ∧ (0 ≤ w32 (l3 + l5) ∧ w32 (l3 + l5) < 90) ∧ zJ d m_X12_copies 3 [some (zR 34 l0), some (zI l1), some (zR 36 0), some (zI l3), some (zI l4), some (zI (w32 (l5 + 1)))] (zset μ 36 0 (w32 (l3 + l5)).toNat (μ 34 l0 (w32 (l1 + l5)).toNat)) (zQ0 K))) : zJ d m_X12_copies 3 [some (zR 34 l0), some (zI l1), some (zR 36 0), some (zI l3), some (zI l4), some (zI l5)] μ (zQ0 K) := zgo [(3, [true, true, true, true, true, true])] 400 h
set_option maxRecDepth 20000 in
theorem k_X12_copies_t35_34 (d : Nat) (a1 : Int) (j2 : Nat) (a3 : Int) (a4 : Int) (μ : zM) (K : zM → Prop) (h : zJ d m_X12_copies 3 [some (zR 35 0), some (zI a1), some (zR 34 j2), some (zI a3), some (zI a4), some (zI 0)] μ (zQ0 K)) : zC0 d m_X12_copies [zR 35 0, zI a1, zR 34 j2, zI a3, zI a4] μ K := zgo [(3, [true, true, true, true, true, true])] 400 h
set_option maxRecDepth 20000 in
theorem k_X12_copies_t35_34_3 (d : Nat) (l1 : Int) (l2 : Nat) (l3 : Int) (l4 : Int) (l5 : Int) (μ : zM) (K : zM → Prop) (h : (l5 ≥ l4 → K μ) ∧ (¬ (l5 ≥ l4) → (0 ≤ w32 (l1 + l5) ∧ w32 (l1 + l5) < 1320) ∧ (0 ≤ w32 (l3 + l5) ∧ w32 (l3 + l5) < 44) ∧ zJ d m_X12_copies 3 [some (zR 35 0), some (zI l1), some (zR 34 l2), some (zI l3), some (zI l4), some (zI (w32 (l5 + 1)))] (zset μ 34 l2 (w32 (l3 + l5)).toNat (μ 35 0 (w32 (l1 + l5)).toNat)) (zQ0 K))) : zJ d m_X12_copies 3 [some (zR 35 0), some (zI l1), some (zR 34 l2), some (zI l3), some (zI l4), some (zI l5)] μ (zQ0 K) := zgo [(3, [true, true, true, true, true, true])] 400 h
set_option maxRecDepth 20000 in
theorem k_X12_copies_t36_34 (d : Nat) (a1 : Int) (j2 : Nat) (a3 : Int) (a4 : Int) (μ : zM) (K : zM → Prop) (h : zJ d m_X12_copies 3 [some (zR 36 0), some (zI a1), some (zR 34 j2), some (zI a3), some (zI a4), some (zI 0)] μ (zQ0 K)) : zC0 d m_X12_copies [zR 36 0, zI a1, zR 34 j2, zI a3, zI a4] μ K := zgo [(3, [true, true, true, true, true, true])] 400 h
set_option maxRecDepth 20000 in
theorem k_X12_copies_t36_34_3 (d : Nat) (l1 : Int) (l2 : Nat) (l3 : Int) (l4 : Int) (l5 : Int) (μ : zM) (K : zM → Prop) (h : (l5 ≥ l4 → K μ) ∧ (¬ (l5 ≥ l4) → (0 ≤ w32 (l1 + l5) ∧ w32 (l1 + l5) < 90) ∧ (0 ≤ w32 (l3 + l5) ∧ w32 (l3 + l5) < 44) ∧ zJ d m_X12_copies 3 [some (zR 36 0), some (zI l1), some (zR 34 l2), some (zI l3), some (zI l4), some (zI (w32 (l5 + 1)))] (zset μ 34 l2 (w32 (l3 + l5)).toNat (μ 36 0 (w32 (l1 + l5)).toNat)) (zQ0 K))) : zJ d m_X12_copies 3 [some (zR 36 0), some (zI l1), some (zR 34 l2), some (zI l3), some (zI l4), some (zI l5)] μ (zQ0 K) := zgo [(3, [true, true, true, true, true, true])] 400 h
set_option maxRecDepth 20000 in
theorem k_X12_begins (d : Nat)  (μ : zM) (K : zM → Prop) (h : zJ (d + 1) m_X12_begins 2 [some (zR 9 0), some (zI 0)] μ (zQ0 K)) : zC0 (d + 1) m_X12_begins [zR 9 0] μ K := zgo [(2, [true, true])] 400 h
set_option maxRecDepth 20000 in
theorem k_X12_begins_2 (d : Nat) (l1 : Int) (μ : zM) (K : zM → Prop) (h : (l1 ≥ 44 → zC0 d m_X12_copies [zR 33 0, zI 160, zR 34 0, zI 6, zI 5] μ (fun μ1 => zC0 d m_X12_copies [zR 33 0, zI 165, zR 34 0, zI 11, zI 5] μ1 (fun μ2 => zC0 d m_X12_copies [zR 33 0, zI 170, zR 34 0, zI 16, zI 5] μ2 (fun μ3 => ((0 ≤ (0 : Int) ∧ (0 : Int) < 2) ∧ ((0 : Int) = 0 ∨ (0 : Int) = 1)) ∧ ((0 ≤ (1 : Int) ∧ (1 : Int) < 2) ∧ ((0 : Int) = 0 ∨ (0 : Int) = 1)) ∧ K (zset (zset (zset (zset (zset μ3 9 0 5 0) 9 0 13 0) 9 0 15 0) 37 0 0 0) 37 0 1 0))))) ∧ (¬ (l1 ≥ 44) → (0 ≤ l1 ∧ l1 < 44) ∧ zJ (d + 1) m_X12_begins 2 [some (zR 9 0), some (zI (w32 (l1 + 1)))] (zset μ 34 0 l1.toNat 0) (zQ0 K))) : zJ (d + 1) m_X12_begins 2 [some (zR 9 0), some (zI l1)] μ (zQ0 K) := zgo [(2, [true, true])] 400 h
set_option maxRecDepth 20000 in
theorem k_X12_feed (d : Nat) (a1 : Int) (μ : zM) (K : Int → zM → Prop) (h : zC1 d m_X12_in [zL a1, zL 0, zL 255] μ (fun x1 μ1 => (x1 ≠ 0 → (μ1 9 0 10 ≠ 240 → (0 ≤ μ1 9 0 10 ∧ μ1 9 0 10 < 240) ∧ K ((zset (zset μ1 38 0 (μ1 9 0 10).toNat a1) 9 0 10 (w32 (((zset μ1 38 0 (μ1 9 0 10).toNat a1) 9 0 10) + 1))) 9 0 10) (zset (zset μ1 38 0 (μ1 9 0 10).toNat a1) 9 0 10 (w32 (((zset μ1 38 0 (μ1 9 0 10).toNat a1) 9 0 10) + 1)))) ∧ (¬ (μ1 9 0 10 ≠ 240) → K ((-1000000004)) μ1)) ∧ (¬ (x1 ≠ 0) → K ((-1000000002)) μ1))) : zC1 (d + 1) m_X12_feed [zR 9 0, zI a1] μ K := zgo [] 400 h
set_option maxRecDepth 20000 in
theorem k_X12_here (d : Nat)  (μ : zM) (K : Int → zM → Prop) (h : (μ 9 0 16 ≥ μ 9 0 10 → K ((-1)) μ) ∧ (¬ (μ 9 0 16 ≥ μ 9 0 10) → (0 ≤ μ 9 0 16 ∧ μ 9 0 16 < 240) ∧ K (μ 38 0 (μ 9 0 16).toNat) μ)) : zC1 d m_X12_here [zR 9 0] μ K := zgo [] 400 h
set_option maxRecDepth 20000 in
theorem k_X12_step (d : Nat)  (μ : zM) (K : zM → Prop) (h : zJ (d + 1) m_X12_step 0 [some (zR 9 0)] μ (zQ0 K)) : zC0 (d + 1) m_X12_step [zR 9 0] μ K := zW_mk none _ _ _ [true] _ _ _ _ h
set_option maxRecDepth 20000 in
theorem k_X12_step_0 (d : Nat)  (μ : zM) (K : zM → Prop) (h : zC1 d m_X12_here [zR 9 0] μ (fun x1 μ1 => (x1 ≠ 32 → zC1 d m_X12_here [zR 9 0] (zset μ1 9 0 17 (μ1 9 0 16)) (fun x2 μ2 => zC1 d m_X12_in [zL ((zset (zset (zset μ2 9 0 18 x2) 9 0 19 0) 9 0 20 0) 9 0 18), zL 48, zL 57] (zset (zset (zset μ2 9 0 18 x2) 9 0 19 0) 9 0 20 0) (fun x3 μ3 => (x3 ≠ 0 → zJ (d + 1) m_X12_step 93 [some (zR 9 0)] (zset μ3 9 0 18 48) (zQ0 K)) ∧ (¬ (x3 ≠ 0) → (μ3 9 0 18 ≥ 0 → K (zset μ3 9 0 16 (w32 ((μ3 9 0 16) + 1)))) ∧ (¬ (μ3 9 0 18 ≥ 0) → K (zset μ3 9 0 16 (w32 ((μ3 9 0 16) + 0)))))))) ∧ (¬ (x1 ≠ 32) → zJ (d + 1) m_X12_step 0 [some (zR 9 0)] (zset μ1 9 0 16 (w32 ((μ1 9 0 16) + 1))) (zQ0 K)))) : zJ (d + 1) m_X12_step 0 [some (zR 9 0)] μ (zQ0 K) := zgo [(0, [true]), (93, [true])] 400 h
set_option maxRecDepth 20000 in
theorem k_X12_step_93 (d : Nat)  (μ : zM) (K : zM → Prop) (h : zC1 d m_X12_here [zR 9 0] μ (fun x1 μ1 => zC1 d m_X12_in [zL x1, zL 48, zL 57] μ1 (fun x2 μ2 => (x2 = 0 → K μ2) ∧ (¬ (x2 = 0) → (μ2 9 0 19 ≥ 3 → zJ (d + 1) m_X12_step 93 [some (zR 9 0)] (zset (zset (zset μ2 9 0 20 (μ2 9 0 20)) 9 0 19 (w32 (((zset μ2 9 0 20 (μ2 9 0 20)) 9 0 19) + 1))) 9 0 16 (w32 (((zset (zset μ2 9 0 20 (μ2 9 0 20)) 9 0 19 (w32 (((zset μ2 9 0 20 (μ2 9 0 20)) 9 0 19) + 1))) 9 0 16) + 1))) (zQ0 K)) ∧ (¬ (μ2 9 0 19 ≥ 3) → zC1 d m_X12_here [zR 9 0] μ2 (fun x3 μ3 => zJ (d + 1) m_X12_step 93 [some (zR 9 0)] (zset (zset (zset μ3 9 0 20 (w32 ((w32 ((w32 (10 * (μ2 9 0 20))) + x3)) - 48))) 9 0 19 (w32 (((zset μ3 9 0 20 (w32 ((w32 ((w32 (10 * (μ2 9 0 20))) + x3)) - 48))) 9 0 19) + 1))) 9 0 16 (w32 (((zset (zset μ3 9 0 20 (w32 ((w32 ((w32 (10 * (μ2 9 0 20))) + x3)) - 48))) 9 0 19 (w32 (((zset μ3 9 0 20 (w32 ((w32 ((w32 (10 * (μ2 9 0 20))) + x3)) - 48))) 9 0 19) + 1))) 9 0 16) + 1))) (zQ0 K))))))) : zJ (d + 1) m_X12_step 93 [some (zR 9 0)] μ (zQ0 K) := zgo [(0, [true]), (93, [true])] 400 h
set_option maxRecDepth 20000 in
theorem k_X12_fails (d : Nat) (a1 : Int) (μ : zM) (K : Int → zM → Prop) (h : ((0 : Int) = 0 ∨ (0 : Int) = 1) ∧ K 0 (zset μ 9 0 21 a1)) : zC1 d m_X12_fails [zR 9 0, zI a1] μ K := zgo [] 400 h
set_option maxRecDepth 20000 in
theorem k_X12_number (d : Nat) (a1 : Int) (a2 : Int) (a3 : Int) (μ : zM) (K : Int → zM → Prop) (h : zC0 d m_X12_step [zR 9 0] μ (fun μ1 => (μ1 9 0 18 = 48 → (μ1 9 0 19 > 3 → zC1 d m_X12_fails [zR 9 0, zI 2] μ1 (fun x2 μ2 => (x2 = 0 ∨ x2 = 1) ∧ K x2 μ2)) ∧ (¬ (μ1 9 0 19 > 3) → zC1 d m_X12_in [zL (μ1 9 0 20), zL a2, zL a3] μ1 (fun x3 μ3 => (x3 ≠ 0 → (0 ≤ a1 ∧ a1 < 200) ∧ ((1 : Int) = 0 ∨ (1 : Int) = 1) ∧ K 1 (zset μ3 33 1 a1.toNat (μ3 9 0 20))) ∧ (¬ (x3 ≠ 0) → zC1 d m_X12_fails [zR 9 0, zI 2] μ3 (fun x4 μ4 => (x4 = 0 ∨ x4 = 1) ∧ K x4 μ4))))) ∧ (¬ (μ1 9 0 18 = 48) → zC1 d m_X12_fails [zR 9 0, zI 1] μ1 (fun x5 μ5 => (x5 = 0 ∨ x5 = 1) ∧ K x5 μ5)))) : zC1 (d + 1) m_X12_number [zR 9 0, zI a1, zI a2, zI a3] μ K := zgo [] 400 h
set_option maxRecDepth 20000 in
theorem k_X12_ends (d : Nat)  (μ : zM) (K : Int → zM → Prop) (h : zC0 d m_X12_step [zR 9 0] μ (fun μ1 => (μ1 9 0 18 = 59 → ((1 : Int) = 0 ∨ (1 : Int) = 1) ∧ K 1 μ1) ∧ (¬ (μ1 9 0 18 = 59) → zC1 d m_X12_fails [zR 9 0, zI 1] μ1 (fun x2 μ2 => (x2 = 0 → ((0 : Int) = 0 ∨ (0 : Int) = 1) ∧ K 0 μ2) ∧ (¬ (x2 = 0) → ((1 : Int) = 0 ∨ (1 : Int) = 1) ∧ K 1 μ2))))) : zC1 (d + 1) m_X12_ends [zR 9 0] μ K := zgo [] 400 h
set_option maxRecDepth 20000 in
theorem k_X12_row (d : Nat) (a1 : Int) (a2 : Int) (a3 : Int) (μ : zM) (K : Int → zM → Prop) (h : zJ (d + 1) m_X12_row 6 [some (zR 9 0), some (zI a1), some (zI a2), some (zI a3), some (zI 0), some (zI 1)] μ (zQ1 K)) : zC1 (d + 1) m_X12_row [zR 9 0, zI a1, zI a2, zI a3] μ K := zgo [(6, [true, true, true, true, true, true])] 400 h
set_option maxRecDepth 20000 in
theorem k_X12_row_6 (d : Nat) (l1 : Int) (l2 : Int) (l3 : Int) (l4 : Int) (l5 : Int) (μ : zM) (K : Int → zM → Prop) (h : (l5 = 0 → ((zset μ 9 0 22 l4) 9 0 18 ≠ 59 → zC1 d m_X12_fails [zR 9 0, zI 1] (zset μ 9 0 22 l4) (fun x1 μ1 => (x1 = 0 → ((0 : Int) = 0 ∨ (0 : Int) = 1) ∧ K 0 μ1) ∧ (¬ (x1 = 0) → ((1 : Int) = 0 ∨ (1 : Int) = 1) ∧ K 1 μ1))) ∧ (¬ ((zset μ 9 0 22 l4) 9 0 18 ≠ 59) → (l4 ≥ l2 → ((1 : Int) = 0 ∨ (1 : Int) = 1) ∧ K 1 (zset μ 9 0 22 l4)) ∧ (¬ (l4 ≥ l2) → zC1 d m_X12_fails [zR 9 0, zI 1] (zset μ 9 0 22 l4) (fun x2 μ2 => (x2 = 0 → ((0 : Int) = 0 ∨ (0 : Int) = 1) ∧ K 0 μ2) ∧ (¬ (x2 = 0) → ((1 : Int) = 0 ∨ (1 : Int) = 1) ∧ K 1 μ2))))) ∧ (¬ (l5 = 0) → zC1 d m_X12_number [zR 9 0, zI (w32 (l1 + l4)), zI 0, zI 9] μ (fun x3 μ3 => (x3 ≠ 0 → zC0 d m_X12_step [zR 9 0] μ3 (fun μ4 => (μ4 9 0 18 ≠ 44 → ((0 : Int) = 0 → zJ (d + 1) m_X12_row 6 [some (zR 9 0), some (zI l1), some (zI l2), some (zI l3), some (zI (w32 (l4 + 1))), some (zI 0)] μ4 (zQ1 K)) ∧ (¬ ((0 : Int) = 0) → (w32 (l4 + 1) ≠ l3 → zJ (d + 1) m_X12_row 6 [some (zR 9 0), some (zI l1), some (zI l2), some (zI l3), some (zI (w32 (l4 + 1))), some (zI 0)] μ4 (zQ1 K)) ∧ (¬ (w32 (l4 + 1) ≠ l3) → zC1 d m_X12_fails [zR 9 0, zI 1] μ4 (fun x5 μ5 => (x5 = 0 ∨ x5 = 1) ∧ K x5 μ5)))) ∧ (¬ (μ4 9 0 18 ≠ 44) → ((1 : Int) = 0 → zJ (d + 1) m_X12_row 6 [some (zR 9 0), some (zI l1), some (zI l2), some (zI l3), some (zI (w32 (l4 + 1))), some (zI 1)] μ4 (zQ1 K)) ∧ (¬ ((1 : Int) = 0) → (w32 (l4 + 1) ≠ l3 → zJ (d + 1) m_X12_row 6 [some (zR 9 0), some (zI l1), some (zI l2), some (zI l3), some (zI (w32 (l4 + 1))), some (zI 1)] μ4 (zQ1 K)) ∧ (¬ (w32 (l4 + 1) ≠ l3) → zC1 d m_X12_fails [zR 9 0, zI 1] μ4 (fun x6 μ6 => (x6 = 0 ∨ x6 = 1) ∧ K x6 μ6)))))) ∧ (¬ (x3 ≠ 0) → ((0 : Int) = 0 ∨ (0 : Int) = 1) ∧ K 0 μ3)))) : zJ (d + 1) m_X12_row 6 [some (zR 9 0), some (zI l1), some (zI l2), some (zI l3), some (zI l4), some (zI l5)] μ (zQ1 K) := zgo [(6, [true, true, true, true, true, true])] 400 h
set_option maxRecDepth 20000 in
theorem k_X12_readsRoom (d : Nat)  (μ : zM) (K : Int → zM → Prop) (h : (0 ≤ (1 : Int) ∧ (1 : Int) < 200) ∧ (μ 33 1 1 ≠ 6 → zC1 d m_X12_row [zR 9 0, zI (w32 (16 + (w32 (12 * (μ 33 1 1))))), zI 1, zI 12] μ (fun x1 μ1 => (x1 ≠ 0 → (0 ≤ w32 (4 + (μ 33 1 1)) ∧ w32 (4 + (μ 33 1 1)) < 200) ∧ (0 ≤ (1 : Int) ∧ (1 : Int) < 200) ∧ (0 ≤ (1 : Int) ∧ (1 : Int) < 200) ∧ ((1 : Int) = 0 ∨ (1 : Int) = 1) ∧ K 1 (zset (zset μ1 33 1 (w32 (4 + (μ 33 1 1))).toNat (μ1 9 0 22)) 33 1 1 (w32 (((zset μ1 33 1 (w32 (4 + (μ 33 1 1))).toNat (μ1 9 0 22)) 33 1 1) + 1)))) ∧ (¬ (x1 ≠ 0) → ((0 : Int) = 0 ∨ (0 : Int) = 1) ∧ K 0 μ1))) ∧ (¬ (μ 33 1 1 ≠ 6) → zC1 d m_X12_fails [zR 9 0, zI 3] μ (fun x2 μ2 => (x2 = 0 ∨ x2 = 1) ∧ K x2 μ2))) : zC1 (d + 1) m_X12_readsRoom [zR 9 0] μ K := zgo [] 400 h
set_option maxRecDepth 20000 in
theorem k_X12_readsUnder (d : Nat)  (μ : zM) (K : Int → zM → Prop) (h : (0 ≤ (1 : Int) ∧ (1 : Int) < 200) ∧ zC1 d m_X12_number [zR 9 0, zI 199, zI 0, zI (w32 ((μ 33 1 1) - 1))] μ (fun x1 μ1 => (x1 ≠ 0 → (0 ≤ w32 (10 + (μ1 9 0 20)) ∧ w32 (10 + (μ1 9 0 20)) < 200) ∧ (μ1 33 1 (w32 (10 + (μ1 9 0 20))).toNat ≠ 1 → (0 ≤ w32 (10 + (μ1 9 0 20)) ∧ w32 (10 + (μ1 9 0 20)) < 200) ∧ (0 ≤ w32 (4 + (μ1 9 0 20)) ∧ w32 (4 + (μ1 9 0 20)) < 200) ∧ (0 ≤ w32 (4 + (μ1 9 0 20)) ∧ w32 (4 + (μ1 9 0 20)) < 200) ∧ zC1 d m_X12_row [zR 9 0, zI (w32 (88 + (w32 (12 * (μ1 9 0 20))))), zI ((zset μ1 33 1 (w32 (10 + (μ1 9 0 20))).toNat 1) 33 1 (w32 (4 + (μ1 9 0 20))).toNat), zI ((zset μ1 33 1 (w32 (10 + (μ1 9 0 20))).toNat 1) 33 1 (w32 (4 + (μ1 9 0 20))).toNat)] (zset μ1 33 1 (w32 (10 + (μ1 9 0 20))).toNat 1) (fun x2 μ2 => (x2 = 0 ∨ x2 = 1) ∧ K x2 μ2)) ∧ (¬ (μ1 33 1 (w32 (10 + (μ1 9 0 20))).toNat ≠ 1) → zC1 d m_X12_fails [zR 9 0, zI 4] μ1 (fun x3 μ3 => (x3 = 0 ∨ x3 = 1) ∧ K x3 μ3))) ∧ (¬ (x1 ≠ 0) → ((0 : Int) = 0 ∨ (0 : Int) = 1) ∧ K 0 μ1))) : zC1 (d + 1) m_X12_readsUnder [zR 9 0] μ K := zgo [] 400 h
set_option maxRecDepth 20000 in
theorem k_X12_readsPerson (d : Nat)  (μ : zM) (K : Int → zM → Prop) (h : (0 ≤ (2 : Int) ∧ (2 : Int) < 200) ∧ (μ 33 1 2 ≠ 5 → (0 ≤ (1 : Int) ∧ (1 : Int) < 200) ∧ zC1 d m_X12_number [zR 9 0, zI (w32 (160 + (μ 33 1 2))), zI 0, zI (w32 ((μ 33 1 1) - 1))] μ (fun x1 μ1 => (x1 = 0 → ((0 : Int) = 0 ∨ (0 : Int) = 1) ∧ K 0 μ1) ∧ (¬ (x1 = 0) → (0 ≤ w32 (160 + (μ 33 1 2)) ∧ w32 (160 + (μ 33 1 2)) < 200) ∧ (0 ≤ w32 (4 + (μ1 33 1 (w32 (160 + (μ 33 1 2))).toNat)) ∧ w32 (4 + (μ1 33 1 (w32 (160 + (μ 33 1 2))).toNat)) < 200) ∧ zC1 d m_X12_number [zR 9 0, zI (w32 (165 + (μ 33 1 2))), zI 0, zI (w32 ((μ1 33 1 (w32 (4 + (μ1 33 1 (w32 (160 + (μ 33 1 2))).toNat))).toNat) - 1))] μ1 (fun x2 μ2 => (x2 ≠ 0 → (0 ≤ (2 : Int) ∧ (2 : Int) < 200) ∧ (0 ≤ (2 : Int) ∧ (2 : Int) < 200) ∧ zC1 d m_X12_number [zR 9 0, zI (w32 (170 + (μ 33 1 2))), zI 0, zI 9] (zset μ2 33 1 2 (w32 ((μ2 33 1 2) + 1))) (fun x3 μ3 => (x3 = 0 → ((0 : Int) = 0 ∨ (0 : Int) = 1) ∧ K 0 μ3) ∧ (¬ (x3 = 0) → zC1 d m_X12_ends [zR 9 0] μ3 (fun x4 μ4 => (x4 = 0 → ((0 : Int) = 0 ∨ (0 : Int) = 1) ∧ K 0 μ4) ∧ (¬ (x4 = 0) → ((1 : Int) = 0 ∨ (1 : Int) = 1) ∧ K 1 μ4))))) ∧ (¬ (x2 ≠ 0) → ((0 : Int) = 0 ∨ (0 : Int) = 1) ∧ K 0 μ2))))) ∧ (¬ (μ 33 1 2 ≠ 5) → zC1 d m_X12_fails [zR 9 0, zI 3] μ (fun x5 μ5 => (x5 = 0 ∨ x5 = 1) ∧ K x5 μ5))) : zC1 (d + 1) m_X12_readsPerson [zR 9 0] μ K := zgo [] 400 h
set_option maxRecDepth 20000 in
theorem k_X12_readsWall (d : Nat)  (μ : zM) (K : Int → zM → Prop) (h : (0 ≤ (3 : Int) ∧ (3 : Int) < 200) ∧ (μ 33 1 3 ≠ 6 → (0 ≤ (1 : Int) ∧ (1 : Int) < 200) ∧ zC1 d m_X12_number [zR 9 0, zI (w32 (175 + (μ 33 1 3))), zI 0, zI (w32 ((μ 33 1 1) - 1))] μ (fun x1 μ1 => (x1 = 0 → ((0 : Int) = 0 ∨ (0 : Int) = 1) ∧ K 0 μ1) ∧ (¬ (x1 = 0) → (0 ≤ w32 (175 + (μ 33 1 3)) ∧ w32 (175 + (μ 33 1 3)) < 200) ∧ (0 ≤ w32 (4 + (μ1 33 1 (w32 (175 + (μ 33 1 3))).toNat)) ∧ w32 (4 + (μ1 33 1 (w32 (175 + (μ 33 1 3))).toNat)) < 200) ∧ zC1 d m_X12_number [zR 9 0, zI (w32 (181 + (μ 33 1 3))), zI 0, zI (w32 ((μ1 33 1 (w32 (4 + (μ1 33 1 (w32 (175 + (μ 33 1 3))).toNat))).toNat) - 1))] μ1 (fun x2 μ2 => (x2 = 0 → ((0 : Int) = 0 ∨ (0 : Int) = 1) ∧ K 0 μ2) ∧ (¬ (x2 = 0) → (0 ≤ (1 : Int) ∧ (1 : Int) < 200) ∧ zC1 d m_X12_number [zR 9 0, zI (w32 (187 + (μ 33 1 3))), zI 0, zI (w32 ((μ2 33 1 1) - 1))] μ2 (fun x3 μ3 => (x3 ≠ 0 → (0 ≤ w32 (187 + (μ 33 1 3)) ∧ w32 (187 + (μ 33 1 3)) < 200) ∧ (0 ≤ w32 (175 + (μ 33 1 3)) ∧ w32 (175 + (μ 33 1 3)) < 200) ∧ (μ3 33 1 (w32 (187 + (μ 33 1 3))).toNat ≠ μ3 33 1 (w32 (175 + (μ 33 1 3))).toNat → (0 ≤ (3 : Int) ∧ (3 : Int) < 200) ∧ (0 ≤ (3 : Int) ∧ (3 : Int) < 200) ∧ (0 ≤ w32 (187 + (μ 33 1 3)) ∧ w32 (187 + (μ 33 1 3)) < 200) ∧ (0 ≤ w32 (4 + ((zset μ3 33 1 3 (w32 ((μ3 33 1 3) + 1))) 33 1 (w32 (187 + (μ 33 1 3))).toNat)) ∧ w32 (4 + ((zset μ3 33 1 3 (w32 ((μ3 33 1 3) + 1))) 33 1 (w32 (187 + (μ 33 1 3))).toNat)) < 200) ∧ zC1 d m_X12_number [zR 9 0, zI (w32 (193 + (μ 33 1 3))), zI 0, zI (w32 (((zset μ3 33 1 3 (w32 ((μ3 33 1 3) + 1))) 33 1 (w32 (4 + ((zset μ3 33 1 3 (w32 ((μ3 33 1 3) + 1))) 33 1 (w32 (187 + (μ 33 1 3))).toNat))).toNat) - 1))] (zset μ3 33 1 3 (w32 ((μ3 33 1 3) + 1))) (fun x4 μ4 => (x4 = 0 → ((0 : Int) = 0 ∨ (0 : Int) = 1) ∧ K 0 μ4) ∧ (¬ (x4 = 0) → zC1 d m_X12_ends [zR 9 0] μ4 (fun x5 μ5 => (x5 = 0 → ((0 : Int) = 0 ∨ (0 : Int) = 1) ∧ K 0 μ5) ∧ (¬ (x5 = 0) → ((1 : Int) = 0 ∨ (1 : Int) = 1) ∧ K 1 μ5))))) ∧ (¬ (μ3 33 1 (w32 (187 + (μ 33 1 3))).toNat ≠ μ3 33 1 (w32 (175 + (μ 33 1 3))).toNat) → zC1 d m_X12_fails [zR 9 0, zI 4] μ3 (fun x6 μ6 => (x6 = 0 ∨ x6 = 1) ∧ K x6 μ6))) ∧ (¬ (x3 ≠ 0) → ((0 : Int) = 0 ∨ (0 : Int) = 1) ∧ K 0 μ3))))))) ∧ (¬ (μ 33 1 3 ≠ 6) → zC1 d m_X12_fails [zR 9 0, zI 3] μ (fun x7 μ7 => (x7 = 0 ∨ x7 = 1) ∧ K x7 μ7))) : zC1 (d + 1) m_X12_readsWall [zR 9 0] μ K := zgo [] 400 h
set_option maxRecDepth 20000 in
theorem k_X12_readsClause (d : Nat) (a1 : Int) (μ : zM) (K : Int → zM → Prop) (h : (μ 9 0 18 ≠ 100 → (a1 = 0 → ((μ 9 0 18 < 112 ∨ 119 < μ 9 0 18) → zC1 d m_X12_fails [zR 9 0, zI 1] μ (fun x1 μ1 => (x1 = 0 ∨ x1 = 1) ∧ K x1 μ1)) ∧ (μ 9 0 18 = 112 → zC1 d m_X12_readsPerson [zR 9 0] μ (fun x2 μ2 => (x2 = 0 ∨ x2 = 1) ∧ K x2 μ2)) ∧ (μ 9 0 18 = 113 → zC1 d m_X12_fails [zR 9 0, zI 1] μ (fun x3 μ3 => (x3 = 0 ∨ x3 = 1) ∧ K x3 μ3)) ∧ (μ 9 0 18 = 114 → zC1 d m_X12_readsRoom [zR 9 0] μ (fun x4 μ4 => (x4 = 0 ∨ x4 = 1) ∧ K x4 μ4)) ∧ (μ 9 0 18 = 115 → zC1 d m_X12_fails [zR 9 0, zI 1] μ (fun x5 μ5 => (x5 = 0 ∨ x5 = 1) ∧ K x5 μ5)) ∧ (μ 9 0 18 = 116 → zC1 d m_X12_fails [zR 9 0, zI 1] μ (fun x6 μ6 => (x6 = 0 ∨ x6 = 1) ∧ K x6 μ6)) ∧ (μ 9 0 18 = 117 → zC1 d m_X12_readsUnder [zR 9 0] μ (fun x7 μ7 => (x7 = 0 ∨ x7 = 1) ∧ K x7 μ7)) ∧ (μ 9 0 18 = 118 → zC1 d m_X12_fails [zR 9 0, zI 1] μ (fun x8 μ8 => (x8 = 0 ∨ x8 = 1) ∧ K x8 μ8)) ∧ (μ 9 0 18 = 119 → zC1 d m_X12_readsWall [zR 9 0] μ (fun x9 μ9 => (x9 = 0 ∨ x9 = 1) ∧ K x9 μ9)) ∧ True) ∧ (¬ (a1 = 0) → zC1 d m_X12_fails [zR 9 0, zI 1] μ (fun x10 μ10 => (x10 = 0 ∨ x10 = 1) ∧ K x10 μ10))) ∧ (¬ (μ 9 0 18 ≠ 100) → (a1 = 0 → zC1 d m_X12_fails [zR 9 0, zI 3] μ (fun x11 μ11 => (x11 = 0 ∨ x11 = 1) ∧ K x11 μ11)) ∧ (¬ (a1 = 0) → zC1 d m_X12_number [zR 9 0, zI 0, zI 0, zI 99] μ (fun x12 μ12 => (x12 = 0 → ((0 : Int) = 0 ∨ (0 : Int) = 1) ∧ K 0 μ12) ∧ (¬ (x12 = 0) → zC1 d m_X12_ends [zR 9 0] μ12 (fun x13 μ13 => (x13 = 0 → ((0 : Int) = 0 ∨ (0 : Int) = 1) ∧ K 0 μ13) ∧ (¬ (x13 = 0) → ((1 : Int) = 0 ∨ (1 : Int) = 1) ∧ K 1 μ13))))))) : zC1 (d + 1) m_X12_readsClause [zR 9 0, zI a1] μ K := zgo [] 400 h
set_option maxRecDepth 20000 in
theorem k_X12_house (d : Nat)  (μ : zM) (K : Int → zM → Prop) (h : zJ (d + 1) m_X12_house 2 [some (zR 9 0), some (zI 0), none] μ (zQ1 K)) : zC1 (d + 1) m_X12_house [zR 9 0] μ K := zgo [(2, [true, true, false]), (40, [true, true, true])] 400 h
set_option maxRecDepth 20000 in
theorem k_X12_house_2 (d : Nat) (l1 : Int) (μ : zM) (K : Int → zM → Prop) (h : (l1 ≥ 200 → zC0 d m_X12_step [zR 9 0] (zset (zset μ 9 0 16 0) 9 0 11 ((-1))) (fun μ1 => zJ (d + 1) m_X12_house 40 [some (zR 9 0), some (zI 1), some (zI 0)] μ1 (zQ1 K))) ∧ (¬ (l1 ≥ 200) → (0 ≤ l1 ∧ l1 < 200) ∧ zJ (d + 1) m_X12_house 2 [some (zR 9 0), some (zI (w32 (l1 + 1))), none] (zset μ 33 1 l1.toNat 0) (zQ1 K))) : zJ (d + 1) m_X12_house 2 [some (zR 9 0), some (zI l1), none] μ (zQ1 K) := zgo [(2, [true, true, false]), (40, [true, true, true])] 400 h
set_option maxRecDepth 20000 in
theorem k_X12_house_40 (d : Nat) (l1 : Int) (l2 : Int) (μ : zM) (K : Int → zM → Prop) (h : (μ 9 0 18 < 0 → (l1 ≠ 0 → (l2 ≤ 0 → (0 ≤ (199 : Int) ∧ (199 : Int) < 200) ∧ zC0 d m_X12_copies [zR 33 1, zI 0, zR 33 0, zI 0, zI 200] (zset (zset μ 9 0 10 0) 33 1 199 0) (fun μ1 => zC0 d m_X12_begins [zR 9 0] μ1 (fun μ2 => (0 ≤ (1 : Int) ∧ (1 : Int) < 200) ∧ K (μ2 33 0 1) μ2))) ∧ (¬ (l2 ≤ 0) → (0 ≤ (199 : Int) ∧ (199 : Int) < 200) ∧ zC0 d m_X12_copies [zR 33 1, zI 0, zR 33 0, zI 0, zI 200] (zset (zset μ 9 0 10 0) 33 1 199 1) (fun μ3 => zC0 d m_X12_begins [zR 9 0] μ3 (fun μ4 => (0 ≤ (1 : Int) ∧ (1 : Int) < 200) ∧ K (μ4 33 0 1) μ4)))) ∧ (¬ (l1 ≠ 0) → K (w32 (((-10)) - ((zset (zset μ 9 0 10 0) 9 0 11 ((zset μ 9 0 10 0) 9 0 17)) 9 0 21))) (zset (zset μ 9 0 10 0) 9 0 11 ((zset μ 9 0 10 0) 9 0 17)))) ∧ (¬ (μ 9 0 18 < 0) → (l1 = 0 → (l1 ≠ 0 → (l2 ≤ 0 → (0 ≤ (199 : Int) ∧ (199 : Int) < 200) ∧ zC0 d m_X12_copies [zR 33 1, zI 0, zR 33 0, zI 0, zI 200] (zset (zset μ 9 0 10 0) 33 1 199 0) (fun μ5 => zC0 d m_X12_begins [zR 9 0] μ5 (fun μ6 => (0 ≤ (1 : Int) ∧ (1 : Int) < 200) ∧ K (μ6 33 0 1) μ6))) ∧ (¬ (l2 ≤ 0) → (0 ≤ (199 : Int) ∧ (199 : Int) < 200) ∧ zC0 d m_X12_copies [zR 33 1, zI 0, zR 33 0, zI 0, zI 200] (zset (zset μ 9 0 10 0) 33 1 199 1) (fun μ7 => zC0 d m_X12_begins [zR 9 0] μ7 (fun μ8 => (0 ≤ (1 : Int) ∧ (1 : Int) < 200) ∧ K (μ8 33 0 1) μ8)))) ∧ (¬ (l1 ≠ 0) → K (w32 (((-10)) - ((zset (zset μ 9 0 10 0) 9 0 11 ((zset μ 9 0 10 0) 9 0 17)) 9 0 21))) (zset (zset μ 9 0 10 0) 9 0 11 ((zset μ 9 0 10 0) 9 0 17)))) ∧ (¬ (l1 = 0) → (l2 ≠ 0 → zC1 d m_X12_readsClause [zR 9 0, zI 0] μ (fun x9 μ9 => (x9 = 0 → zJ (d + 1) m_X12_house 40 [some (zR 9 0), some (zI x9), some (zI (w32 (l2 + 1)))] μ9 (zQ1 K)) ∧ (¬ (x9 = 0) → zC0 d m_X12_step [zR 9 0] μ9 (fun μ10 => zJ (d + 1) m_X12_house 40 [some (zR 9 0), some (zI x9), some (zI (w32 (l2 + 1)))] μ10 (zQ1 K))))) ∧ (¬ (l2 ≠ 0) → zC1 d m_X12_readsClause [zR 9 0, zI 1] μ (fun x11 μ11 => (x11 = 0 → zJ (d + 1) m_X12_house 40 [some (zR 9 0), some (zI x11), some (zI (w32 (l2 + 1)))] μ11 (zQ1 K)) ∧ (¬ (x11 = 0) → zC0 d m_X12_step [zR 9 0] μ11 (fun μ12 => zJ (d + 1) m_X12_house 40 [some (zR 9 0), some (zI x11), some (zI (w32 (l2 + 1)))] μ12 (zQ1 K)))))))) : zJ (d + 1) m_X12_house 40 [some (zR 9 0), some (zI l1), some (zI l2)] μ (zQ1 K) := zgo [(2, [true, true, false]), (40, [true, true, true])] 400 h
set_option maxRecDepth 20000 in
theorem k_X12_fault (d : Nat)  (μ : zM) (K : Int → zM → Prop) (h : K (μ 9 0 11) μ) : zC1 d m_X12_fault [zR 9 0] μ K := zgo [] 400 h
set_option maxRecDepth 20000 in
theorem k_X12_isRoom (d : Nat) (a1 : Int) (μ : zM) (K : Int → zM → Prop) (h : (0 ≤ (1 : Int) ∧ (1 : Int) < 200) ∧ zC1 d m_X12_in [zL a1, zL 0, zL (w32 ((μ 33 0 1) - 1))] μ (fun x1 μ1 => (x1 = 0 ∨ x1 = 1) ∧ K x1 μ1)) : zC1 (d + 1) m_X12_isRoom [zR 9 0, zI a1] μ K := zgo [] 400 h
set_option maxRecDepth 20000 in
theorem k_X12_isBar (d : Nat) (a1 : Int) (a2 : Int) (μ : zM) (K : Int → zM → Prop) (h : zC1 d m_X12_isRoom [zR 9 0, zI a1] μ (fun x1 μ1 => (x1 = 0 → ((0 : Int) = 0 ∨ (0 : Int) = 1) ∧ K 0 μ1) ∧ (¬ (x1 = 0) → (0 ≤ w32 (4 + a1) ∧ w32 (4 + a1) < 200) ∧ zC1 d m_X12_in [zL a2, zL 0, zL (w32 ((μ1 33 0 (w32 (4 + a1)).toNat) - 1))] μ1 (fun x2 μ2 => (x2 = 0 → ((0 : Int) = 0 ∨ (0 : Int) = 1) ∧ K 0 μ2) ∧ (¬ (x2 = 0) → ((1 : Int) = 0 ∨ (1 : Int) = 1) ∧ K 1 μ2))))) : zC1 (d + 1) m_X12_isBar [zR 9 0, zI a1, zI a2] μ K := zgo [] 400 h
set_option maxRecDepth 20000 in
theorem k_X12_isPerson (d : Nat) (a1 : Int) (μ : zM) (K : Int → zM → Prop) (h : (0 ≤ (2 : Int) ∧ (2 : Int) < 200) ∧ zC1 d m_X12_in [zL a1, zL 0, zL (w32 ((μ 33 0 2) - 1))] μ (fun x1 μ1 => (x1 = 0 ∨ x1 = 1) ∧ K x1 μ1)) : zC1 (d + 1) m_X12_isPerson [zR 9 0, zI a1] μ K := zgo [] 400 h
set_option maxRecDepth 20000 in
theorem k_X12_areTwo (d : Nat) (a1 : Int) (a2 : Int) (μ : zM) (K : Int → zM → Prop) (h : zC1 d m_X12_isRoom [zR 9 0, zI a1] μ (fun x1 μ1 => (x1 = 0 → ((0 : Int) = 0 ∨ (0 : Int) = 1) ∧ K 0 μ1) ∧ (¬ (x1 = 0) → zC1 d m_X12_isRoom [zR 9 0, zI a2] μ1 (fun x2 μ2 => (x2 = 0 → ((0 : Int) = 0 ∨ (0 : Int) = 1) ∧ K 0 μ2) ∧ (¬ (x2 = 0) → (a1 = a2 → ((0 : Int) = 0 ∨ (0 : Int) = 1) ∧ K 0 μ2) ∧ (¬ (a1 = a2) → ((1 : Int) = 0 ∨ (1 : Int) = 1) ∧ K 1 μ2)))))) : zC1 (d + 1) m_X12_areTwo [zR 9 0, zI a1, zI a2] μ K := zgo [] 400 h
set_option maxRecDepth 20000 in
theorem k_X12_turned (d : Nat) (a1 : Int) (a2 : Int) (a3 : Int) (μ : zM) (K : Int → zM → Prop) (h : (a3 = 0 → (0 ≤ w32 ((w32 (16 + (w32 (12 * a1)))) + a2) ∧ w32 ((w32 (16 + (w32 (12 * a1)))) + a2) < 200) ∧ K (μ 33 0 (w32 ((w32 (16 + (w32 (12 * a1)))) + a2)).toNat) μ) ∧ (¬ (a3 = 0) → (0 ≤ w32 ((w32 (88 + (w32 (12 * a1)))) + a2) ∧ w32 ((w32 (88 + (w32 (12 * a1)))) + a2) < 200) ∧ K (μ 33 0 (w32 ((w32 (88 + (w32 (12 * a1)))) + a2)).toNat) μ)) : zC1 d m_X12_turned [zR 9 0, zI a1, zI a2, zI a3] μ K := zgo [] 400 h
set_option maxRecDepth 20000 in
theorem k_X12_readsOn_t34 (d : Nat) (j1 : Nat) (a2 : Int) (a3 : Int) (μ : zM) (K : Int → zM → Prop) (h : (0 ≤ w32 (0 + a2) ∧ w32 (0 + a2) < 44) ∧ zC1 d m_X12_has [zI (μ 34 j1 (w32 (0 + a2)).toNat), zI a3] μ (fun x1 μ1 => zC1 d m_X12_turned [zR 9 0, zI a2, zI a3, zI x1] μ1 (fun x2 μ2 => K x2 μ2))) : zC1 (d + 1) m_X12_readsOn [zR 9 0, zR 34 j1, zI a2, zI a3] μ K := zgo [] 400 h
set_option maxRecDepth 20000 in
theorem k_X12_reads (d : Nat) (a1 : Int) (a2 : Int) (μ : zM) (K : Int → zM → Prop) (h : zC1 d m_X12_readsOn [zR 9 0, zR 34 0, zI a1, zI a2] μ (fun x1 μ1 => K x1 μ1)) : zC1 (d + 1) m_X12_reads [zR 9 0, zI a1, zI a2] μ K := zgo [] 400 h
set_option maxRecDepth 20000 in
theorem k_X12_open (d : Nat)  (μ : zM) (K : Int → zM → Prop) (h : zJ (d + 1) m_X12_open 4 [some (zR 9 0), some (zI 0), some (zI 0)] μ (zQ1 K)) : zC1 (d + 1) m_X12_open [zR 9 0] μ K := zgo [(4, [true, true, true])] 400 h
set_option maxRecDepth 20000 in
theorem k_X12_open_4 (d : Nat) (l1 : Int) (l2 : Int) (μ : zM) (K : Int → zM → Prop) (h : (0 ≤ (1 : Int) ∧ (1 : Int) < 200) ∧ (l2 ≥ μ 33 0 1 → K l1 μ) ∧ (¬ (l2 ≥ μ 33 0 1) → (0 ≤ w32 (4 + l2) ∧ w32 (4 + l2) < 200) ∧ zC1 d m_X12_reads [zR 9 0, zI l2, zI (w32 ((μ 33 0 (w32 (4 + l2)).toNat) - 1))] μ (fun x1 μ1 => zC1 d m_X12_reads [zR 9 0, zI l2, zI 0] μ1 (fun x2 μ2 => (x1 ≠ x2 → zJ (d + 1) m_X12_open 4 [some (zR 9 0), some (zI (zor l1 (zshl 1 l2))), some (zI (w32 (l2 + 1)))] μ2 (zQ1 K)) ∧ (¬ (x1 ≠ x2) → zJ (d + 1) m_X12_open 4 [some (zR 9 0), some (zI (zor l1 0)), some (zI (w32 (l2 + 1)))] μ2 (zQ1 K)))))) : zJ (d + 1) m_X12_open 4 [some (zR 9 0), some (zI l1), some (zI l2)] μ (zQ1 K) := zgo [(4, [true, true, true])] 400 h
set_option maxRecDepth 20000 in
theorem k_X12_liftedInAll (d : Nat)  (μ : zM) (K : Int → zM → Prop) (h : zJ (d + 1) m_X12_liftedInAll 4 [some (zR 9 0), some (zI 0), some (zI 0)] μ (zQ1 K)) : zC1 (d + 1) m_X12_liftedInAll [zR 9 0] μ K := zgo [(4, [true, true, true])] 400 h
set_option maxRecDepth 20000 in
theorem k_X12_liftedInAll_4 (d : Nat) (l1 : Int) (l2 : Int) (μ : zM) (K : Int → zM → Prop) (h : (l2 ≥ 6 → K l1 μ) ∧ (¬ (l2 ≥ 6) → (0 ≤ w32 (0 + l2) ∧ w32 (0 + l2) < 44) ∧ zC1 d m_X12_bits [zI (μ 34 0 (w32 (0 + l2)).toNat)] μ (fun x1 μ1 => zJ (d + 1) m_X12_liftedInAll 4 [some (zR 9 0), some (zI (w32 (l1 + x1))), some (zI (w32 (l2 + 1)))] μ1 (zQ1 K)))) : zJ (d + 1) m_X12_liftedInAll 4 [some (zR 9 0), some (zI l1), some (zI l2)] μ (zQ1 K) := zgo [(4, [true, true, true])] 400 h
set_option maxRecDepth 20000 in
theorem k_X12_mostRead (d : Nat)  (μ : zM) (K : Int → zM → Prop) (h : zJ (d + 1) m_X12_mostRead 2 [some (zR 9 0), some (zI 0), none] μ (zQ1 K)) : zC1 (d + 1) m_X12_mostRead [zR 9 0] μ K := zgo [(2, [true, true, false]), (23, [true, true, false]), (35, [true, true, true]), (78, [true, true, true])] 400 h
set_option maxRecDepth 20000 in
theorem k_X12_mostRead_2 (d : Nat) (l1 : Int) (μ : zM) (K : Int → zM → Prop) (h : (l1 ≥ 10 → zJ (d + 1) m_X12_mostRead 23 [some (zR 9 0), some (zI 0), none] μ (zQ1 K)) ∧ (¬ (l1 ≥ 10) → (0 ≤ l1 ∧ l1 < 10) ∧ zJ (d + 1) m_X12_mostRead 2 [some (zR 9 0), some (zI (w32 (l1 + 1))), none] (zset μ 41 0 l1.toNat 0) (zQ1 K))) : zJ (d + 1) m_X12_mostRead 2 [some (zR 9 0), some (zI l1), none] μ (zQ1 K) := zgo [(2, [true, true, false]), (23, [true, true, false]), (35, [true, true, true]), (78, [true, true, true])] 400 h
set_option maxRecDepth 20000 in
theorem k_X12_mostRead_23 (d : Nat) (l1 : Int) (μ : zM) (K : Int → zM → Prop) (h : (0 ≤ (1 : Int) ∧ (1 : Int) < 200) ∧ (l1 ≥ μ 33 0 1 → zJ (d + 1) m_X12_mostRead 78 [some (zR 9 0), some (zI ((-1))), some (zI 1)] μ (zQ1 K)) ∧ (¬ (l1 ≥ μ 33 0 1) → zJ (d + 1) m_X12_mostRead 35 [some (zR 9 0), some (zI l1), some (zI 0)] μ (zQ1 K))) : zJ (d + 1) m_X12_mostRead 23 [some (zR 9 0), some (zI l1), none] μ (zQ1 K) := zgo [(2, [true, true, false]), (23, [true, true, false]), (35, [true, true, true]), (78, [true, true, true])] 400 h
set_option maxRecDepth 20000 in
theorem k_X12_mostRead_35 (d : Nat) (l1 : Int) (l2 : Int) (μ : zM) (K : Int → zM → Prop) (h : (0 ≤ w32 (4 + l1) ∧ w32 (4 + l1) < 200) ∧ (l2 ≥ μ 33 0 (w32 (4 + l1)).toNat → zJ (d + 1) m_X12_mostRead 23 [some (zR 9 0), some (zI (w32 (l1 + 1))), none] μ (zQ1 K)) ∧ (¬ (l2 ≥ μ 33 0 (w32 (4 + l1)).toNat) → zC1 d m_X12_reads [zR 9 0, zI l1, zI l2] μ (fun x1 μ1 => (0 ≤ x1 ∧ x1 < 10) ∧ (0 ≤ x1 ∧ x1 < 10) ∧ zJ (d + 1) m_X12_mostRead 35 [some (zR 9 0), some (zI l1), some (zI (w32 (l2 + 1)))] (zset μ1 41 0 x1.toNat (w32 ((μ1 41 0 x1.toNat) + 1))) (zQ1 K)))) : zJ (d + 1) m_X12_mostRead 35 [some (zR 9 0), some (zI l1), some (zI l2)] μ (zQ1 K) := zgo [(2, [true, true, false]), (23, [true, true, false]), (35, [true, true, true]), (78, [true, true, true])] 400 h
set_option maxRecDepth 20000 in
theorem k_X12_mostRead_78 (d : Nat) (l1 : Int) (l2 : Int) (μ : zM) (K : Int → zM → Prop) (h : (l2 ≥ 10 → K l1 μ) ∧ (¬ (l2 ≥ 10) → (0 ≤ l2 ∧ l2 < 10) ∧ (μ 41 0 l2.toNat ≤ 0 → zJ (d + 1) m_X12_mostRead 78 [some (zR 9 0), some (zI l1), some (zI (w32 (l2 + 1)))] μ (zQ1 K)) ∧ (¬ (μ 41 0 l2.toNat ≤ 0) → (l1 = (-1) → zJ (d + 1) m_X12_mostRead 78 [some (zR 9 0), some (zI l2), some (zI (w32 (l2 + 1)))] μ (zQ1 K)) ∧ (¬ (l1 = (-1)) → (0 ≤ l2 ∧ l2 < 10) ∧ (0 ≤ l1 ∧ l1 < 10) ∧ (μ 41 0 l2.toNat ≤ μ 41 0 l1.toNat → zJ (d + 1) m_X12_mostRead 78 [some (zR 9 0), some (zI l1), some (zI (w32 (l2 + 1)))] μ (zQ1 K)) ∧ (¬ (μ 41 0 l2.toNat ≤ μ 41 0 l1.toNat) → zJ (d + 1) m_X12_mostRead 78 [some (zR 9 0), some (zI l2), some (zI (w32 (l2 + 1)))] μ (zQ1 K)))))) : zJ (d + 1) m_X12_mostRead 78 [some (zR 9 0), some (zI l1), some (zI l2)] μ (zQ1 K) := zgo [(2, [true, true, false]), (23, [true, true, false]), (35, [true, true, true]), (78, [true, true, true])] 400 h
set_option maxRecDepth 20000 in
theorem k_X12_key (d : Nat) (a1 : Int) (μ : zM) (K : Int → zM → Prop) (h : zJ (d + 1) m_X12_key 4 [some (zR 9 0), some (zI a1), some (zI 0), some (zI 0)] μ (zQ1 K)) : zC1 (d + 1) m_X12_key [zR 9 0, zI a1] μ K := zgo [(4, [true, true, true, true])] 400 h
set_option maxRecDepth 20000 in
theorem k_X12_key_4 (d : Nat) (l1 : Int) (l2 : Int) (l3 : Int) (μ : zM) (K : Int → zM → Prop) (h : (0 ≤ w32 (4 + l1) ∧ w32 (4 + l1) < 200) ∧ (l3 ≥ μ 33 0 (w32 (4 + l1)).toNat → (12 : Int) ≠ 0 ∧ K (Int.tmod l2 12) μ) ∧ (¬ (l3 ≥ μ 33 0 (w32 (4 + l1)).toNat) → zC1 d m_X12_reads [zR 9 0, zI l1, zI l3] μ (fun x1 μ1 => zJ (d + 1) m_X12_key 4 [some (zR 9 0), some (zI l1), some (zI (w32 (l2 + x1))), some (zI (w32 (l3 + 1)))] μ1 (zQ1 K)))) : zJ (d + 1) m_X12_key 4 [some (zR 9 0), some (zI l1), some (zI l2), some (zI l3)] μ (zQ1 K) := zgo [(4, [true, true, true, true])] 400 h
set_option maxRecDepth 20000 in
theorem k_X12_repeat (d : Nat) (a1 : Int) (μ : zM) (K : Int → zM → Prop) (h : (0 ≤ w32 (4 + a1) ∧ w32 (4 + a1) < 200) ∧ zJ (d + 1) m_X12_repeat 11 [some (zR 9 0), some (zI a1), some (zI (μ 33 0 (w32 (4 + a1)).toNat)), some (zI 1), none, none] μ (zQ1 K)) : zC1 (d + 1) m_X12_repeat [zR 9 0, zI a1] μ K := zgo [(11, [true, true, true, true, false, false]), (22, [true, true, true, true, true, true])] 400 h
set_option maxRecDepth 20000 in
theorem k_X12_repeat_11 (d : Nat) (l1 : Int) (l2 : Int) (l3 : Int) (μ : zM) (K : Int → zM → Prop) (h : (l3 ≥ l2 → K l2 μ) ∧ (¬ (l3 ≥ l2) → zJ (d + 1) m_X12_repeat 22 [some (zR 9 0), some (zI l1), some (zI l2), some (zI l3), some (zI 1), some (zI 0)] μ (zQ1 K))) : zJ (d + 1) m_X12_repeat 11 [some (zR 9 0), some (zI l1), some (zI l2), some (zI l3), none, none] μ (zQ1 K) := zgo [(11, [true, true, true, true, false, false]), (22, [true, true, true, true, true, true])] 400 h
set_option maxRecDepth 20000 in
theorem k_X12_repeat_22 (d : Nat) (l1 : Int) (l2 : Int) (l3 : Int) (l4 : Int) (l5 : Int) (μ : zM) (K : Int → zM → Prop) (h : (l5 ≥ l2 → (l4 = 0 → zJ (d + 1) m_X12_repeat 11 [some (zR 9 0), some (zI l1), some (zI l2), some (zI (w32 (l3 + 1))), none, none] μ (zQ1 K)) ∧ (¬ (l4 = 0) → K l3 μ)) ∧ (¬ (l5 ≥ l2) → (l4 = 0 → zJ (d + 1) m_X12_repeat 22 [some (zR 9 0), some (zI l1), some (zI l2), some (zI l3), some (zI 0), some (zI (w32 (l5 + 1)))] μ (zQ1 K)) ∧ (¬ (l4 = 0) → zC1 d m_X12_reads [zR 9 0, zI l1, zI l5] μ (fun x1 μ1 => l2 ≠ 0 ∧ zC1 d m_X12_reads [zR 9 0, zI l1, zI (Int.tmod (w32 (l5 + l3)) l2)] μ1 (fun x2 μ2 => (x1 ≠ x2 → zJ (d + 1) m_X12_repeat 22 [some (zR 9 0), some (zI l1), some (zI l2), some (zI l3), some (zI 0), some (zI (w32 (l5 + 1)))] μ2 (zQ1 K)) ∧ (¬ (x1 ≠ x2) → zJ (d + 1) m_X12_repeat 22 [some (zR 9 0), some (zI l1), some (zI l2), some (zI l3), some (zI 1), some (zI (w32 (l5 + 1)))] μ2 (zQ1 K))))))) : zJ (d + 1) m_X12_repeat 22 [some (zR 9 0), some (zI l1), some (zI l2), some (zI l3), some (zI l4), some (zI l5)] μ (zQ1 K) := zgo [(11, [true, true, true, true, false, false]), (22, [true, true, true, true, true, true])] 400 h
set_option maxRecDepth 20000 in
theorem k_X12_told (d : Nat) (a1 : Int) (μ : zM) (K : Int → zM → Prop) (h : ((a1 < 0 ∨ 13 < a1) → K ((-1000000002)) μ) ∧ (a1 = 0 → (0 ≤ (199 : Int) ∧ (199 : Int) < 200) ∧ (μ 33 0 199 ≠ 0 → (0 ≤ (0 : Int) ∧ (0 : Int) < 200) ∧ K (μ 33 0 0) μ) ∧ (¬ (μ 33 0 199 ≠ 0) → K ((-1)) μ)) ∧ (a1 = 1 → (0 ≤ a1 ∧ a1 < 200) ∧ K (μ 33 0 a1.toNat) μ) ∧ (a1 = 2 → (0 ≤ a1 ∧ a1 < 200) ∧ K (μ 33 0 a1.toNat) μ) ∧ (a1 = 3 → (0 ≤ a1 ∧ a1 < 200) ∧ K (μ 33 0 a1.toNat) μ) ∧ (a1 = 4 → K (μ 9 0 10) μ) ∧ (a1 = 5 → (0 ≤ (22 : Int) ∧ (22 : Int) < 44) ∧ K (μ 34 0 22) μ) ∧ (a1 = 6 → (0 ≤ (21 : Int) ∧ (21 : Int) < 44) ∧ K (μ 34 0 21) μ) ∧ (a1 = 7 → (0 ≤ (23 : Int) ∧ (23 : Int) < 44) ∧ K (μ 34 0 23) μ) ∧ (a1 = 8 → zC1 d m_X12_open [zR 9 0] μ (fun x1 μ1 => K x1 μ1)) ∧ (a1 = 9 → zC1 d m_X12_liftedInAll [zR 9 0] μ (fun x2 μ2 => K x2 μ2)) ∧ (a1 = 10 → zC1 d m_X12_mostRead [zR 9 0] μ (fun x3 μ3 => K x3 μ3)) ∧ (a1 = 11 → K (μ 9 0 13) μ) ∧ (a1 = 12 → K (μ 9 0 15) μ) ∧ (a1 = 13 → K (μ 9 0 5) μ) ∧ True) : zC1 (d + 1) m_X12_told [zR 9 0, zI a1] μ K := zgo [] 400 h
set_option maxRecDepth 20000 in
theorem k_X12_room (d : Nat) (a1 : Int) (a2 : Int) (μ : zM) (K : Int → zM → Prop) (h : zC1 d m_X12_isRoom [zR 9 0, zI a1] μ (fun x1 μ1 => (x1 ≠ 0 → ((a2 < 0 ∨ 4 < a2) → K ((-1000000002)) μ1) ∧ (a2 = 0 → (0 ≤ w32 (4 + a1) ∧ w32 (4 + a1) < 200) ∧ K (μ1 33 0 (w32 (4 + a1)).toNat) μ1) ∧ (a2 = 1 → (0 ≤ w32 (0 + a1) ∧ w32 (0 + a1) < 44) ∧ K (μ1 34 0 (w32 (0 + a1)).toNat) μ1) ∧ (a2 = 2 → zC1 d m_X12_key [zR 9 0, zI a1] μ1 (fun x2 μ2 => K x2 μ2)) ∧ (a2 = 3 → zC1 d m_X12_repeat [zR 9 0, zI a1] μ1 (fun x3 μ3 => K x3 μ3)) ∧ (a2 = 4 → (0 ≤ w32 (10 + a1) ∧ w32 (10 + a1) < 200) ∧ K (μ1 33 0 (w32 (10 + a1)).toNat) μ1) ∧ True) ∧ (¬ (x1 ≠ 0) → K ((-1000000001)) μ1))) : zC1 (d + 1) m_X12_room [zR 9 0, zI a1, zI a2] μ K := zgo [] 400 h
set_option maxRecDepth 20000 in
theorem k_X12_bar (d : Nat) (a1 : Int) (a2 : Int) (a3 : Int) (μ : zM) (K : Int → zM → Prop) (h : zC1 d m_X12_isBar [zR 9 0, zI a1, zI a2] μ (fun x1 μ1 => (x1 ≠ 0 → zC1 d m_X12_in [zL a3, zL 0, zL 2] μ1 (fun x2 μ2 => (x2 ≠ 0 → (a3 ≠ 2 → (a3 ≠ 1 → zC1 d m_X12_turned [zR 9 0, zI a1, zI a2, zI 0] μ2 (fun x3 μ3 => K x3 μ3)) ∧ (¬ (a3 ≠ 1) → zC1 d m_X12_turned [zR 9 0, zI a1, zI a2, zI 1] μ2 (fun x4 μ4 => K x4 μ4))) ∧ (¬ (a3 ≠ 2) → zC1 d m_X12_reads [zR 9 0, zI a1, zI a2] μ2 (fun x5 μ5 => K x5 μ5))) ∧ (¬ (x2 ≠ 0) → K ((-1000000002)) μ2))) ∧ (¬ (x1 ≠ 0) → K ((-1000000001)) μ1))) : zC1 (d + 1) m_X12_bar [zR 9 0, zI a1, zI a2, zI a3] μ K := zgo [] 400 h
set_option maxRecDepth 20000 in
theorem k_X12_person (d : Nat) (a1 : Int) (a2 : Int) (μ : zM) (K : Int → zM → Prop) (h : zC1 d m_X12_isPerson [zR 9 0, zI a1] μ (fun x1 μ1 => (x1 ≠ 0 → zC1 d m_X12_in [zL a2, zL 0, zL 3] μ1 (fun x2 μ2 => (x2 ≠ 0 → (a2 ≥ 3 → (0 ≤ w32 (6 + a1) ∧ w32 (6 + a1) < 44) ∧ (0 ≤ w32 (11 + a1) ∧ w32 (11 + a1) < 44) ∧ zC1 d m_X12_reads [zR 9 0, zI (μ2 34 0 (w32 (6 + a1)).toNat), zI (μ2 34 0 (w32 (11 + a1)).toNat)] μ2 (fun x3 μ3 => K x3 μ3)) ∧ (¬ (a2 ≥ 3) → (0 ≤ w32 ((w32 (6 + (w32 (5 * a2)))) + a1) ∧ w32 ((w32 (6 + (w32 (5 * a2)))) + a1) < 44) ∧ K (μ2 34 0 (w32 ((w32 (6 + (w32 (5 * a2)))) + a1)).toNat) μ2)) ∧ (¬ (x2 ≠ 0) → K ((-1000000002)) μ2))) ∧ (¬ (x1 ≠ 0) → K ((-1000000001)) μ1))) : zC1 (d + 1) m_X12_person [zR 9 0, zI a1, zI a2] μ K := zgo [] 400 h
set_option maxRecDepth 20000 in
theorem k_X12_wall (d : Nat) (a1 : Int) (a2 : Int) (μ : zM) (K : Int → zM → Prop) (h : (0 ≤ (3 : Int) ∧ (3 : Int) < 200) ∧ zC1 d m_X12_in [zL a1, zL 0, zL (w32 ((μ 33 0 3) - 1))] μ (fun x1 μ1 => (x1 ≠ 0 → zC1 d m_X12_in [zL a2, zL 0, zL 3] μ1 (fun x2 μ2 => (x2 = 0 → K ((-1000000002)) μ2) ∧ (¬ (x2 = 0) → (0 ≤ w32 ((w32 (175 + (w32 (6 * a2)))) + a1) ∧ w32 ((w32 (175 + (w32 (6 * a2)))) + a1) < 200) ∧ K (μ2 33 0 (w32 ((w32 (175 + (w32 (6 * a2)))) + a1)).toNat) μ2))) ∧ (¬ (x1 ≠ 0) → K ((-1000000001)) μ1))) : zC1 (d + 1) m_X12_wall [zR 9 0, zI a1, zI a2] μ K := zgo [] 400 h
set_option maxRecDepth 20000 in
theorem k_X12_logged (d : Nat) (a1 : Int) (a2 : Int) (μ : zM) (K : Int → zM → Prop) (h : zC1 d m_X12_in [zL a2, zL 0, zL 2] μ (fun x1 μ1 => (x1 ≠ 0 → (0 ≤ (23 : Int) ∧ (23 : Int) < 44) ∧ zC1 d m_X12_in [zL a1, zL 0, zL (w32 ((μ1 34 0 23) - 1))] μ1 (fun x2 μ2 => (x2 ≠ 0 → (0 ≤ (23 : Int) ∧ (23 : Int) < 44) ∧ (0 ≤ w32 ((w32 ((w32 (24 + (μ2 34 0 23))) - 1)) - a1) ∧ w32 ((w32 ((w32 (24 + (μ2 34 0 23))) - 1)) - a1) < 44) ∧ (a2 ≠ 0 → (a2 ≠ 1 → (10 : Int) ≠ 0 ∧ K (Int.tmod (μ2 34 0 (w32 ((w32 ((w32 (24 + (μ2 34 0 23))) - 1)) - a1)).toNat) 10) μ2) ∧ (¬ (a2 ≠ 1) → (10 : Int) ≠ 0 ∧ (10 : Int) ≠ 0 ∧ K (Int.tmod (w32 (Int.tdiv (μ2 34 0 (w32 ((w32 ((w32 (24 + (μ2 34 0 23))) - 1)) - a1)).toNat) 10)) 10) μ2)) ∧ (¬ (a2 ≠ 0) → (100 : Int) ≠ 0 ∧ K (w32 (Int.tdiv (μ2 34 0 (w32 ((w32 ((w32 (24 + (μ2 34 0 23))) - 1)) - a1)).toNat) 100)) μ2)) ∧ (¬ (x2 ≠ 0) → K ((-1)) μ2))) ∧ (¬ (x1 ≠ 0) → K ((-1000000002)) μ1))) : zC1 (d + 1) m_X12_logged [zR 9 0, zI a1, zI a2] μ K := zgo [] 400 h
set_option maxRecDepth 20000 in
theorem k_X12_walks_t34 (d : Nat) (j1 : Nat) (a2 : Int) (μ : zM) (K : zM → Prop) (h : (0 ≤ w32 (6 + a2) ∧ w32 (6 + a2) < 44) ∧ zJ (d + 1) m_X12_walks 10 [some (zR 9 0), some (zR 34 j1), some (zI a2), some (zI (μ 34 j1 (w32 (6 + a2)).toNat)), some (zI 0)] μ (zQ0 K)) : zC0 (d + 1) m_X12_walks [zR 9 0, zR 34 j1, zI a2] μ K := zgo [(10, [true, true, true, true, true])] 400 h
set_option maxRecDepth 20000 in
theorem k_X12_walks_t34_10 (d : Nat) (l1 : Nat) (l2 : Int) (l3 : Int) (l4 : Int) (μ : zM) (K : zM → Prop) (h : (0 ≤ w32 (16 + l2) ∧ w32 (16 + l2) < 44) ∧ (l4 ≥ μ 34 l1 (w32 (16 + l2)).toNat → K μ) ∧ (¬ (l4 ≥ μ 34 l1 (w32 (16 + l2)).toNat) → (0 ≤ w32 (11 + l2) ∧ w32 (11 + l2) < 44) ∧ (0 ≤ w32 (4 + l3) ∧ w32 (4 + l3) < 200) ∧ μ 33 0 (w32 (4 + l3)).toNat ≠ 0 ∧ (0 ≤ w32 (11 + l2) ∧ w32 (11 + l2) < 44) ∧ (0 ≤ w32 (11 + l2) ∧ w32 (11 + l2) < 44) ∧ zC1 d m_X12_readsOn [zR 9 0, zR 34 l1, zI l3, zI ((zset μ 34 l1 (w32 (11 + l2)).toNat (Int.tmod (w32 ((μ 34 l1 (w32 (11 + l2)).toNat) + 1)) (μ 33 0 (w32 (4 + l3)).toNat))) 34 l1 (w32 (11 + l2)).toNat)] (zset μ 34 l1 (w32 (11 + l2)).toNat (Int.tmod (w32 ((μ 34 l1 (w32 (11 + l2)).toNat) + 1)) (μ 33 0 (w32 (4 + l3)).toNat))) (fun x1 μ1 => (x1 ≠ 0 → zJ (d + 1) m_X12_walks 10 [some (zR 9 0), some (zR 34 l1), some (zI l2), some (zI l3), some (zI (w32 (l4 + 1)))] μ1 (zQ0 K)) ∧ (¬ (x1 ≠ 0) → K μ1)))) : zJ (d + 1) m_X12_walks 10 [some (zR 9 0), some (zR 34 l1), some (zI l2), some (zI l3), some (zI l4)] μ (zQ0 K) := zgo [(10, [true, true, true, true, true])] 400 h
set_option maxRecDepth 20000 in
theorem k_X12_logs_t34 (d : Nat) (j0 : Nat) (a1 : Int) (μ : zM) (K : zM → Prop) (h : (0 ≤ (21 : Int) ∧ (21 : Int) < 44) ∧ zC1 d m_X12_lesser [zI 999999, zI (w32 ((μ 34 j0 21) + 1))] μ (fun x1 μ1 => (0 ≤ (21 : Int) ∧ (21 : Int) < 44) ∧ (0 ≤ (23 : Int) ∧ (23 : Int) < 44) ∧ ((zset μ1 34 j0 21 x1) 34 j0 23 ≠ 20 → (0 ≤ (23 : Int) ∧ (23 : Int) < 44) ∧ (0 ≤ w32 (24 + ((zset μ1 34 j0 21 x1) 34 j0 23)) ∧ w32 (24 + ((zset μ1 34 j0 21 x1) 34 j0 23)) < 44) ∧ (0 ≤ (23 : Int) ∧ (23 : Int) < 44) ∧ (0 ≤ (23 : Int) ∧ (23 : Int) < 44) ∧ K (zset (zset (zset μ1 34 j0 21 x1) 34 j0 (w32 (24 + ((zset μ1 34 j0 21 x1) 34 j0 23))).toNat a1) 34 j0 23 (w32 (((zset (zset μ1 34 j0 21 x1) 34 j0 (w32 (24 + ((zset μ1 34 j0 21 x1) 34 j0 23))).toNat a1) 34 j0 23) + 1)))) ∧ (¬ ((zset μ1 34 j0 21 x1) 34 j0 23 ≠ 20) → zJ (d + 1) m_X12_logs 26 [some (zR 34 j0), some (zI a1), some (zI 0)] (zset μ1 34 j0 21 x1) (zQ0 K)))) : zC0 (d + 1) m_X12_logs [zR 34 j0, zI a1] μ K := zgo [(26, [true, true, true])] 400 h
set_option maxRecDepth 20000 in
theorem k_X12_logs_t34_26 (d : Nat) (l0 : Nat) (l1 : Int) (l2 : Int) (μ : zM) (K : zM → Prop) (h : (l2 ≥ 19 → (0 ≤ (23 : Int) ∧ (23 : Int) < 44) ∧ (0 ≤ (23 : Int) ∧ (23 : Int) < 44) ∧ (0 ≤ (23 : Int) ∧ (23 : Int) < 44) ∧ (0 ≤ w32 (24 + ((zset μ 34 l0 23 (w32 ((μ 34 l0 23) - 1))) 34 l0 23)) ∧ w32 (24 + ((zset μ 34 l0 23 (w32 ((μ 34 l0 23) - 1))) 34 l0 23)) < 44) ∧ (0 ≤ (23 : Int) ∧ (23 : Int) < 44) ∧ (0 ≤ (23 : Int) ∧ (23 : Int) < 44) ∧ K (zset (zset (zset μ 34 l0 23 (w32 ((μ 34 l0 23) - 1))) 34 l0 (w32 (24 + ((zset μ 34 l0 23 (w32 ((μ 34 l0 23) - 1))) 34 l0 23))).toNat l1) 34 l0 23 (w32 (((zset (zset μ 34 l0 23 (w32 ((μ 34 l0 23) - 1))) 34 l0 (w32 (24 + ((zset μ 34 l0 23 (w32 ((μ 34 l0 23) - 1))) 34 l0 23))).toNat l1) 34 l0 23) + 1)))) ∧ (¬ (l2 ≥ 19) → (0 ≤ w32 ((w32 (24 + l2)) + 1) ∧ w32 ((w32 (24 + l2)) + 1) < 44) ∧ (0 ≤ w32 (24 + l2) ∧ w32 (24 + l2) < 44) ∧ zJ (d + 1) m_X12_logs 26 [some (zR 34 l0), some (zI l1), some (zI (w32 (l2 + 1)))] (zset μ 34 l0 (w32 (24 + l2)).toNat (μ 34 l0 (w32 ((w32 (24 + l2)) + 1)).toNat)) (zQ0 K))) : zJ (d + 1) m_X12_logs 26 [some (zR 34 l0), some (zI l1), some (zI l2)] μ (zQ0 K) := zgo [(26, [true, true, true])] 400 h
set_option maxRecDepth 20000 in
theorem k_X12_isAt_t34 (d : Nat) (j1 : Nat) (a2 : Int) (a3 : Int) (a4 : Int) (μ : zM) (K : Int → zM → Prop) (h : (0 ≤ w32 (6 + a2) ∧ w32 (6 + a2) < 44) ∧ (μ 34 j1 (w32 (6 + a2)).toNat ≠ a3 → ((0 : Int) = 0 ∨ (0 : Int) = 1) ∧ K 0 μ) ∧ (¬ (μ 34 j1 (w32 (6 + a2)).toNat ≠ a3) → (0 ≤ w32 (11 + a2) ∧ w32 (11 + a2) < 44) ∧ (μ 34 j1 (w32 (11 + a2)).toNat ≠ a4 → ((0 : Int) = 0 ∨ (0 : Int) = 1) ∧ K 0 μ) ∧ (¬ (μ 34 j1 (w32 (11 + a2)).toNat ≠ a4) → ((1 : Int) = 0 ∨ (1 : Int) = 1) ∧ K 1 μ))) : zC1 d m_X12_isAt [zR 9 0, zR 34 j1, zI a2, zI a3, zI a4] μ K := zgo [] 400 h
set_option maxRecDepth 20000 in
theorem k_X12_meetings_t34 (d : Nat) (j1 : Nat) (a2 : Int) (μ : zM) (K : Int → zM → Prop) (h : ((0 : Int) = 0 ∨ (0 : Int) = 1) ∧ zJ (d + 1) m_X12_meetings 10 [some (zR 9 0), some (zR 34 j1), some (zI a2), some (zI 0), some (zI 0), none, none] (zset μ 9 0 24 0) (zQ1 K)) : zC1 (d + 1) m_X12_meetings [zR 9 0, zR 34 j1, zI a2] μ K := zgo [(10, [true, true, true, true, true, false, false]), (24, [true, true, true, true, true, true, false]), (38, [true, true, true, true, true, true, true])] 400 h
set_option maxRecDepth 20000 in
theorem k_X12_meetings_t34_10 (d : Nat) (l1 : Nat) (l2 : Int) (l3 : Int) (l4 : Int) (μ : zM) (K : Int → zM → Prop) (h : (0 ≤ (3 : Int) ∧ (3 : Int) < 200) ∧ (l4 ≥ μ 33 0 3 → K l3 μ) ∧ (¬ (l4 ≥ μ 33 0 3) → zJ (d + 1) m_X12_meetings 24 [some (zR 9 0), some (zR 34 l1), some (zI l2), some (zI l3), some (zI l4), some (zI 0), none] μ (zQ1 K))) : zJ (d + 1) m_X12_meetings 10 [some (zR 9 0), some (zR 34 l1), some (zI l2), some (zI l3), some (zI l4), none, none] μ (zQ1 K) := zgo [(10, [true, true, true, true, true, false, false]), (24, [true, true, true, true, true, true, false]), (38, [true, true, true, true, true, true, true])] 400 h
set_option maxRecDepth 20000 in
theorem k_X12_meetings_t34_24 (d : Nat) (l1 : Nat) (l2 : Int) (l3 : Int) (l4 : Int) (l5 : Int) (μ : zM) (K : Int → zM → Prop) (h : (0 ≤ (2 : Int) ∧ (2 : Int) < 200) ∧ (l5 ≥ μ 33 0 2 → zJ (d + 1) m_X12_meetings 10 [some (zR 9 0), some (zR 34 l1), some (zI l2), some (zI l3), some (zI (w32 (l4 + 1))), none, none] μ (zQ1 K)) ∧ (¬ (l5 ≥ μ 33 0 2) → zJ (d + 1) m_X12_meetings 38 [some (zR 9 0), some (zR 34 l1), some (zI l2), some (zI l3), some (zI l4), some (zI l5), some (zI 0)] μ (zQ1 K))) : zJ (d + 1) m_X12_meetings 24 [some (zR 9 0), some (zR 34 l1), some (zI l2), some (zI l3), some (zI l4), some (zI l5), none] μ (zQ1 K) := zgo [(10, [true, true, true, true, true, false, false]), (24, [true, true, true, true, true, true, false]), (38, [true, true, true, true, true, true, true])] 400 h
set_option maxRecDepth 20000 in
theorem k_X12_meetings_t34_38 (d : Nat) (l1 : Nat) (l2 : Int) (l3 : Int) (l4 : Int) (l5 : Int) (l6 : Int) (μ : zM) (K : Int → zM → Prop) (h : (0 ≤ (2 : Int) ∧ (2 : Int) < 200) ∧ (l6 ≥ μ 33 0 2 → zJ (d + 1) m_X12_meetings 24 [some (zR 9 0), some (zR 34 l1), some (zI l2), some (zI l3), some (zI l4), some (zI (w32 (l5 + 1))), none] μ (zQ1 K)) ∧ (¬ (l6 ≥ μ 33 0 2) → (0 ≤ w32 (175 + l4) ∧ w32 (175 + l4) < 200) ∧ (0 ≤ w32 (181 + l4) ∧ w32 (181 + l4) < 200) ∧ zC1 d m_X12_isAt [zR 9 0, zR 34 l1, zI l5, zI (μ 33 0 (w32 (175 + l4)).toNat), zI (μ 33 0 (w32 (181 + l4)).toNat)] μ (fun x1 μ1 => (x1 = 0 → zJ (d + 1) m_X12_meetings 38 [some (zR 9 0), some (zR 34 l1), some (zI l2), some (zI l3), some (zI l4), some (zI l5), some (zI (w32 (l6 + 1)))] μ1 (zQ1 K)) ∧ (¬ (x1 = 0) → (0 ≤ w32 (187 + l4) ∧ w32 (187 + l4) < 200) ∧ (0 ≤ w32 (193 + l4) ∧ w32 (193 + l4) < 200) ∧ zC1 d m_X12_isAt [zR 9 0, zR 34 l1, zI l6, zI (μ1 33 0 (w32 (187 + l4)).toNat), zI (μ1 33 0 (w32 (193 + l4)).toNat)] μ1 (fun x2 μ2 => (x2 = 0 → zJ (d + 1) m_X12_meetings 38 [some (zR 9 0), some (zR 34 l1), some (zI l2), some (zI l3), some (zI l4), some (zI l5), some (zI (w32 (l6 + 1)))] μ2 (zQ1 K)) ∧ (¬ (x2 = 0) → zC0 d m_X12_logs [zR 34 l1, zI (w32 ((w32 ((w32 (100 * l4)) + (w32 (10 * l5)))) + l6))] μ2 (fun μ3 => (μ3 9 0 24 ≠ 0 → ((1 : Int) = 0 ∨ (1 : Int) = 1) ∧ zJ (d + 1) m_X12_meetings 38 [some (zR 9 0), some (zR 34 l1), some (zI l2), some (zI (w32 (l3 + 1))), some (zI l4), some (zI l5), some (zI (w32 (l6 + 1)))] (zset μ3 9 0 24 1) (zQ1 K)) ∧ (¬ (μ3 9 0 24 ≠ 0) → (w32 ((w32 (10 * l5)) + l6) = l2 → ((1 : Int) = 0 ∨ (1 : Int) = 1) ∧ zJ (d + 1) m_X12_meetings 38 [some (zR 9 0), some (zR 34 l1), some (zI l2), some (zI (w32 (l3 + 1))), some (zI l4), some (zI l5), some (zI (w32 (l6 + 1)))] (zset μ3 9 0 24 1) (zQ1 K)) ∧ (¬ (w32 ((w32 (10 * l5)) + l6) = l2) → (w32 ((w32 (10 * l6)) + l5) ≠ l2 → ((0 : Int) = 0 ∨ (0 : Int) = 1) ∧ zJ (d + 1) m_X12_meetings 38 [some (zR 9 0), some (zR 34 l1), some (zI l2), some (zI (w32 (l3 + 1))), some (zI l4), some (zI l5), some (zI (w32 (l6 + 1)))] (zset μ3 9 0 24 0) (zQ1 K)) ∧ (¬ (w32 ((w32 (10 * l6)) + l5) ≠ l2) → ((1 : Int) = 0 ∨ (1 : Int) = 1) ∧ zJ (d + 1) m_X12_meetings 38 [some (zR 9 0), some (zR 34 l1), some (zI l2), some (zI (w32 (l3 + 1))), some (zI l4), some (zI l5), some (zI (w32 (l6 + 1)))] (zset μ3 9 0 24 1) (zQ1 K))))))))))) : zJ (d + 1) m_X12_meetings 38 [some (zR 9 0), some (zR 34 l1), some (zI l2), some (zI l3), some (zI l4), some (zI l5), some (zI l6)] μ (zQ1 K) := zgo [(10, [true, true, true, true, true, false, false]), (24, [true, true, true, true, true, true, false]), (38, [true, true, true, true, true, true, true])] 400 h
set_option maxRecDepth 20000 in
theorem k_X12_hourGoes_t34 (d : Nat) (j1 : Nat) (a2 : Int) (μ : zM) (K : Int → zM → Prop) (h : zJ (d + 1) m_X12_hourGoes 2 [some (zR 9 0), some (zR 34 j1), some (zI a2), some (zI 0), none, none] μ (zQ1 K)) : zC1 (d + 1) m_X12_hourGoes [zR 9 0, zR 34 j1, zI a2] μ K := zgo [(2, [true, true, true, true, false, false])] 400 h
set_option maxRecDepth 20000 in
theorem k_X12_hourGoes_t34_2 (d : Nat) (l1 : Nat) (l2 : Int) (l3 : Int) (μ : zM) (K : Int → zM → Prop) (h : (0 ≤ (2 : Int) ∧ (2 : Int) < 200) ∧ (l3 ≥ μ 33 0 2 → zC1 d m_X12_meetings [zR 9 0, zR 34 l1, zI l2] μ (fun x1 μ1 => (0 ≤ (22 : Int) ∧ (22 : Int) < 44) ∧ (0 ≤ (22 : Int) ∧ (22 : Int) < 44) ∧ (0 ≤ (0 : Int) ∧ (0 : Int) < 200) ∧ ((zset μ1 34 l1 22 (w32 ((μ1 34 l1 22) + 1))) 33 0 0 = 0 → K x1 (zset μ1 34 l1 22 (w32 ((μ1 34 l1 22) + 1)))) ∧ (¬ ((zset μ1 34 l1 22 (w32 ((μ1 34 l1 22) + 1))) 33 0 0 = 0) → (0 ≤ (22 : Int) ∧ (22 : Int) < 44) ∧ (0 ≤ (0 : Int) ∧ (0 : Int) < 200) ∧ (zset μ1 34 l1 22 (w32 ((μ1 34 l1 22) + 1))) 33 0 0 ≠ 0 ∧ (Int.tmod ((zset μ1 34 l1 22 (w32 ((μ1 34 l1 22) + 1))) 34 l1 22) ((zset μ1 34 l1 22 (w32 ((μ1 34 l1 22) + 1))) 33 0 0) ≠ 0 → K x1 (zset μ1 34 l1 22 (w32 ((μ1 34 l1 22) + 1)))) ∧ (¬ (Int.tmod ((zset μ1 34 l1 22 (w32 ((μ1 34 l1 22) + 1))) 34 l1 22) ((zset μ1 34 l1 22 (w32 ((μ1 34 l1 22) + 1))) 33 0 0) ≠ 0) → (0 ≤ (1 : Int) ∧ (1 : Int) < 200) ∧ ((zset μ1 34 l1 22 (w32 ((μ1 34 l1 22) + 1))) 33 0 1 ≤ 0 → K x1 (zset μ1 34 l1 22 (w32 ((μ1 34 l1 22) + 1)))) ∧ (¬ ((zset μ1 34 l1 22 (w32 ((μ1 34 l1 22) + 1))) 33 0 1 ≤ 0) → (0 ≤ (22 : Int) ∧ (22 : Int) < 44) ∧ (0 ≤ (0 : Int) ∧ (0 : Int) < 200) ∧ (zset μ1 34 l1 22 (w32 ((μ1 34 l1 22) + 1))) 33 0 0 ≠ 0 ∧ (0 ≤ (1 : Int) ∧ (1 : Int) < 200) ∧ (zset μ1 34 l1 22 (w32 ((μ1 34 l1 22) + 1))) 33 0 1 ≠ 0 ∧ (0 ≤ w32 (0 + (Int.tmod (w32 ((w32 (Int.tdiv ((zset μ1 34 l1 22 (w32 ((μ1 34 l1 22) + 1))) 34 l1 22) ((zset μ1 34 l1 22 (w32 ((μ1 34 l1 22) + 1))) 33 0 0))) - 1)) ((zset μ1 34 l1 22 (w32 ((μ1 34 l1 22) + 1))) 33 0 1))) ∧ w32 (0 + (Int.tmod (w32 ((w32 (Int.tdiv ((zset μ1 34 l1 22 (w32 ((μ1 34 l1 22) + 1))) 34 l1 22) ((zset μ1 34 l1 22 (w32 ((μ1 34 l1 22) + 1))) 33 0 0))) - 1)) ((zset μ1 34 l1 22 (w32 ((μ1 34 l1 22) + 1))) 33 0 1))) < 44) ∧ (0 ≤ (1 : Int) ∧ (1 : Int) < 200) ∧ (zset μ1 34 l1 22 (w32 ((μ1 34 l1 22) + 1))) 33 0 1 ≠ 0 ∧ (0 ≤ w32 (4 + (Int.tmod (w32 ((w32 (Int.tdiv ((zset μ1 34 l1 22 (w32 ((μ1 34 l1 22) + 1))) 34 l1 22) ((zset μ1 34 l1 22 (w32 ((μ1 34 l1 22) + 1))) 33 0 0))) - 1)) ((zset μ1 34 l1 22 (w32 ((μ1 34 l1 22) + 1))) 33 0 1))) ∧ w32 (4 + (Int.tmod (w32 ((w32 (Int.tdiv ((zset μ1 34 l1 22 (w32 ((μ1 34 l1 22) + 1))) 34 l1 22) ((zset μ1 34 l1 22 (w32 ((μ1 34 l1 22) + 1))) 33 0 0))) - 1)) ((zset μ1 34 l1 22 (w32 ((μ1 34 l1 22) + 1))) 33 0 1))) < 200) ∧ (zset μ1 34 l1 22 (w32 ((μ1 34 l1 22) + 1))) 33 0 (w32 (4 + (Int.tmod (w32 ((w32 (Int.tdiv ((zset μ1 34 l1 22 (w32 ((μ1 34 l1 22) + 1))) 34 l1 22) ((zset μ1 34 l1 22 (w32 ((μ1 34 l1 22) + 1))) 33 0 0))) - 1)) ((zset μ1 34 l1 22 (w32 ((μ1 34 l1 22) + 1))) 33 0 1)))).toNat ≠ 0 ∧ (0 ≤ w32 (0 + (Int.tmod (w32 ((w32 (Int.tdiv ((zset μ1 34 l1 22 (w32 ((μ1 34 l1 22) + 1))) 34 l1 22) ((zset μ1 34 l1 22 (w32 ((μ1 34 l1 22) + 1))) 33 0 0))) - 1)) ((zset μ1 34 l1 22 (w32 ((μ1 34 l1 22) + 1))) 33 0 1))) ∧ w32 (0 + (Int.tmod (w32 ((w32 (Int.tdiv ((zset μ1 34 l1 22 (w32 ((μ1 34 l1 22) + 1))) 34 l1 22) ((zset μ1 34 l1 22 (w32 ((μ1 34 l1 22) + 1))) 33 0 0))) - 1)) ((zset μ1 34 l1 22 (w32 ((μ1 34 l1 22) + 1))) 33 0 1))) < 44) ∧ K x1 (zset (zset μ1 34 l1 22 (w32 ((μ1 34 l1 22) + 1))) 34 l1 (w32 (0 + (Int.tmod (w32 ((w32 (Int.tdiv ((zset μ1 34 l1 22 (w32 ((μ1 34 l1 22) + 1))) 34 l1 22) ((zset μ1 34 l1 22 (w32 ((μ1 34 l1 22) + 1))) 33 0 0))) - 1)) ((zset μ1 34 l1 22 (w32 ((μ1 34 l1 22) + 1))) 33 0 1)))).toNat (zor ((zset μ1 34 l1 22 (w32 ((μ1 34 l1 22) + 1))) 34 l1 (w32 (0 + (Int.tmod (w32 ((w32 (Int.tdiv ((zset μ1 34 l1 22 (w32 ((μ1 34 l1 22) + 1))) 34 l1 22) ((zset μ1 34 l1 22 (w32 ((μ1 34 l1 22) + 1))) 33 0 0))) - 1)) ((zset μ1 34 l1 22 (w32 ((μ1 34 l1 22) + 1))) 33 0 1)))).toNat) (zshl 1 (Int.tmod (w32 (Int.tdiv (w32 ((w32 (Int.tdiv ((zset μ1 34 l1 22 (w32 ((μ1 34 l1 22) + 1))) 34 l1 22) ((zset μ1 34 l1 22 (w32 ((μ1 34 l1 22) + 1))) 33 0 0))) - 1)) ((zset μ1 34 l1 22 (w32 ((μ1 34 l1 22) + 1))) 33 0 1))) ((zset μ1 34 l1 22 (w32 ((μ1 34 l1 22) + 1))) 33 0 (w32 (4 + (Int.tmod (w32 ((w32 (Int.tdiv ((zset μ1 34 l1 22 (w32 ((μ1 34 l1 22) + 1))) 34 l1 22) ((zset μ1 34 l1 22 (w32 ((μ1 34 l1 22) + 1))) 33 0 0))) - 1)) ((zset μ1 34 l1 22 (w32 ((μ1 34 l1 22) + 1))) 33 0 1)))).toNat)))))))))) ∧ (¬ (l3 ≥ μ 33 0 2) → zC0 d m_X12_walks [zR 9 0, zR 34 l1, zI l3] μ (fun μ2 => zJ (d + 1) m_X12_hourGoes 2 [some (zR 9 0), some (zR 34 l1), some (zI l2), some (zI (w32 (l3 + 1))), none, none] μ2 (zQ1 K)))) : zJ (d + 1) m_X12_hourGoes 2 [some (zR 9 0), some (zR 34 l1), some (zI l2), some (zI l3), none, none] μ (zQ1 K) := zgo [(2, [true, true, true, true, false, false])] 400 h
set_option maxRecDepth 20000 in
theorem k_X12_remember (d : Nat)  (μ : zM) (K : zM → Prop) (h : (μ 9 0 5 ≠ 30 → zC0 d m_X12_copies [zR 34 0, zI 0, zR 35 0, zI (w32 (44 * (μ 9 0 5))), zI 44] μ (fun μ1 => K (zset μ1 9 0 5 (w32 ((μ1 9 0 5) + 1))))) ∧ (¬ (μ 9 0 5 ≠ 30) → zJ (d + 1) m_X12_remember 11 [some (zR 9 0), some (zI 0)] μ (zQ0 K))) : zC0 (d + 1) m_X12_remember [zR 9 0] μ K := zgo [(11, [true, true])] 400 h
set_option maxRecDepth 20000 in
theorem k_X12_remember_11 (d : Nat) (l1 : Int) (μ : zM) (K : zM → Prop) (h : (l1 ≥ 1276 → zC0 d m_X12_copies [zR 34 0, zI 0, zR 35 0, zI (w32 (44 * ((zset μ 9 0 5 (w32 ((μ 9 0 5) - 1))) 9 0 5))), zI 44] (zset μ 9 0 5 (w32 ((μ 9 0 5) - 1))) (fun μ1 => K (zset μ1 9 0 5 (w32 ((μ1 9 0 5) + 1))))) ∧ (¬ (l1 ≥ 1276) → (0 ≤ w32 (l1 + 44) ∧ w32 (l1 + 44) < 1320) ∧ (0 ≤ l1 ∧ l1 < 1320) ∧ zJ (d + 1) m_X12_remember 11 [some (zR 9 0), some (zI (w32 (l1 + 1)))] (zset μ 35 0 l1.toNat (μ 35 0 (w32 (l1 + 44)).toNat)) (zQ0 K))) : zJ (d + 1) m_X12_remember 11 [some (zR 9 0), some (zI l1)] μ (zQ0 K) := zgo [(11, [true, true])] 400 h
set_option maxRecDepth 20000 in
theorem k_X12_refuses (d : Nat) (a1 : Int) (μ : zM) (K : Int → zM → Prop) (h : zC1 d m_X12_in [zL a1, zL 1, zL 30] μ (fun x1 μ1 => (x1 ≠ 0 → (0 ≤ (199 : Int) ∧ (199 : Int) < 200) ∧ (μ1 33 0 199 ≠ 0 → (0 ≤ (22 : Int) ∧ (22 : Int) < 44) ∧ (μ1 34 0 22 ≤ 90000 → K 0 μ1) ∧ (¬ (μ1 34 0 22 ≤ 90000) → K ((-1000000004)) μ1)) ∧ (¬ (μ1 33 0 199 ≠ 0) → K ((-1000000003)) μ1)) ∧ (¬ (x1 ≠ 0) → K ((-1000000002)) μ1))) : zC1 (d + 1) m_X12_refuses [zR 9 0, zI a1] μ K := zgo [] 400 h
set_option maxRecDepth 20000 in
theorem k_X12_hour (d : Nat) (a1 : Int) (μ : zM) (K : Int → zM → Prop) (h : zC1 d m_X12_refuses [zR 9 0, zI a1] μ (fun x1 μ1 => (x1 = 0 → zJ (d + 1) m_X12_hour 14 [some (zR 9 0), some (zI a1), none, some (zI 0), none] μ1 (zQ1 K)) ∧ (¬ (x1 = 0) → K x1 μ1))) : zC1 (d + 1) m_X12_hour [zR 9 0, zI a1] μ K := zgo [(14, [true, true, false, true, false])] 400 h
set_option maxRecDepth 20000 in
theorem k_X12_hour_14 (d : Nat) (l1 : Int) (l3 : Int) (μ : zM) (K : Int → zM → Prop) (h : (l3 ≥ l1 → (0 ≤ (21 : Int) ∧ (21 : Int) < 44) ∧ K (μ 34 0 21) μ) ∧ (¬ (l3 ≥ l1) → zC0 d m_X12_remember [zR 9 0] μ (fun μ1 => zC1 d m_X12_hourGoes [zR 9 0, zR 34 0, zI ((-1))] μ1 (fun x2 μ2 => zJ (d + 1) m_X12_hour 14 [some (zR 9 0), some (zI l1), none, some (zI (w32 (l3 + 1))), none] μ2 (zQ1 K))))) : zJ (d + 1) m_X12_hour 14 [some (zR 9 0), some (zI l1), none, some (zI l3), none] μ (zQ1 K) := zgo [(14, [true, true, false, true, false])] 400 h
set_option maxRecDepth 20000 in
theorem k_X12_lift (d : Nat) (a1 : Int) (a2 : Int) (μ : zM) (K : Int → zM → Prop) (h : zC1 d m_X12_isBar [zR 9 0, zI a1, zI a2] μ (fun x1 μ1 => (x1 ≠ 0 → (0 ≤ w32 (0 + a1) ∧ w32 (0 + a1) < 44) ∧ zC1 d m_X12_has [zI (μ1 34 0 (w32 (0 + a1)).toNat), zI a2] μ1 (fun x2 μ2 => (x2 = 0 → zC0 d m_X12_remember [zR 9 0] μ2 (fun μ3 => (0 ≤ w32 (0 + a1) ∧ w32 (0 + a1) < 44) ∧ (0 ≤ w32 (0 + a1) ∧ w32 (0 + a1) < 44) ∧ zC1 d m_X12_reads [zR 9 0, zI a1, zI a2] (zset μ3 34 0 (w32 (0 + a1)).toNat (zor (μ3 34 0 (w32 (0 + a1)).toNat) (zshl 1 a2))) (fun x4 μ4 => K x4 μ4))) ∧ (¬ (x2 = 0) → K ((-1000000003)) μ2))) ∧ (¬ (x1 ≠ 0) → K ((-1000000001)) μ1))) : zC1 (d + 1) m_X12_lift [zR 9 0, zI a1, zI a2] μ K := zgo [] 400 h
set_option maxRecDepth 20000 in
theorem k_X12_paste (d : Nat) (a1 : Int) (a2 : Int) (μ : zM) (K : Int → zM → Prop) (h : zC1 d m_X12_isBar [zR 9 0, zI a1, zI a2] μ (fun x1 μ1 => (x1 ≠ 0 → (0 ≤ w32 (0 + a1) ∧ w32 (0 + a1) < 44) ∧ zC1 d m_X12_has [zI (μ1 34 0 (w32 (0 + a1)).toNat), zI a2] μ1 (fun x2 μ2 => (x2 ≠ 0 → zC0 d m_X12_remember [zR 9 0] μ2 (fun μ3 => (0 ≤ w32 (0 + a1) ∧ w32 (0 + a1) < 44) ∧ (0 ≤ w32 (0 + a1) ∧ w32 (0 + a1) < 44) ∧ zC1 d m_X12_reads [zR 9 0, zI a1, zI a2] (zset μ3 34 0 (w32 (0 + a1)).toNat (zand (μ3 34 0 (w32 (0 + a1)).toNat) (zxor (zshl 1 a2) ((-1))))) (fun x4 μ4 => K x4 μ4))) ∧ (¬ (x2 ≠ 0) → K ((-1000000003)) μ2))) ∧ (¬ (x1 ≠ 0) → K ((-1000000001)) μ1))) : zC1 (d + 1) m_X12_paste [zR 9 0, zI a1, zI a2] μ K := zgo [] 400 h
set_option maxRecDepth 20000 in
theorem k_X12_moveTo (d : Nat) (a1 : Int) (a2 : Int) (μ : zM) (K : Int → zM → Prop) (h : zC1 d m_X12_isPerson [zR 9 0, zI a1] μ (fun x1 μ1 => (x1 = 0 → K ((-1000000001)) μ1) ∧ (¬ (x1 = 0) → zC1 d m_X12_isRoom [zR 9 0, zI a2] μ1 (fun x2 μ2 => (x2 ≠ 0 → (0 ≤ w32 (6 + a1) ∧ w32 (6 + a1) < 44) ∧ (0 ≤ w32 (11 + a1) ∧ w32 (11 + a1) < 44) ∧ zC1 d m_X12_reads [zR 9 0, zI (μ2 34 0 (w32 (6 + a1)).toNat), zI (μ2 34 0 (w32 (11 + a1)).toNat)] μ2 (fun x3 μ3 => zJ (d + 1) m_X12_moveTo 45 [some (zR 9 0), some (zI a1), some (zI a2), some (zI x3), some (zI 0)] μ3 (zQ1 K))) ∧ (¬ (x2 ≠ 0) → K ((-1000000001)) μ2))))) : zC1 (d + 1) m_X12_moveTo [zR 9 0, zI a1, zI a2] μ K := zgo [(45, [true, true, true, true, true])] 400 h
set_option maxRecDepth 20000 in
theorem k_X12_moveTo_45 (d : Nat) (l1 : Int) (l2 : Int) (l3 : Int) (l4 : Int) (μ : zM) (K : Int → zM → Prop) (h : (0 ≤ w32 (4 + l2) ∧ w32 (4 + l2) < 200) ∧ (l4 ≥ μ 33 0 (w32 (4 + l2)).toNat → K ((-1000000003)) μ) ∧ (¬ (l4 ≥ μ 33 0 (w32 (4 + l2)).toNat) → (0 ≤ w32 (6 + l1) ∧ w32 (6 + l1) < 44) ∧ (μ 34 0 (w32 (6 + l1)).toNat = l2 → K ((-1000000003)) μ) ∧ (¬ (μ 34 0 (w32 (6 + l1)).toNat = l2) → zC1 d m_X12_reads [zR 9 0, zI l2, zI l4] μ (fun x1 μ1 => (x1 ≠ l3 → zJ (d + 1) m_X12_moveTo 45 [some (zR 9 0), some (zI l1), some (zI l2), some (zI l3), some (zI (w32 (l4 + 1)))] μ1 (zQ1 K)) ∧ (¬ (x1 ≠ l3) → zC0 d m_X12_remember [zR 9 0] μ1 (fun μ2 => (0 ≤ w32 (6 + l1) ∧ w32 (6 + l1) < 44) ∧ (0 ≤ w32 (11 + l1) ∧ w32 (11 + l1) < 44) ∧ K l4 (zset (zset μ2 34 0 (w32 (6 + l1)).toNat l2) 34 0 (w32 (11 + l1)).toNat l4))))))) : zJ (d + 1) m_X12_moveTo 45 [some (zR 9 0), some (zI l1), some (zI l2), some (zI l3), some (zI l4)] μ (zQ1 K) := zgo [(45, [true, true, true, true, true])] 400 h
set_option maxRecDepth 20000 in
theorem k_X12_pace (d : Nat) (a1 : Int) (a2 : Int) (μ : zM) (K : Int → zM → Prop) (h : zC1 d m_X12_isPerson [zR 9 0, zI a1] μ (fun x1 μ1 => (x1 ≠ 0 → zC1 d m_X12_in [zL a2, zL 0, zL 9] μ1 (fun x2 μ2 => (x2 ≠ 0 → zC0 d m_X12_remember [zR 9 0] μ2 (fun μ3 => (0 ≤ w32 (16 + a1) ∧ w32 (16 + a1) < 44) ∧ (0 ≤ w32 (16 + a1) ∧ w32 (16 + a1) < 44) ∧ K (μ3 34 0 (w32 (16 + a1)).toNat) (zset μ3 34 0 (w32 (16 + a1)).toNat a2))) ∧ (¬ (x2 ≠ 0) → K ((-1000000002)) μ2))) ∧ (¬ (x1 ≠ 0) → K ((-1000000001)) μ1))) : zC1 (d + 1) m_X12_pace [zR 9 0, zI a1, zI a2] μ K := zgo [] 400 h
set_option maxRecDepth 20000 in
theorem k_X12_draw (d : Nat) (a1 : Int) (μ : zM) (K : Int → zM → Prop) (h : (2147483648 : Int) ≠ 0 ∧ (65536 : Int) ≠ 0 ∧ a1 ≠ 0 ∧ K (w32 (Int.tmod (w64 (Int.tdiv ((zset μ 9 0 8 (Int.tmod (w64 ((w64 ((μ 9 0 8) * 1103515245)) + 12345)) 2147483648)) 9 0 8) 65536)) a1)) (zset μ 9 0 8 (Int.tmod (w64 ((w64 ((μ 9 0 8) * 1103515245)) + 12345)) 2147483648))) : zC1 d m_X12_draw [zR 9 0, zI a1] μ K := zgo [] 400 h
set_option maxRecDepth 20000 in
theorem k_X12_draws (d : Nat)  (μ : zM) (K : zM → Prop) (h : zC1 d m_X12_draw [zR 9 0, zI 4] μ (fun x1 μ1 => (x1 ≠ 0 → (x1 ≠ 1 → K μ1) ∧ (¬ (x1 ≠ 1) → (0 ≤ (2 : Int) ∧ (2 : Int) < 200) ∧ (μ1 33 0 2 ≤ 0 → K μ1) ∧ (¬ (μ1 33 0 2 ≤ 0) → (0 ≤ (2 : Int) ∧ (2 : Int) < 200) ∧ zC1 d m_X12_draw [zR 9 0, zI (μ1 33 0 2)] μ1 (fun x2 μ2 => zC1 d m_X12_draw [zR 9 0, zI 10] μ2 (fun x3 μ3 => (0 ≤ w32 (16 + x2) ∧ w32 (16 + x2) < 44) ∧ K (zset μ3 34 0 (w32 (16 + x2)).toNat x3)))))) ∧ (¬ (x1 ≠ 0) → (0 ≤ (1 : Int) ∧ (1 : Int) < 200) ∧ zC1 d m_X12_draw [zR 9 0, zI (μ1 33 0 1)] μ1 (fun x4 μ4 => (0 ≤ w32 (0 + x4) ∧ w32 (0 + x4) < 44) ∧ (0 ≤ w32 (4 + x4) ∧ w32 (4 + x4) < 200) ∧ zC1 d m_X12_draw [zR 9 0, zI (μ4 33 0 (w32 (4 + x4)).toNat)] μ4 (fun x5 μ5 => (0 ≤ w32 (0 + x4) ∧ w32 (0 + x4) < 44) ∧ K (zset μ5 34 0 (w32 (0 + x4)).toNat (zxor (μ4 34 0 (w32 (0 + x4)).toNat) (zshl 1 x5)))))))) : zC0 (d + 1) m_X12_draws [zR 9 0] μ K := zgo [] 400 h
set_option maxRecDepth 20000 in
theorem k_X12_drift (d : Nat) (a1 : Int) (μ : zM) (K : Int → zM → Prop) (h : zC1 d m_X12_refuses [zR 9 0, zI a1] μ (fun x1 μ1 => (x1 = 0 → zJ (d + 1) m_X12_drift 14 [some (zR 9 0), some (zI a1), none, some (zI 0), none] μ1 (zQ1 K)) ∧ (¬ (x1 = 0) → K x1 μ1))) : zC1 (d + 1) m_X12_drift [zR 9 0, zI a1] μ K := zgo [(14, [true, true, false, true, false])] 400 h
set_option maxRecDepth 20000 in
theorem k_X12_drift_14 (d : Nat) (l1 : Int) (l3 : Int) (μ : zM) (K : Int → zM → Prop) (h : (l3 ≥ l1 → (0 ≤ (21 : Int) ∧ (21 : Int) < 44) ∧ K (μ 34 0 21) μ) ∧ (¬ (l3 ≥ l1) → zC0 d m_X12_remember [zR 9 0] μ (fun μ1 => (0 ≤ (1 : Int) ∧ (1 : Int) < 200) ∧ (μ1 33 0 1 ≤ 0 → zC1 d m_X12_hourGoes [zR 9 0, zR 34 0, zI ((-1))] μ1 (fun x2 μ2 => zJ (d + 1) m_X12_drift 14 [some (zR 9 0), some (zI l1), none, some (zI (w32 (l3 + 1))), none] μ2 (zQ1 K))) ∧ (¬ (μ1 33 0 1 ≤ 0) → zC0 d m_X12_draws [zR 9 0] μ1 (fun μ3 => zC1 d m_X12_hourGoes [zR 9 0, zR 34 0, zI ((-1))] μ3 (fun x4 μ4 => zJ (d + 1) m_X12_drift 14 [some (zR 9 0), some (zI l1), none, some (zI (w32 (l3 + 1))), none] μ4 (zQ1 K))))))) : zJ (d + 1) m_X12_drift 14 [some (zR 9 0), some (zI l1), none, some (zI l3), none] μ (zQ1 K) := zgo [(14, [true, true, false, true, false])] 400 h
set_option maxRecDepth 20000 in
theorem k_X12_undo (d : Nat) (a1 : Int) (μ : zM) (K : Int → zM → Prop) (h : zC1 d m_X12_in [zL a1, zL 1, zL 30] μ (fun x1 μ1 => (x1 ≠ 0 → (a1 ≤ μ1 9 0 5 → zC0 d m_X12_copies [zR 35 0, zI (w32 (44 * ((zset μ1 9 0 5 (w32 ((μ1 9 0 5) - a1))) 9 0 5))), zR 34 0, zI 0, zI 44] (zset μ1 9 0 5 (w32 ((μ1 9 0 5) - a1))) (fun μ2 => (0 ≤ (22 : Int) ∧ (22 : Int) < 44) ∧ K (μ2 34 0 22) μ2)) ∧ (¬ (a1 ≤ μ1 9 0 5) → K ((-1000000003)) μ1)) ∧ (¬ (x1 ≠ 0) → K ((-1000000002)) μ1))) : zC1 (d + 1) m_X12_undo [zR 9 0, zI a1] μ K := zgo [] 400 h
set_option maxRecDepth 20000 in
theorem k_X12_layAside (d : Nat)  (μ : zM) (K : zM → Prop) (h : zC0 d m_X12_copies [zR 34 0, zI 0, zR 34 1, zI 0, zI 44] μ (fun μ1 => K μ1)) : zC0 (d + 1) m_X12_layAside [zR 9 0] μ K := zgo [] 400 h
set_option maxRecDepth 20000 in
theorem k_X12_where (d : Nat) (a1 : Int) (a2 : Int) (μ : zM) (K : Int → zM → Prop) (h : zC1 d m_X12_isPerson [zR 9 0, zI a1] μ (fun x1 μ1 => (x1 ≠ 0 → zC1 d m_X12_in [zL a2, zL 0, zL 99] μ1 (fun x2 μ2 => (x2 ≠ 0 → zC0 d m_X12_layAside [zR 9 0] μ2 (fun μ3 => zJ (d + 1) m_X12_where 32 [some (zR 9 0), some (zI a1), some (zI a2), some (zI 0), none] μ3 (zQ1 K))) ∧ (¬ (x2 ≠ 0) → K ((-1000000002)) μ2))) ∧ (¬ (x1 ≠ 0) → K ((-1000000001)) μ1))) : zC1 (d + 1) m_X12_where [zR 9 0, zI a1, zI a2] μ K := zgo [(32, [true, true, true, true, false])] 400 h
set_option maxRecDepth 20000 in
theorem k_X12_where_32 (d : Nat) (l1 : Int) (l2 : Int) (l3 : Int) (μ : zM) (K : Int → zM → Prop) (h : (l3 ≥ l2 → (0 ≤ w32 (11 + l1) ∧ w32 (11 + l1) < 44) ∧ K (μ 34 1 (w32 (11 + l1)).toNat) μ) ∧ (¬ (l3 ≥ l2) → zC1 d m_X12_hourGoes [zR 9 0, zR 34 1, zI ((-1))] μ (fun x1 μ1 => zJ (d + 1) m_X12_where 32 [some (zR 9 0), some (zI l1), some (zI l2), some (zI (w32 (l3 + 1))), none] μ1 (zQ1 K)))) : zJ (d + 1) m_X12_where 32 [some (zR 9 0), some (zI l1), some (zI l2), some (zI l3), none] μ (zQ1 K) := zgo [(32, [true, true, true, true, false])] 400 h
set_option maxRecDepth 20000 in
theorem k_X12_meets (d : Nat) (a1 : Int) (μ : zM) (K : Int → zM → Prop) (h : zC1 d m_X12_in [zL a1, zL 0, zL 99] μ (fun x1 μ1 => (x1 ≠ 0 → zC0 d m_X12_layAside [zR 9 0] μ1 (fun μ2 => zJ (d + 1) m_X12_meets 23 [some (zR 9 0), some (zI a1), some (zI 0), some (zI 0)] μ2 (zQ1 K))) ∧ (¬ (x1 ≠ 0) → K ((-1000000002)) μ1))) : zC1 (d + 1) m_X12_meets [zR 9 0, zI a1] μ K := zgo [(23, [true, true, true, true])] 400 h
set_option maxRecDepth 20000 in
theorem k_X12_meets_23 (d : Nat) (l1 : Int) (l2 : Int) (l3 : Int) (μ : zM) (K : Int → zM → Prop) (h : (l3 ≥ l1 → K l2 μ) ∧ (¬ (l3 ≥ l1) → zC1 d m_X12_hourGoes [zR 9 0, zR 34 1, zI ((-1))] μ (fun x1 μ1 => zJ (d + 1) m_X12_meets 23 [some (zR 9 0), some (zI l1), some (zI (w32 (l2 + x1))), some (zI (w32 (l3 + 1)))] μ1 (zQ1 K)))) : zJ (d + 1) m_X12_meets 23 [some (zR 9 0), some (zI l1), some (zI l2), some (zI l3)] μ (zQ1 K) := zgo [(23, [true, true, true, true])] 400 h
end
section
/-! WHAT METHODS COME TO, by program (each closed by running the abstract machine in the kernel) -/
set_option maxRecDepth 20000 in
theorem k_X12_together (d : Nat) (a1 : Int) (a2 : Int) (μ : zM) (K : Int → zM → Prop) (h : zC1 d m_X12_isPerson [zR 9 0, zI a1] μ (fun x1 μ1 => (x1 = 0 → K ((-1000000001)) μ1) ∧ (¬ (x1 = 0) → zC1 d m_X12_isPerson [zR 9 0, zI a2] μ1 (fun x2 μ2 => (x2 = 0 → K ((-1000000001)) μ2) ∧ (¬ (x2 = 0) → (a1 ≠ a2 → zC0 d m_X12_layAside [zR 9 0] μ2 (fun μ3 => zJ (d + 1) m_X12_together 30 [some (zR 9 0), some (zI a1), some (zI a2), some (zI 1), none] μ3 (zQ1 K))) ∧ (¬ (a1 ≠ a2) → K ((-1000000001)) μ2)))))) : zC1 (d + 1) m_X12_together [zR 9 0, zI a1, zI a2] μ K := zgo [(30, [true, true, true, true, false])] 400 h
set_option maxRecDepth 20000 in
theorem k_X12_together_30 (d : Nat) (l1 : Int) (l2 : Int) (l3 : Int) (μ : zM) (K : Int → zM → Prop) (h : (l3 ≥ 201 → K ((-1)) μ) ∧ (¬ (l3 ≥ 201) → zC1 d m_X12_hourGoes [zR 9 0, zR 34 1, zI (w32 ((w32 (10 * l1)) + l2))] μ (fun x1 μ1 => (μ1 9 0 24 = 0 → zJ (d + 1) m_X12_together 30 [some (zR 9 0), some (zI l1), some (zI l2), some (zI (w32 (l3 + 1))), none] μ1 (zQ1 K)) ∧ (¬ (μ1 9 0 24 = 0) → K l3 μ1)))) : zJ (d + 1) m_X12_together 30 [some (zR 9 0), some (zI l1), some (zI l2), some (zI l3), none] μ (zQ1 K) := zgo [(30, [true, true, true, true, false])] 400 h
set_option maxRecDepth 20000 in
theorem k_X12_isIn (d : Nat) (a1 : Int) (a2 : Int) (a3 : Int) (a4 : Int) (μ : zM) (K : Int → zM → Prop) (h : zC1 d m_X12_reads [zR 9 0, zI a1, zI a2] μ (fun x1 μ1 => (0 ≤ w32 (4 + a3) ∧ w32 (4 + a3) < 200) ∧ μ1 33 0 (w32 (4 + a3)).toNat ≠ 0 ∧ zC1 d m_X12_reads [zR 9 0, zI a3, zI (Int.tmod (w32 (a2 + a4)) (μ1 33 0 (w32 (4 + a3)).toNat))] μ1 (fun x2 μ2 => (x1 ≠ x2 → ((0 : Int) = 0 ∨ (0 : Int) = 1) ∧ K 0 μ2) ∧ (¬ (x1 ≠ x2) → ((1 : Int) = 0 ∨ (1 : Int) = 1) ∧ K 1 μ2)))) : zC1 (d + 1) m_X12_isIn [zR 9 0, zI a1, zI a2, zI a3, zI a4] μ K := zgo [] 400 h
set_option maxRecDepth 20000 in
theorem k_X12_inCanon (d : Nat) (a1 : Int) (a2 : Int) (a3 : Int) (μ : zM) (K : Int → zM → Prop) (h : zJ (d + 1) m_X12_inCanon 6 [some (zR 9 0), some (zI a1), some (zI a2), some (zI a3), some (zI 0), some (zI 0)] μ (zQ1 K)) : zC1 (d + 1) m_X12_inCanon [zR 9 0, zI a1, zI a2, zI a3] μ K := zgo [(6, [true, true, true, true, true, true])] 400 h
set_option maxRecDepth 20000 in
theorem k_X12_inCanon_6 (d : Nat) (l1 : Int) (l2 : Int) (l3 : Int) (l4 : Int) (l5 : Int) (μ : zM) (K : Int → zM → Prop) (h : (0 ≤ w32 (4 + l1) ∧ w32 (4 + l1) < 200) ∧ (l5 ≥ μ 33 0 (w32 (4 + l1)).toNat → K l4 μ) ∧ (¬ (l5 ≥ μ 33 0 (w32 (4 + l1)).toNat) → zC1 d m_X12_isIn [zR 9 0, zI l1, zI l5, zI l2, zI l3] μ (fun x1 μ1 => (x1 = 0 → zJ (d + 1) m_X12_inCanon 6 [some (zR 9 0), some (zI l1), some (zI l2), some (zI l3), some (zI (w32 (l4 + 0))), some (zI (w32 (l5 + 1)))] μ1 (zQ1 K)) ∧ (¬ (x1 = 0) → zJ (d + 1) m_X12_inCanon 6 [some (zR 9 0), some (zI l1), some (zI l2), some (zI l3), some (zI (w32 (l4 + 1))), some (zI (w32 (l5 + 1)))] μ1 (zQ1 K))))) : zJ (d + 1) m_X12_inCanon 6 [some (zR 9 0), some (zI l1), some (zI l2), some (zI l3), some (zI l4), some (zI l5)] μ (zQ1 K) := zgo [(6, [true, true, true, true, true, true])] 400 h
set_option maxRecDepth 20000 in
theorem k_X12_canon (d : Nat) (a1 : Int) (a2 : Int) (a3 : Int) (μ : zM) (K : Int → zM → Prop) (h : zC1 d m_X12_areTwo [zR 9 0, zI a1, zI a2] μ (fun x1 μ1 => (x1 ≠ 0 → zC1 d m_X12_in [zL a3, zL 0, zL 11] μ1 (fun x2 μ2 => (x2 = 0 → K ((-1000000002)) μ2) ∧ (¬ (x2 = 0) → zC1 d m_X12_inCanon [zR 9 0, zI a1, zI a2, zI a3] μ2 (fun x3 μ3 => K x3 μ3)))) ∧ (¬ (x1 ≠ 0) → K ((-1000000001)) μ1))) : zC1 (d + 1) m_X12_canon [zR 9 0, zI a1, zI a2, zI a3] μ K := zgo [] 400 h
set_option maxRecDepth 20000 in
theorem k_X12_bestCanon (d : Nat) (a1 : Int) (a2 : Int) (a3 : Int) (μ : zM) (K : Int → zM → Prop) (h : zC1 d m_X12_areTwo [zR 9 0, zI a1, zI a2] μ (fun x1 μ1 => (x1 ≠ 0 → zC1 d m_X12_in [zL a3, zL 0, zL 1] μ1 (fun x2 μ2 => (x2 ≠ 0 → zJ (d + 1) m_X12_bestCanon 31 [some (zR 9 0), some (zI a1), some (zI a2), some (zI a3), some (zI 0), some (zI 1)] μ2 (zQ1 K)) ∧ (¬ (x2 ≠ 0) → K ((-1000000002)) μ2))) ∧ (¬ (x1 ≠ 0) → K ((-1000000001)) μ1))) : zC1 (d + 1) m_X12_bestCanon [zR 9 0, zI a1, zI a2, zI a3] μ K := zgo [(31, [true, true, true, true, true, true])] 400 h
set_option maxRecDepth 20000 in
theorem k_X12_bestCanon_31 (d : Nat) (l1 : Int) (l2 : Int) (l3 : Int) (l4 : Int) (l5 : Int) (μ : zM) (K : Int → zM → Prop) (h : (0 ≤ w32 (4 + l2) ∧ w32 (4 + l2) < 200) ∧ (l5 ≥ μ 33 0 (w32 (4 + l2)).toNat → (l3 ≠ 0 → zC1 d m_X12_inCanon [zR 9 0, zI l1, zI l2, zI l4] μ (fun x1 μ1 => K x1 μ1)) ∧ (¬ (l3 ≠ 0) → K l4 μ)) ∧ (¬ (l5 ≥ μ 33 0 (w32 (4 + l2)).toNat) → zC1 d m_X12_inCanon [zR 9 0, zI l1, zI l2, zI l5] μ (fun x2 μ2 => zC1 d m_X12_inCanon [zR 9 0, zI l1, zI l2, zI l4] μ2 (fun x3 μ3 => (x2 ≤ x3 → zJ (d + 1) m_X12_bestCanon 31 [some (zR 9 0), some (zI l1), some (zI l2), some (zI l3), some (zI l4), some (zI (w32 (l5 + 1)))] μ3 (zQ1 K)) ∧ (¬ (x2 ≤ x3) → zJ (d + 1) m_X12_bestCanon 31 [some (zR 9 0), some (zI l1), some (zI l2), some (zI l3), some (zI l5), some (zI (w32 (l5 + 1)))] μ3 (zQ1 K)))))) : zJ (d + 1) m_X12_bestCanon 31 [some (zR 9 0), some (zI l1), some (zI l2), some (zI l3), some (zI l4), some (zI l5)] μ (zQ1 K) := zgo [(31, [true, true, true, true, true, true])] 400 h
set_option maxRecDepth 20000 in
theorem k_X12_match (d : Nat) (a1 : Int) (a2 : Int) (a3 : Int) (a4 : Int) (μ : zM) (K : Int → zM → Prop) (h : zC1 d m_X12_areTwo [zR 9 0, zI a1, zI a2] μ (fun x1 μ1 => (x1 ≠ 0 → zC1 d m_X12_in [zL a3, zL 0, zL 11] μ1 (fun x2 μ2 => (x2 = 0 → K ((-1000000002)) μ2) ∧ (¬ (x2 = 0) → zC1 d m_X12_in [zL a4, zL 0, zL 1] μ2 (fun x3 μ3 => (x3 ≠ 0 → zJ (d + 1) m_X12_match 44 [some (zR 9 0), some (zI a1), some (zI a2), some (zI a3), some (zI a4), some (zI 0), some (zI 0)] μ3 (zQ1 K)) ∧ (¬ (x3 ≠ 0) → K ((-1000000002)) μ3))))) ∧ (¬ (x1 ≠ 0) → K ((-1000000001)) μ1))) : zC1 (d + 1) m_X12_match [zR 9 0, zI a1, zI a2, zI a3, zI a4] μ K := zgo [(44, [true, true, true, true, true, true, true])] 400 h
set_option maxRecDepth 20000 in
theorem k_X12_match_44 (d : Nat) (l1 : Int) (l2 : Int) (l3 : Int) (l4 : Int) (l5 : Int) (l6 : Int) (μ : zM) (K : Int → zM → Prop) (h : (0 ≤ w32 (4 + l1) ∧ w32 (4 + l1) < 200) ∧ (l6 ≥ μ 33 0 (w32 (4 + l1)).toNat → (l4 ≠ 0 → K l5 μ) ∧ (¬ (l4 ≠ 0) → zC1 d m_X12_bits [zI l5] μ (fun x1 μ1 => K x1 μ1))) ∧ (¬ (l6 ≥ μ 33 0 (w32 (4 + l1)).toNat) → zC1 d m_X12_isIn [zR 9 0, zI l1, zI l6, zI l2, zI l3] μ (fun x2 μ2 => (x2 ≠ 0 → zJ (d + 1) m_X12_match 44 [some (zR 9 0), some (zI l1), some (zI l2), some (zI l3), some (zI l4), some (zI l5), some (zI (w32 (l6 + 1)))] μ2 (zQ1 K)) ∧ (¬ (x2 ≠ 0) → (0 ≤ w32 (0 + l1) ∧ w32 (0 + l1) < 44) ∧ zC1 d m_X12_has [zI (μ2 34 0 (w32 (0 + l1)).toNat), zI l6] μ2 (fun x3 μ3 => (x3 ≠ 0 → zC1 d m_X12_turned [zR 9 0, zI l1, zI l6, zI 0] μ3 (fun x4 μ4 => (0 ≤ w32 (4 + l2) ∧ w32 (4 + l2) < 200) ∧ μ4 33 0 (w32 (4 + l2)).toNat ≠ 0 ∧ zC1 d m_X12_reads [zR 9 0, zI l2, zI (Int.tmod (w32 (l6 + l3)) (μ4 33 0 (w32 (4 + l2)).toNat))] μ4 (fun x5 μ5 => (x4 = x5 → zJ (d + 1) m_X12_match 44 [some (zR 9 0), some (zI l1), some (zI l2), some (zI l3), some (zI l4), some (zI (zor l5 (zshl 1 l6))), some (zI (w32 (l6 + 1)))] μ5 (zQ1 K)) ∧ (¬ (x4 = x5) → K ((-1)) μ5)))) ∧ (¬ (x3 ≠ 0) → zC1 d m_X12_turned [zR 9 0, zI l1, zI l6, zI 1] μ3 (fun x6 μ6 => (0 ≤ w32 (4 + l2) ∧ w32 (4 + l2) < 200) ∧ μ6 33 0 (w32 (4 + l2)).toNat ≠ 0 ∧ zC1 d m_X12_reads [zR 9 0, zI l2, zI (Int.tmod (w32 (l6 + l3)) (μ6 33 0 (w32 (4 + l2)).toNat))] μ6 (fun x7 μ7 => (x6 = x7 → zJ (d + 1) m_X12_match 44 [some (zR 9 0), some (zI l1), some (zI l2), some (zI l3), some (zI l4), some (zI (zor l5 (zshl 1 l6))), some (zI (w32 (l6 + 1)))] μ7 (zQ1 K)) ∧ (¬ (x6 = x7) → K ((-1)) μ7))))))))) : zJ (d + 1) m_X12_match 44 [some (zR 9 0), some (zI l1), some (zI l2), some (zI l3), some (zI l4), some (zI l5), some (zI l6)] μ (zQ1 K) := zgo [(44, [true, true, true, true, true, true, true])] 400 h
set_option maxRecDepth 20000 in
theorem k_X12_joinOf (d : Nat) (a1 : Int) (a2 : Int) (μ : zM) (K : Int → zM → Prop) (h : (0 ≤ w32 (4 + a1) ∧ w32 (4 + a1) < 200) ∧ (0 ≤ w32 (4 + a2) ∧ w32 (4 + a2) < 200) ∧ zC1 d m_X12_lesser [zI (μ 33 0 (w32 (4 + a1)).toNat), zI (μ 33 0 (w32 (4 + a2)).toNat)] μ (fun x1 μ1 => zJ (d + 1) m_X12_joinOf 20 [some (zR 9 0), some (zI a1), some (zI a2), some (zI x1), none, none] μ1 (zQ1 K))) : zC1 (d + 1) m_X12_joinOf [zR 9 0, zI a1, zI a2] μ K := zgo [(20, [true, true, true, true, false, false]), (30, [true, true, true, true, true, true])] 400 h
set_option maxRecDepth 20000 in
theorem k_X12_joinOf_20 (d : Nat) (l1 : Int) (l2 : Int) (l3 : Int) (μ : zM) (K : Int → zM → Prop) (h : (l3 ≤ 0 → K 0 μ) ∧ (¬ (l3 ≤ 0) → zJ (d + 1) m_X12_joinOf 30 [some (zR 9 0), some (zI l1), some (zI l2), some (zI l3), some (zI 1), some (zI 0)] μ (zQ1 K))) : zJ (d + 1) m_X12_joinOf 20 [some (zR 9 0), some (zI l1), some (zI l2), some (zI l3), none, none] μ (zQ1 K) := zgo [(20, [true, true, true, true, false, false]), (30, [true, true, true, true, true, true])] 400 h
set_option maxRecDepth 20000 in
theorem k_X12_joinOf_30 (d : Nat) (l1 : Int) (l2 : Int) (l3 : Int) (l4 : Int) (l5 : Int) (μ : zM) (K : Int → zM → Prop) (h : (l5 ≥ l3 → (l4 = 0 → zJ (d + 1) m_X12_joinOf 20 [some (zR 9 0), some (zI l1), some (zI l2), some (zI (w32 (l3 + (-1)))), none, none] μ (zQ1 K)) ∧ (¬ (l4 = 0) → K l3 μ)) ∧ (¬ (l5 ≥ l3) → (l4 = 0 → zJ (d + 1) m_X12_joinOf 30 [some (zR 9 0), some (zI l1), some (zI l2), some (zI l3), some (zI 0), some (zI (w32 (l5 + 1)))] μ (zQ1 K)) ∧ (¬ (l4 = 0) → (0 ≤ w32 (4 + l1) ∧ w32 (4 + l1) < 200) ∧ zC1 d m_X12_reads [zR 9 0, zI l1, zI (w32 ((w32 ((μ 33 0 (w32 (4 + l1)).toNat) - l3)) + l5))] μ (fun x1 μ1 => zC1 d m_X12_reads [zR 9 0, zI l2, zI l5] μ1 (fun x2 μ2 => (x1 ≠ x2 → zJ (d + 1) m_X12_joinOf 30 [some (zR 9 0), some (zI l1), some (zI l2), some (zI l3), some (zI 0), some (zI (w32 (l5 + 1)))] μ2 (zQ1 K)) ∧ (¬ (x1 ≠ x2) → zJ (d + 1) m_X12_joinOf 30 [some (zR 9 0), some (zI l1), some (zI l2), some (zI l3), some (zI 1), some (zI (w32 (l5 + 1)))] μ2 (zQ1 K))))))) : zJ (d + 1) m_X12_joinOf 30 [some (zR 9 0), some (zI l1), some (zI l2), some (zI l3), some (zI l4), some (zI l5)] μ (zQ1 K) := zgo [(20, [true, true, true, true, false, false]), (30, [true, true, true, true, true, true])] 400 h
set_option maxRecDepth 20000 in
theorem k_X12_join (d : Nat) (a1 : Int) (a2 : Int) (μ : zM) (K : Int → zM → Prop) (h : zC1 d m_X12_areTwo [zR 9 0, zI a1, zI a2] μ (fun x1 μ1 => (x1 = 0 → K ((-1000000001)) μ1) ∧ (¬ (x1 = 0) → zC1 d m_X12_joinOf [zR 9 0, zI a1, zI a2] μ1 (fun x2 μ2 => K x2 μ2)))) : zC1 (d + 1) m_X12_join [zR 9 0, zI a1, zI a2] μ K := zgo [] 400 h
set_option maxRecDepth 20000 in
theorem k_X12_nextOrder (d : Nat) (a1 : Int) (μ : zM) (K : Int → zM → Prop) (h : zJ d m_X12_nextOrder 4 [some (zR 9 0), some (zI a1), some (zI (w32 (a1 - 2))), none, none, none, none] μ (zQ1 K)) : zC1 d m_X12_nextOrder [zR 9 0, zI a1] μ K := zgo [(4, [true, true, true, false, false, false, false]), (41, [true, true, true, true, false, false, false]), (100, [true, false, false, false, false, true, true])] 400 h
set_option maxRecDepth 20000 in
theorem k_X12_nextOrder_4 (d : Nat) (l1 : Int) (l2 : Int) (μ : zM) (K : Int → zM → Prop) (h : (l2 < 0 → (l2 ≥ 0 → zJ d m_X12_nextOrder 41 [some (zR 9 0), some (zI l1), some (zI l2), some (zI (w32 (l1 - 1))), none, none, none] μ (zQ1 K)) ∧ (¬ (l2 ≥ 0) → ((0 : Int) = 0 ∨ (0 : Int) = 1) ∧ K 0 μ)) ∧ (¬ (l2 < 0) → (0 ≤ l2 ∧ l2 < 6) ∧ (0 ≤ w32 (l2 + 1) ∧ w32 (l2 + 1) < 6) ∧ (μ 42 0 l2.toNat ≤ μ 42 0 (w32 (l2 + 1)).toNat → (l2 ≥ 0 → zJ d m_X12_nextOrder 41 [some (zR 9 0), some (zI l1), some (zI l2), some (zI (w32 (l1 - 1))), none, none, none] μ (zQ1 K)) ∧ (¬ (l2 ≥ 0) → ((0 : Int) = 0 ∨ (0 : Int) = 1) ∧ K 0 μ)) ∧ (¬ (μ 42 0 l2.toNat ≤ μ 42 0 (w32 (l2 + 1)).toNat) → zJ d m_X12_nextOrder 4 [some (zR 9 0), some (zI l1), some (zI (w32 (l2 + (-1)))), none, none, none, none] μ (zQ1 K)))) : zJ d m_X12_nextOrder 4 [some (zR 9 0), some (zI l1), some (zI l2), none, none, none, none] μ (zQ1 K) := zgo [(4, [true, true, true, false, false, false, false]), (41, [true, true, true, true, false, false, false]), (100, [true, false, false, false, false, true, true])] 400 h
set_option maxRecDepth 20000 in
theorem k_X12_nextOrder_41 (d : Nat) (l1 : Int) (l2 : Int) (l3 : Int) (μ : zM) (K : Int → zM → Prop) (h : (0 ≤ l3 ∧ l3 < 6) ∧ (0 ≤ l2 ∧ l2 < 6) ∧ (μ 42 0 l3.toNat ≥ μ 42 0 l2.toNat → (0 ≤ l2 ∧ l2 < 6) ∧ (0 ≤ l3 ∧ l3 < 6) ∧ (0 ≤ l2 ∧ l2 < 6) ∧ (0 ≤ l3 ∧ l3 < 6) ∧ zJ d m_X12_nextOrder 100 [some (zR 9 0), none, none, none, none, some (zI (w32 (l2 + 1))), some (zI (w32 (l1 - 1)))] (zset (zset μ 42 0 l2.toNat (μ 42 0 l3.toNat)) 42 0 l3.toNat (μ 42 0 l2.toNat)) (zQ1 K)) ∧ (¬ (μ 42 0 l3.toNat ≥ μ 42 0 l2.toNat) → zJ d m_X12_nextOrder 41 [some (zR 9 0), some (zI l1), some (zI l2), some (zI (w32 (l3 + (-1)))), none, none, none] μ (zQ1 K))) : zJ d m_X12_nextOrder 41 [some (zR 9 0), some (zI l1), some (zI l2), some (zI l3), none, none, none] μ (zQ1 K) := zgo [(4, [true, true, true, false, false, false, false]), (41, [true, true, true, true, false, false, false]), (100, [true, false, false, false, false, true, true])] 400 h
set_option maxRecDepth 20000 in
theorem k_X12_nextOrder_100 (d : Nat) (l5 : Int) (l6 : Int) (μ : zM) (K : Int → zM → Prop) (h : (l5 ≥ l6 → ((1 : Int) = 0 ∨ (1 : Int) = 1) ∧ K 1 μ) ∧ (¬ (l5 ≥ l6) → (0 ≤ l5 ∧ l5 < 6) ∧ (0 ≤ l6 ∧ l6 < 6) ∧ (0 ≤ l5 ∧ l5 < 6) ∧ (0 ≤ l6 ∧ l6 < 6) ∧ zJ d m_X12_nextOrder 100 [some (zR 9 0), none, none, none, none, some (zI (w32 (l5 + 1))), some (zI (w32 (l6 + (-1))))] (zset (zset μ 42 0 l5.toNat (μ 42 0 l6.toNat)) 42 0 l6.toNat (μ 42 0 l5.toNat)) (zQ1 K))) : zJ d m_X12_nextOrder 100 [some (zR 9 0), none, none, none, none, some (zI l5), some (zI l6)] μ (zQ1 K) := zgo [(4, [true, true, true, false, false, false, false]), (41, [true, true, true, true, false, false, false]), (100, [true, false, false, false, false, true, true])] 400 h
set_option maxRecDepth 20000 in
theorem k_X12_shortest (d : Nat) (a1 : Int) (μ : zM) (K : Int → zM → Prop) (h : zC1 d m_X12_in [zL a1, zL 0, zL 1] μ (fun x1 μ1 => (x1 ≠ 0 → (0 ≤ (1 : Int) ∧ (1 : Int) < 200) ∧ (μ1 33 0 1 ≠ 0 → zJ (d + 1) m_X12_shortest 31 [some (zR 9 0), some (zI a1), some (zI (μ1 33 0 1)), some (zI 0), some (zI 0), none, none, none, none, none] μ1 (zQ1 K)) ∧ (¬ (μ1 33 0 1 ≠ 0) → K ((-1)) μ1)) ∧ (¬ (x1 ≠ 0) → K ((-1000000002)) μ1))) : zC1 (d + 1) m_X12_shortest [zR 9 0, zI a1] μ K := zgo [(31, [true, true, true, true, true, false, false, false, false, false]), (61, [true, true, true, true, true, true, false, false, false, false]), (122, [true, true, true, true, true, true, true, false, false, false]), (143, [true, true, true, true, true, true, false, true, true, true])] 400 h
set_option maxRecDepth 20000 in
theorem k_X12_shortest_31 (d : Nat) (l1 : Int) (l2 : Int) (l3 : Int) (l4 : Int) (μ : zM) (K : Int → zM → Prop) (h : (l4 ≥ l2 → zJ (d + 1) m_X12_shortest 122 [some (zR 9 0), some (zI l1), some (zI l2), some (zI l3), some (zI 100000000), some (zI 0), some (zI 1), none, none, none] μ (zQ1 K)) ∧ (¬ (l4 ≥ l2) → (0 ≤ l4 ∧ l4 < 6) ∧ (0 ≤ w32 (4 + l4) ∧ w32 (4 + l4) < 200) ∧ zJ (d + 1) m_X12_shortest 61 [some (zR 9 0), some (zI l1), some (zI l2), some (zI (w32 (l3 + ((zset μ 42 0 l4.toNat l4) 33 0 (w32 (4 + l4)).toNat)))), some (zI l4), some (zI 0), none, none, none, none] (zset μ 42 0 l4.toNat l4) (zQ1 K))) : zJ (d + 1) m_X12_shortest 31 [some (zR 9 0), some (zI l1), some (zI l2), some (zI l3), some (zI l4), none, none, none, none, none] μ (zQ1 K) := zgo [(31, [true, true, true, true, true, false, false, false, false, false]), (61, [true, true, true, true, true, true, false, false, false, false]), (122, [true, true, true, true, true, true, true, false, false, false]), (143, [true, true, true, true, true, true, false, true, true, true])] 400 h
set_option maxRecDepth 20000 in
theorem k_X12_shortest_61 (d : Nat) (l1 : Int) (l2 : Int) (l3 : Int) (l4 : Int) (l5 : Int) (μ : zM) (K : Int → zM → Prop) (h : (l5 ≥ l2 → zJ (d + 1) m_X12_shortest 31 [some (zR 9 0), some (zI l1), some (zI l2), some (zI l3), some (zI (w32 (l4 + 1))), none, none, none, none, none] μ (zQ1 K)) ∧ (¬ (l5 ≥ l2) → (l4 ≠ l5 → zC1 d m_X12_joinOf [zR 9 0, zI l4, zI l5] μ (fun x1 μ1 => (0 ≤ w32 ((w32 (6 * l4)) + l5) ∧ w32 ((w32 (6 * l4)) + l5) < 36) ∧ zJ (d + 1) m_X12_shortest 61 [some (zR 9 0), some (zI l1), some (zI l2), some (zI l3), some (zI l4), some (zI (w32 (l5 + 1))), none, none, none, none] (zset μ1 43 0 (w32 ((w32 (6 * l4)) + l5)).toNat x1) (zQ1 K))) ∧ (¬ (l4 ≠ l5) → (0 ≤ w32 ((w32 (6 * l4)) + l5) ∧ w32 ((w32 (6 * l4)) + l5) < 36) ∧ zJ (d + 1) m_X12_shortest 61 [some (zR 9 0), some (zI l1), some (zI l2), some (zI l3), some (zI l4), some (zI (w32 (l5 + 1))), none, none, none, none] (zset μ 43 0 (w32 ((w32 (6 * l4)) + l5)).toNat 0) (zQ1 K)))) : zJ (d + 1) m_X12_shortest 61 [some (zR 9 0), some (zI l1), some (zI l2), some (zI l3), some (zI l4), some (zI l5), none, none, none, none] μ (zQ1 K) := zgo [(31, [true, true, true, true, true, false, false, false, false, false]), (61, [true, true, true, true, true, true, false, false, false, false]), (122, [true, true, true, true, true, true, true, false, false, false]), (143, [true, true, true, true, true, true, false, true, true, true])] 400 h
set_option maxRecDepth 20000 in
theorem k_X12_shortest_122 (d : Nat) (l1 : Int) (l2 : Int) (l3 : Int) (l4 : Int) (l5 : Int) (l6 : Int) (μ : zM) (K : Int → zM → Prop) (h : (l6 = 0 → (l1 ≠ 0 → K l5 μ) ∧ (¬ (l1 ≠ 0) → K l4 μ)) ∧ (¬ (l6 = 0) → (0 ≤ (0 : Int) ∧ (0 : Int) < 6) ∧ zJ (d + 1) m_X12_shortest 143 [some (zR 9 0), some (zI l1), some (zI l2), some (zI l3), some (zI l4), some (zI l5), none, some (zI l3), some (zI (w32 ((μ 42 0 0) + 1))), some (zI 1)] μ (zQ1 K))) : zJ (d + 1) m_X12_shortest 122 [some (zR 9 0), some (zI l1), some (zI l2), some (zI l3), some (zI l4), some (zI l5), some (zI l6), none, none, none] μ (zQ1 K) := zgo [(31, [true, true, true, true, true, false, false, false, false, false]), (61, [true, true, true, true, true, true, false, false, false, false]), (122, [true, true, true, true, true, true, true, false, false, false]), (143, [true, true, true, true, true, true, false, true, true, true])] 400 h
set_option maxRecDepth 20000 in
theorem k_X12_shortest_143 (d : Nat) (l1 : Int) (l2 : Int) (l3 : Int) (l4 : Int) (l5 : Int) (l7 : Int) (l8 : Int) (l9 : Int) (μ : zM) (K : Int → zM → Prop) (h : (l9 ≥ l2 → (l7 ≥ l4 → zC1 d m_X12_lesser [zI l7, zI l4] μ (fun x1 μ1 => zC1 d m_X12_nextOrder [zR 9 0, zI l2] μ1 (fun x2 μ2 => zJ (d + 1) m_X12_shortest 122 [some (zR 9 0), some (zI l1), some (zI l2), some (zI l3), some (zI x1), some (zI l5), some (zI x2), none, none, none] μ2 (zQ1 K)))) ∧ (¬ (l7 ≥ l4) → zC1 d m_X12_lesser [zI l7, zI l4] μ (fun x3 μ3 => zC1 d m_X12_nextOrder [zR 9 0, zI l2] μ3 (fun x4 μ4 => zJ (d + 1) m_X12_shortest 122 [some (zR 9 0), some (zI l1), some (zI l2), some (zI l3), some (zI x3), some (zI l8), some (zI x4), none, none, none] μ4 (zQ1 K))))) ∧ (¬ (l9 ≥ l2) → (0 ≤ w32 (l9 - 1) ∧ w32 (l9 - 1) < 6) ∧ (0 ≤ l9 ∧ l9 < 6) ∧ (0 ≤ w32 ((w32 (6 * (μ 42 0 (w32 (l9 - 1)).toNat))) + (μ 42 0 l9.toNat)) ∧ w32 ((w32 (6 * (μ 42 0 (w32 (l9 - 1)).toNat))) + (μ 42 0 l9.toNat)) < 36) ∧ (0 ≤ l9 ∧ l9 < 6) ∧ zJ (d + 1) m_X12_shortest 143 [some (zR 9 0), some (zI l1), some (zI l2), some (zI l3), some (zI l4), some (zI l5), none, some (zI (w32 (l7 - (μ 43 0 (w32 ((w32 (6 * (μ 42 0 (w32 (l9 - 1)).toNat))) + (μ 42 0 l9.toNat))).toNat)))), some (zI (w32 ((w32 ((w32 (10 * l8)) + (μ 42 0 l9.toNat))) + 1))), some (zI (w32 (l9 + 1)))] μ (zQ1 K))) : zJ (d + 1) m_X12_shortest 143 [some (zR 9 0), some (zI l1), some (zI l2), some (zI l3), some (zI l4), some (zI l5), none, some (zI l7), some (zI l8), some (zI l9)] μ (zQ1 K) := zgo [(31, [true, true, true, true, true, false, false, false, false, false]), (61, [true, true, true, true, true, true, false, false, false, false]), (122, [true, true, true, true, true, true, true, false, false, false]), (143, [true, true, true, true, true, true, false, true, true, true])] 400 h
set_option maxRecDepth 20000 in
theorem k_X12_apart (d : Nat) (a1 : Int) (a2 : Int) (μ : zM) (K : Int → zM → Prop) (h : zC1 d m_X12_key [zR 9 0, zI a1] μ (fun x1 μ1 => zC1 d m_X12_key [zR 9 0, zI a2] μ1 (fun x2 μ2 => (w32 (x1 - x2) ≥ 0 → zC1 d m_X12_lesser [zI (w32 (x1 - x2)), zI (w32 (12 - (w32 (x1 - x2))))] μ2 (fun x3 μ3 => K x3 μ3)) ∧ (¬ (w32 (x1 - x2) ≥ 0) → zC1 d m_X12_lesser [zI (w32 (-(w32 (x1 - x2)))), zI (w32 (12 - (w32 (-(w32 (x1 - x2))))))] μ2 (fun x4 μ4 => K x4 μ4))))) : zC1 (d + 1) m_X12_apart [zR 9 0, zI a1, zI a2] μ K := zgo [] 400 h
set_option maxRecDepth 20000 in
theorem k_X12_nearest (d : Nat) (a1 : Int) (μ : zM) (K : Int → zM → Prop) (h : zC1 d m_X12_isRoom [zR 9 0, zI a1] μ (fun x1 μ1 => (x1 ≠ 0 → zJ (d + 1) m_X12_nearest 15 [some (zR 9 0), some (zI a1), some (zI ((-1))), some (zI 0)] μ1 (zQ1 K)) ∧ (¬ (x1 ≠ 0) → K ((-1000000001)) μ1))) : zC1 (d + 1) m_X12_nearest [zR 9 0, zI a1] μ K := zgo [(15, [true, true, true, true])] 400 h
set_option maxRecDepth 20000 in
theorem k_X12_nearest_15 (d : Nat) (l1 : Int) (l2 : Int) (l3 : Int) (μ : zM) (K : Int → zM → Prop) (h : (0 ≤ (1 : Int) ∧ (1 : Int) < 200) ∧ (l3 ≥ μ 33 0 1 → K l2 μ) ∧ (¬ (l3 ≥ μ 33 0 1) → (l3 = l1 → zJ (d + 1) m_X12_nearest 15 [some (zR 9 0), some (zI l1), some (zI l2), some (zI (w32 (l3 + 1)))] μ (zQ1 K)) ∧ (¬ (l3 = l1) → (l2 = (-1) → zJ (d + 1) m_X12_nearest 15 [some (zR 9 0), some (zI l1), some (zI l3), some (zI (w32 (l3 + 1)))] μ (zQ1 K)) ∧ (¬ (l2 = (-1)) → zC1 d m_X12_apart [zR 9 0, zI l1, zI l3] μ (fun x1 μ1 => zC1 d m_X12_apart [zR 9 0, zI l1, zI l2] μ1 (fun x2 μ2 => (x1 ≥ x2 → zJ (d + 1) m_X12_nearest 15 [some (zR 9 0), some (zI l1), some (zI l2), some (zI (w32 (l3 + 1)))] μ2 (zQ1 K)) ∧ (¬ (x1 ≥ x2) → zJ (d + 1) m_X12_nearest 15 [some (zR 9 0), some (zI l1), some (zI l3), some (zI (w32 (l3 + 1)))] μ2 (zQ1 K)))))))) : zJ (d + 1) m_X12_nearest 15 [some (zR 9 0), some (zI l1), some (zI l2), some (zI l3)] μ (zQ1 K) := zgo [(15, [true, true, true, true])] 400 h
set_option maxRecDepth 20000 in
theorem k_X12_modulation (d : Nat) (a1 : Int) (a2 : Int) (μ : zM) (K : Int → zM → Prop) (h : zC1 d m_X12_isRoom [zR 9 0, zI a1] μ (fun x1 μ1 => (x1 = 0 → K ((-1000000001)) μ1) ∧ (¬ (x1 = 0) → zC1 d m_X12_isRoom [zR 9 0, zI a2] μ1 (fun x2 μ2 => (x2 ≠ 0 → zJ (d + 1) m_X12_modulation 26 [some (zR 9 0), none, some (zI a2), some (zI (zshl 1 a1)), some (zI 0), none, none, none] μ2 (zQ1 K)) ∧ (¬ (x2 ≠ 0) → K ((-1000000001)) μ2))))) : zC1 (d + 1) m_X12_modulation [zR 9 0, zI a1, zI a2] μ K := zgo [(26, [true, false, true, true, true, false, false, false]), (50, [true, false, true, true, true, true, true, false]), (64, [true, false, true, true, true, true, true, true])] 400 h
set_option maxRecDepth 20000 in
theorem k_X12_modulation_26 (d : Nat) (l2 : Int) (l3 : Int) (l4 : Int) (μ : zM) (K : Int → zM → Prop) (h : (l4 ≥ 6 → K ((-1)) μ) ∧ (¬ (l4 ≥ 6) → zC1 d m_X12_has [zI l3, zI l2] μ (fun x1 μ1 => (x1 = 0 → zJ (d + 1) m_X12_modulation 50 [some (zR 9 0), none, some (zI l2), some (zI l3), some (zI l4), some (zI l3), some (zI 0), none] μ1 (zQ1 K)) ∧ (¬ (x1 = 0) → K l4 μ1)))) : zJ (d + 1) m_X12_modulation 26 [some (zR 9 0), none, some (zI l2), some (zI l3), some (zI l4), none, none, none] μ (zQ1 K) := zgo [(26, [true, false, true, true, true, false, false, false]), (50, [true, false, true, true, true, true, true, false]), (64, [true, false, true, true, true, true, true, true])] 400 h
set_option maxRecDepth 20000 in
theorem k_X12_modulation_50 (d : Nat) (l2 : Int) (l3 : Int) (l4 : Int) (l5 : Int) (l6 : Int) (μ : zM) (K : Int → zM → Prop) (h : (0 ≤ (1 : Int) ∧ (1 : Int) < 200) ∧ (l6 ≥ μ 33 0 1 → zJ (d + 1) m_X12_modulation 26 [some (zR 9 0), none, some (zI l2), some (zI l3), some (zI (w32 (l4 + 1))), none, none, none] μ (zQ1 K)) ∧ (¬ (l6 ≥ μ 33 0 1) → zJ (d + 1) m_X12_modulation 64 [some (zR 9 0), none, some (zI l2), some (zI l3), some (zI l4), some (zI l5), some (zI l6), some (zI 0)] μ (zQ1 K))) : zJ (d + 1) m_X12_modulation 50 [some (zR 9 0), none, some (zI l2), some (zI l3), some (zI l4), some (zI l5), some (zI l6), none] μ (zQ1 K) := zgo [(26, [true, false, true, true, true, false, false, false]), (50, [true, false, true, true, true, true, true, false]), (64, [true, false, true, true, true, true, true, true])] 400 h
set_option maxRecDepth 20000 in
theorem k_X12_modulation_64 (d : Nat) (l2 : Int) (l3 : Int) (l4 : Int) (l5 : Int) (l6 : Int) (l7 : Int) (μ : zM) (K : Int → zM → Prop) (h : (0 ≤ (1 : Int) ∧ (1 : Int) < 200) ∧ (l7 ≥ μ 33 0 1 → zJ (d + 1) m_X12_modulation 50 [some (zR 9 0), none, some (zI l2), some (zI l3), some (zI l4), some (zI l5), some (zI (w32 (l6 + 1))), none] μ (zQ1 K)) ∧ (¬ (l7 ≥ μ 33 0 1) → zC1 d m_X12_has [zI l5, zI l6] μ (fun x1 μ1 => (x1 = 0 → zJ (d + 1) m_X12_modulation 64 [some (zR 9 0), none, some (zI l2), some (zI (zor l3 0)), some (zI l4), some (zI l5), some (zI l6), some (zI (w32 (l7 + 1)))] μ1 (zQ1 K)) ∧ (¬ (x1 = 0) → zC1 d m_X12_apart [zR 9 0, zI l6, zI l7] μ1 (fun x2 μ2 => (x2 ≥ 3 → zJ (d + 1) m_X12_modulation 64 [some (zR 9 0), none, some (zI l2), some (zI (zor l3 0)), some (zI l4), some (zI l5), some (zI l6), some (zI (w32 (l7 + 1)))] μ2 (zQ1 K)) ∧ (¬ (x2 ≥ 3) → zJ (d + 1) m_X12_modulation 64 [some (zR 9 0), none, some (zI l2), some (zI (zor l3 (zshl 1 l7))), some (zI l4), some (zI l5), some (zI l6), some (zI (w32 (l7 + 1)))] μ2 (zQ1 K))))))) : zJ (d + 1) m_X12_modulation 64 [some (zR 9 0), none, some (zI l2), some (zI l3), some (zI l4), some (zI l5), some (zI l6), some (zI l7)] μ (zQ1 K) := zgo [(26, [true, false, true, true, true, false, false, false]), (50, [true, false, true, true, true, true, true, false]), (64, [true, false, true, true, true, true, true, true])] 400 h
set_option maxRecDepth 20000 in
theorem k_X12_sounds (d : Nat) (a1 : Int) (μ : zM) (K : Int → zM → Prop) (h : zC1 d m_X12_in [zL a1, zL 0, zL 9] μ (fun x1 μ1 => (x1 ≠ 0 → zJ (d + 1) m_X12_sounds 19 [some (zR 9 0), some (zI a1), some (zI 0), some (zI 0)] μ1 (zQ1 K)) ∧ (¬ (x1 ≠ 0) → K ((-1000000002)) μ1))) : zC1 (d + 1) m_X12_sounds [zR 9 0, zI a1] μ K := zgo [(19, [true, true, true, true])] 400 h
set_option maxRecDepth 20000 in
theorem k_X12_sounds_19 (d : Nat) (l1 : Int) (l2 : Int) (l3 : Int) (μ : zM) (K : Int → zM → Prop) (h : (0 ≤ (2 : Int) ∧ (2 : Int) < 200) ∧ (l3 ≥ μ 33 0 2 → K l2 μ) ∧ (¬ (l3 ≥ μ 33 0 2) → (0 ≤ w32 (6 + l3) ∧ w32 (6 + l3) < 44) ∧ (0 ≤ w32 (11 + l3) ∧ w32 (11 + l3) < 44) ∧ zC1 d m_X12_reads [zR 9 0, zI (μ 34 0 (w32 (6 + l3)).toNat), zI (μ 34 0 (w32 (11 + l3)).toNat)] μ (fun x1 μ1 => (x1 ≠ l1 → zJ (d + 1) m_X12_sounds 19 [some (zR 9 0), some (zI l1), some (zI (zor l2 0)), some (zI (w32 (l3 + 1)))] μ1 (zQ1 K)) ∧ (¬ (x1 ≠ l1) → zJ (d + 1) m_X12_sounds 19 [some (zR 9 0), some (zI l1), some (zI (zor l2 (zshl 1 l3))), some (zI (w32 (l3 + 1)))] μ1 (zQ1 K))))) : zJ (d + 1) m_X12_sounds 19 [some (zR 9 0), some (zI l1), some (zI l2), some (zI l3)] μ (zQ1 K) := zgo [(19, [true, true, true, true])] 400 h
set_option maxRecDepth 20000 in
theorem k_X12_dry (d : Nat) (a1 : Int) (a2 : Int) (μ : zM) (K : Int → zM → Prop) (h : zC1 d m_X12_in [zL a1, zL 0, zL 60] μ (fun x1 μ1 => (x1 = 0 → K ((-1000000002)) μ1) ∧ (¬ (x1 = 0) → zC1 d m_X12_in [zL a2, zL 0, zL 100] μ1 (fun x2 μ2 => (x2 ≠ 0 → zJ (d + 1) m_X12_dry 34 [none, some (zI a1), some (zI a2), some (zL 1000000000), none, some (zI 0)] μ2 (zQ1 K)) ∧ (¬ (x2 ≠ 0) → K ((-1000000002)) μ2))))) : zC1 (d + 1) m_X12_dry [zR 9 0, zI a1, zI a2] μ K := zgo [(34, [false, true, true, true, false, true])] 400 h
set_option maxRecDepth 20000 in
theorem k_X12_dry_34 (d : Nat) (l1 : Int) (l2 : Int) (l3 : Int) (l5 : Int) (μ : zM) (K : Int → zM → Prop) (h : (l5 ≥ l1 → K (w32 l3) μ) ∧ (¬ (l5 ≥ l1) → (100 : Int) ≠ 0 ∧ zJ (d + 1) m_X12_dry 34 [none, some (zI l1), some (zI l2), some (zL (w64 (Int.tdiv (w64 (l3 * l2)) 100))), none, some (zI (w32 (l5 + 1)))] μ (zQ1 K))) : zJ (d + 1) m_X12_dry 34 [none, some (zI l1), some (zI l2), some (zL l3), none, some (zI l5)] μ (zQ1 K) := zgo [(34, [false, true, true, true, false, true])] 400 h
set_option maxRecDepth 20000 in
theorem k_X12_see (d : Nat) (a1 : Int) (a2 : Int) (μ : zM) (K : Int → zM → Prop) (h : zC1 d m_X12_in [zL a1, zL 0, zL 11] μ (fun x1 μ1 => (x1 = 0 → K ((-1000000002)) μ1) ∧ (¬ (x1 = 0) → zC1 d m_X12_in [zL a2, zL 0, zL 9] μ1 (fun x2 μ2 => (x2 ≠ 0 → (μ2 9 0 13 ≠ 6 → (0 ≤ w32 (2 * (μ2 9 0 13)) ∧ w32 (2 * (μ2 9 0 13)) < 12) ∧ (0 ≤ w32 ((w32 (2 * ((zset μ2 39 0 (w32 (2 * (μ2 9 0 13))).toNat a1) 9 0 13))) + 1) ∧ w32 ((w32 (2 * ((zset μ2 39 0 (w32 (2 * (μ2 9 0 13))).toNat a1) 9 0 13))) + 1) < 12) ∧ K ((zset (zset (zset μ2 39 0 (w32 (2 * (μ2 9 0 13))).toNat a1) 39 0 (w32 ((w32 (2 * ((zset μ2 39 0 (w32 (2 * (μ2 9 0 13))).toNat a1) 9 0 13))) + 1)).toNat a2) 9 0 13 (w32 (((zset (zset μ2 39 0 (w32 (2 * (μ2 9 0 13))).toNat a1) 39 0 (w32 ((w32 (2 * ((zset μ2 39 0 (w32 (2 * (μ2 9 0 13))).toNat a1) 9 0 13))) + 1)).toNat a2) 9 0 13) + 1))) 9 0 13) (zset (zset (zset μ2 39 0 (w32 (2 * (μ2 9 0 13))).toNat a1) 39 0 (w32 ((w32 (2 * ((zset μ2 39 0 (w32 (2 * (μ2 9 0 13))).toNat a1) 9 0 13))) + 1)).toNat a2) 9 0 13 (w32 (((zset (zset μ2 39 0 (w32 (2 * (μ2 9 0 13))).toNat a1) 39 0 (w32 ((w32 (2 * ((zset μ2 39 0 (w32 (2 * (μ2 9 0 13))).toNat a1) 9 0 13))) + 1)).toNat a2) 9 0 13) + 1)))) ∧ (¬ (μ2 9 0 13 ≠ 6) → K ((-1000000004)) μ2)) ∧ (¬ (x2 ≠ 0) → K ((-1000000002)) μ2))))) : zC1 (d + 1) m_X12_see [zR 9 0, zI a1, zI a2] μ K := zgo [] 400 h
set_option maxRecDepth 20000 in
theorem k_X12_isSo (d : Nat) (a1 : Int) (a2 : Int) (μ : zM) (K : Int → zM → Prop) (h : zJ (d + 1) m_X12_isSo 5 [some (zR 9 0), some (zI a1), some (zI a2), some (zI 1), some (zI 0)] μ (zQ1 K)) : zC1 (d + 1) m_X12_isSo [zR 9 0, zI a1, zI a2] μ K := zgo [(5, [true, true, true, true, true])] 400 h
set_option maxRecDepth 20000 in
theorem k_X12_isSo_5 (d : Nat) (l1 : Int) (l2 : Int) (l3 : Int) (l4 : Int) (μ : zM) (K : Int → zM → Prop) (h : (l4 ≥ w32 (2 * (μ 9 0 13)) → (l3 = 0 ∨ l3 = 1) ∧ K l3 μ) ∧ (¬ (l4 ≥ w32 (2 * (μ 9 0 13))) → (l3 = 0 → zJ (d + 1) m_X12_isSo 5 [some (zR 9 0), some (zI l1), some (zI l2), some (zI 0), some (zI (w32 (l4 + 2)))] μ (zQ1 K)) ∧ (¬ (l3 = 0) → (0 ≤ l4 ∧ l4 < 12) ∧ (0 ≤ w32 (4 + l1) ∧ w32 (4 + l1) < 200) ∧ μ 33 0 (w32 (4 + l1)).toNat ≠ 0 ∧ zC1 d m_X12_reads [zR 9 0, zI l1, zI (Int.tmod (w32 (l2 + (μ 39 0 l4.toNat))) (μ 33 0 (w32 (4 + l1)).toNat))] μ (fun x1 μ1 => (0 ≤ w32 (l4 + 1) ∧ w32 (l4 + 1) < 12) ∧ (x1 ≠ μ1 39 0 (w32 (l4 + 1)).toNat → zJ (d + 1) m_X12_isSo 5 [some (zR 9 0), some (zI l1), some (zI l2), some (zI 0), some (zI (w32 (l4 + 2)))] μ1 (zQ1 K)) ∧ (¬ (x1 ≠ μ1 39 0 (w32 (l4 + 1)).toNat) → zJ (d + 1) m_X12_isSo 5 [some (zR 9 0), some (zI l1), some (zI l2), some (zI 1), some (zI (w32 (l4 + 2)))] μ1 (zQ1 K)))))) : zJ (d + 1) m_X12_isSo 5 [some (zR 9 0), some (zI l1), some (zI l2), some (zI l3), some (zI l4)] μ (zQ1 K) := zgo [(5, [true, true, true, true, true])] 400 h
set_option maxRecDepth 20000 in
theorem k_X12_places (d : Nat) (a1 : Int) (μ : zM) (K : Int → zM → Prop) (h : zC1 d m_X12_in [zL a1, zL 0, zL 2] μ (fun x1 μ1 => (x1 ≠ 0 → (0 ≤ (1 : Int) ∧ (1 : Int) < 200) ∧ zJ (d + 1) m_X12_places 32 [some (zR 9 0), some (zI a1), some (zI 0), some (zI ((-1))), some (zI 0), some (zI (w32 ((μ1 33 0 1) - 1))), none] μ1 (zQ1 K)) ∧ (¬ (x1 ≠ 0) → K ((-1000000002)) μ1))) : zC1 (d + 1) m_X12_places [zR 9 0, zI a1] μ K := zgo [(32, [true, true, true, true, true, true, false]), (50, [true, true, true, true, true, true, true])] 400 h
set_option maxRecDepth 20000 in
theorem k_X12_places_32 (d : Nat) (l1 : Int) (l2 : Int) (l3 : Int) (l4 : Int) (l5 : Int) (μ : zM) (K : Int → zM → Prop) (h : (l5 < 0 → (l1 ≠ 0 → (l1 ≠ 1 → K l4 μ) ∧ (¬ (l1 ≠ 1) → K l3 μ)) ∧ (¬ (l1 ≠ 0) → K l2 μ)) ∧ (¬ (l5 < 0) → (0 ≤ w32 (4 + l5) ∧ w32 (4 + l5) < 200) ∧ zJ (d + 1) m_X12_places 50 [some (zR 9 0), some (zI l1), some (zI l2), some (zI l3), some (zI l4), some (zI l5), some (zI (w32 ((μ 33 0 (w32 (4 + l5)).toNat) - 1)))] μ (zQ1 K))) : zJ (d + 1) m_X12_places 32 [some (zR 9 0), some (zI l1), some (zI l2), some (zI l3), some (zI l4), some (zI l5), none] μ (zQ1 K) := zgo [(32, [true, true, true, true, true, true, false]), (50, [true, true, true, true, true, true, true])] 400 h
set_option maxRecDepth 20000 in
theorem k_X12_places_50 (d : Nat) (l1 : Int) (l2 : Int) (l3 : Int) (l4 : Int) (l5 : Int) (l6 : Int) (μ : zM) (K : Int → zM → Prop) (h : (l6 < 0 → zJ (d + 1) m_X12_places 32 [some (zR 9 0), some (zI l1), some (zI l2), some (zI l3), some (zI l4), some (zI (w32 (l5 + (-1)))), none] μ (zQ1 K)) ∧ (¬ (l6 < 0) → zC1 d m_X12_isSo [zR 9 0, zI l5, zI l6] μ (fun x1 μ1 => (x1 = 0 → zJ (d + 1) m_X12_places 50 [some (zR 9 0), some (zI l1), some (zI l2), some (zI l3), some (zI l4), some (zI l5), some (zI (w32 (l6 + (-1))))] μ1 (zQ1 K)) ∧ (¬ (x1 = 0) → zJ (d + 1) m_X12_places 50 [some (zR 9 0), some (zI l1), some (zI (w32 (l2 + 1))), some (zI (w32 ((w32 (100 * l5)) + l6))), some (zI (zor l4 (zshl 1 l5))), some (zI l5), some (zI (w32 (l6 + (-1))))] μ1 (zQ1 K))))) : zJ (d + 1) m_X12_places 50 [some (zR 9 0), some (zI l1), some (zI l2), some (zI l3), some (zI l4), some (zI l5), some (zI l6)] μ (zQ1 K) := zgo [(32, [true, true, true, true, true, true, false]), (50, [true, true, true, true, true, true, true])] 400 h
set_option maxRecDepth 20000 in
theorem k_X12_greatestPart (d : Nat) (a1 : Int) (μ : zM) (K : Int → zM → Prop) (h : zJ (d + 1) m_X12_greatestPart 2 [some (zR 9 0), some (zI a1), some (zI 0), none, none, none] μ (zQ1 K)) : zC1 (d + 1) m_X12_greatestPart [zR 9 0, zI a1] μ K := zgo [(2, [true, true, true, false, false, false]), (25, [true, true, true, true, false, false]), (38, [true, true, true, true, true, false])] 400 h
set_option maxRecDepth 20000 in
theorem k_X12_greatestPart_2 (d : Nat) (l1 : Int) (l2 : Int) (μ : zM) (K : Int → zM → Prop) (h : (l2 ≥ 10 → zJ (d + 1) m_X12_greatestPart 25 [some (zR 9 0), some (zI l1), some (zI 0), some (zI 0), none, none] μ (zQ1 K)) ∧ (¬ (l2 ≥ 10) → (0 ≤ l2 ∧ l2 < 10) ∧ zJ (d + 1) m_X12_greatestPart 2 [some (zR 9 0), some (zI l1), some (zI (w32 (l2 + 1))), none, none, none] (zset μ 41 0 l2.toNat 0) (zQ1 K))) : zJ (d + 1) m_X12_greatestPart 2 [some (zR 9 0), some (zI l1), some (zI l2), none, none, none] μ (zQ1 K) := zgo [(2, [true, true, true, false, false, false]), (25, [true, true, true, true, false, false]), (38, [true, true, true, true, true, false])] 400 h
set_option maxRecDepth 20000 in
theorem k_X12_greatestPart_25 (d : Nat) (l1 : Int) (l2 : Int) (l3 : Int) (μ : zM) (K : Int → zM → Prop) (h : (0 ≤ (1 : Int) ∧ (1 : Int) < 200) ∧ (l3 ≥ μ 33 0 1 → K l2 μ) ∧ (¬ (l3 ≥ μ 33 0 1) → zJ (d + 1) m_X12_greatestPart 38 [some (zR 9 0), some (zI l1), some (zI l2), some (zI l3), some (zI 0), none] μ (zQ1 K))) : zJ (d + 1) m_X12_greatestPart 25 [some (zR 9 0), some (zI l1), some (zI l2), some (zI l3), none, none] μ (zQ1 K) := zgo [(2, [true, true, true, false, false, false]), (25, [true, true, true, true, false, false]), (38, [true, true, true, true, true, false])] 400 h
set_option maxRecDepth 20000 in
theorem k_X12_greatestPart_38 (d : Nat) (l1 : Int) (l2 : Int) (l3 : Int) (l4 : Int) (μ : zM) (K : Int → zM → Prop) (h : (0 ≤ w32 (4 + l3) ∧ w32 (4 + l3) < 200) ∧ (l4 ≥ μ 33 0 (w32 (4 + l3)).toNat → zJ (d + 1) m_X12_greatestPart 25 [some (zR 9 0), some (zI l1), some (zI l2), some (zI (w32 (l3 + 1))), none, none] μ (zQ1 K)) ∧ (¬ (l4 ≥ μ 33 0 (w32 (4 + l3)).toNat) → zC1 d m_X12_isSo [zR 9 0, zI l3, zI l4] μ (fun x1 μ1 => (x1 = 0 → zJ (d + 1) m_X12_greatestPart 38 [some (zR 9 0), some (zI l1), some (zI l2), some (zI l3), some (zI (w32 (l4 + 1))), none] μ1 (zQ1 K)) ∧ (¬ (x1 = 0) → (0 ≤ w32 (4 + l3) ∧ w32 (4 + l3) < 200) ∧ μ1 33 0 (w32 (4 + l3)).toNat ≠ 0 ∧ zC1 d m_X12_reads [zR 9 0, zI l3, zI (Int.tmod (w32 (l4 + l1)) (μ1 33 0 (w32 (4 + l3)).toNat))] μ1 (fun x2 μ2 => (0 ≤ x2 ∧ x2 < 10) ∧ (0 ≤ x2 ∧ x2 < 10) ∧ (0 ≤ x2 ∧ x2 < 10) ∧ ((zset μ2 41 0 x2.toNat (w32 ((μ2 41 0 x2.toNat) + 1))) 41 0 x2.toNat ≤ l2 → zJ (d + 1) m_X12_greatestPart 38 [some (zR 9 0), some (zI l1), some (zI l2), some (zI l3), some (zI (w32 (l4 + 1))), none] (zset μ2 41 0 x2.toNat (w32 ((μ2 41 0 x2.toNat) + 1))) (zQ1 K)) ∧ (¬ ((zset μ2 41 0 x2.toNat (w32 ((μ2 41 0 x2.toNat) + 1))) 41 0 x2.toNat ≤ l2) → (0 ≤ x2 ∧ x2 < 10) ∧ zJ (d + 1) m_X12_greatestPart 38 [some (zR 9 0), some (zI l1), some (zI ((zset μ2 41 0 x2.toNat (w32 ((μ2 41 0 x2.toNat) + 1))) 41 0 x2.toNat)), some (zI l3), some (zI (w32 (l4 + 1))), none] (zset μ2 41 0 x2.toNat (w32 ((μ2 41 0 x2.toNat) + 1))) (zQ1 K))))))) : zJ (d + 1) m_X12_greatestPart 38 [some (zR 9 0), some (zI l1), some (zI l2), some (zI l3), some (zI l4), none] μ (zQ1 K) := zgo [(2, [true, true, true, false, false, false]), (25, [true, true, true, true, false, false]), (38, [true, true, true, true, true, false])] 400 h
set_option maxRecDepth 20000 in
theorem k_X12_lookAt (d : Nat)  (μ : zM) (K : Int → zM → Prop) (h : zC1 d m_X12_places [zR 9 0, zI 0] μ (fun x1 μ1 => zJ (d + 1) m_X12_lookAt 10 [some (zR 9 0), some (zI x1), some (zI ((-1))), some (zI 0), none] μ1 (zQ1 K))) : zC1 (d + 1) m_X12_lookAt [zR 9 0] μ K := zgo [(10, [true, true, true, true, false])] 400 h
set_option maxRecDepth 20000 in
theorem k_X12_lookAt_10 (d : Nat) (l1 : Int) (l2 : Int) (l3 : Int) (μ : zM) (K : Int → zM → Prop) (h : (l3 ≥ 12 → K l2 μ) ∧ (¬ (l3 ≥ 12) → zC1 d m_X12_greatestPart [zR 9 0, zI l3] μ (fun x1 μ1 => (x1 ≥ l1 → zC1 d m_X12_lesser [zI x1, zI l1] μ1 (fun x2 μ2 => zJ (d + 1) m_X12_lookAt 10 [some (zR 9 0), some (zI x2), some (zI l2), some (zI (w32 (l3 + 1))), none] μ2 (zQ1 K))) ∧ (¬ (x1 ≥ l1) → zC1 d m_X12_lesser [zI x1, zI l1] μ1 (fun x3 μ3 => zJ (d + 1) m_X12_lookAt 10 [some (zR 9 0), some (zI x3), some (zI l3), some (zI (w32 (l3 + 1))), none] μ3 (zQ1 K)))))) : zJ (d + 1) m_X12_lookAt 10 [some (zR 9 0), some (zI l1), some (zI l2), some (zI l3), none] μ (zQ1 K) := zgo [(10, [true, true, true, true, false])] 400 h
set_option maxRecDepth 20000 in
theorem k_X12_write (d : Nat) (a1 : Int) (a2 : Int) (a3 : Int) (μ : zM) (K : Int → zM → Prop) (h : zC1 d m_X12_isBar [zR 9 0, zI a1, zI a2] μ (fun x1 μ1 => (x1 ≠ 0 → zC1 d m_X12_in [zL a3, zL 0, zL 9] μ1 (fun x2 μ2 => (x2 ≠ 0 → (μ2 9 0 15 ≠ 20 → (0 ≤ w32 (3 * (μ2 9 0 15)) ∧ w32 (3 * (μ2 9 0 15)) < 60) ∧ (0 ≤ w32 ((w32 (3 * ((zset μ2 40 0 (w32 (3 * (μ2 9 0 15))).toNat a1) 9 0 15))) + 1) ∧ w32 ((w32 (3 * ((zset μ2 40 0 (w32 (3 * (μ2 9 0 15))).toNat a1) 9 0 15))) + 1) < 60) ∧ (0 ≤ w32 ((w32 (3 * ((zset (zset μ2 40 0 (w32 (3 * (μ2 9 0 15))).toNat a1) 40 0 (w32 ((w32 (3 * ((zset μ2 40 0 (w32 (3 * (μ2 9 0 15))).toNat a1) 9 0 15))) + 1)).toNat a2) 9 0 15))) + 2) ∧ w32 ((w32 (3 * ((zset (zset μ2 40 0 (w32 (3 * (μ2 9 0 15))).toNat a1) 40 0 (w32 ((w32 (3 * ((zset μ2 40 0 (w32 (3 * (μ2 9 0 15))).toNat a1) 9 0 15))) + 1)).toNat a2) 9 0 15))) + 2) < 60) ∧ K ((zset (zset (zset (zset μ2 40 0 (w32 (3 * (μ2 9 0 15))).toNat a1) 40 0 (w32 ((w32 (3 * ((zset μ2 40 0 (w32 (3 * (μ2 9 0 15))).toNat a1) 9 0 15))) + 1)).toNat a2) 40 0 (w32 ((w32 (3 * ((zset (zset μ2 40 0 (w32 (3 * (μ2 9 0 15))).toNat a1) 40 0 (w32 ((w32 (3 * ((zset μ2 40 0 (w32 (3 * (μ2 9 0 15))).toNat a1) 9 0 15))) + 1)).toNat a2) 9 0 15))) + 2)).toNat a3) 9 0 15 (w32 (((zset (zset (zset μ2 40 0 (w32 (3 * (μ2 9 0 15))).toNat a1) 40 0 (w32 ((w32 (3 * ((zset μ2 40 0 (w32 (3 * (μ2 9 0 15))).toNat a1) 9 0 15))) + 1)).toNat a2) 40 0 (w32 ((w32 (3 * ((zset (zset μ2 40 0 (w32 (3 * (μ2 9 0 15))).toNat a1) 40 0 (w32 ((w32 (3 * ((zset μ2 40 0 (w32 (3 * (μ2 9 0 15))).toNat a1) 9 0 15))) + 1)).toNat a2) 9 0 15))) + 2)).toNat a3) 9 0 15) + 1))) 9 0 15) (zset (zset (zset (zset μ2 40 0 (w32 (3 * (μ2 9 0 15))).toNat a1) 40 0 (w32 ((w32 (3 * ((zset μ2 40 0 (w32 (3 * (μ2 9 0 15))).toNat a1) 9 0 15))) + 1)).toNat a2) 40 0 (w32 ((w32 (3 * ((zset (zset μ2 40 0 (w32 (3 * (μ2 9 0 15))).toNat a1) 40 0 (w32 ((w32 (3 * ((zset μ2 40 0 (w32 (3 * (μ2 9 0 15))).toNat a1) 9 0 15))) + 1)).toNat a2) 9 0 15))) + 2)).toNat a3) 9 0 15 (w32 (((zset (zset (zset μ2 40 0 (w32 (3 * (μ2 9 0 15))).toNat a1) 40 0 (w32 ((w32 (3 * ((zset μ2 40 0 (w32 (3 * (μ2 9 0 15))).toNat a1) 9 0 15))) + 1)).toNat a2) 40 0 (w32 ((w32 (3 * ((zset (zset μ2 40 0 (w32 (3 * (μ2 9 0 15))).toNat a1) 40 0 (w32 ((w32 (3 * ((zset μ2 40 0 (w32 (3 * (μ2 9 0 15))).toNat a1) 9 0 15))) + 1)).toNat a2) 9 0 15))) + 2)).toNat a3) 9 0 15) + 1)))) ∧ (¬ (μ2 9 0 15 ≠ 20) → K ((-1000000004)) μ2)) ∧ (¬ (x2 ≠ 0) → K ((-1000000002)) μ2))) ∧ (¬ (x1 ≠ 0) → K ((-1000000001)) μ1))) : zC1 (d + 1) m_X12_write [zR 9 0, zI a1, zI a2, zI a3] μ K := zgo [] 400 h
set_option maxRecDepth 20000 in
theorem k_X12_judge (d : Nat)  (μ : zM) (K : Int → zM → Prop) (h : zJ (d + 1) m_X12_judge 2 [some (zR 9 0), some (zI 0)] μ (zQ1 K)) : zC1 (d + 1) m_X12_judge [zR 9 0] μ K := zgo [(2, [true, true])] 400 h
set_option maxRecDepth 20000 in
theorem k_X12_judge_2 (d : Nat) (l1 : Int) (μ : zM) (K : Int → zM → Prop) (h : (l1 ≥ μ 9 0 15 → K ((-1)) μ) ∧ (¬ (l1 ≥ μ 9 0 15) → (0 ≤ w32 (3 * l1) ∧ w32 (3 * l1) < 60) ∧ (0 ≤ w32 ((w32 (3 * l1)) + 1) ∧ w32 ((w32 (3 * l1)) + 1) < 60) ∧ zC1 d m_X12_reads [zR 9 0, zI (μ 40 0 (w32 (3 * l1)).toNat), zI (μ 40 0 (w32 ((w32 (3 * l1)) + 1)).toNat)] μ (fun x1 μ1 => (0 ≤ w32 ((w32 (3 * l1)) + 2) ∧ w32 ((w32 (3 * l1)) + 2) < 60) ∧ (x1 = μ1 40 0 (w32 ((w32 (3 * l1)) + 2)).toNat → zJ (d + 1) m_X12_judge 2 [some (zR 9 0), some (zI (w32 (l1 + 1)))] μ1 (zQ1 K)) ∧ (¬ (x1 = μ1 40 0 (w32 ((w32 (3 * l1)) + 2)).toNat) → K l1 μ1)))) : zJ (d + 1) m_X12_judge 2 [some (zR 9 0), some (zI l1)] μ (zQ1 K) := zgo [(2, [true, true])] 400 h
set_option maxRecDepth 20000 in
theorem k_X12_tear (d : Nat)  (μ : zM) (K : Int → zM → Prop) (h : K (w32 ((μ 9 0 13) + (μ 9 0 15))) (zset (zset μ 9 0 13 0) 9 0 15 0)) : zC1 d m_X12_tear [zR 9 0] μ K := zgo [] 400 h
set_option maxRecDepth 20000 in
theorem k_X12_seed (d : Nat) (a1 : Int) (μ : zM) (K : Int → zM → Prop) (h : (a1 ≥ 0 → K (w32 (μ 9 0 8)) (zset μ 9 0 8 a1)) ∧ (¬ (a1 ≥ 0) → K ((-1000000002)) μ)) : zC1 d m_X12_seed [zR 9 0, zI a1] μ K := zgo [] 400 h
set_option maxRecDepth 20000 in
theorem k_X12_keep (d : Nat) (a1 : Int) (μ : zM) (K : Int → zM → Prop) (h : zC1 d m_X12_in [zL a1, zL 0, zL 1] μ (fun x1 μ1 => (x1 ≠ 0 → zC0 d m_X12_copies [zR 34 0, zI 0, zR 36 0, zI (w32 (45 * a1)), zI 44] μ1 (fun μ2 => (0 ≤ w32 ((w32 (45 * a1)) + 44) ∧ w32 ((w32 (45 * a1)) + 44) < 90) ∧ ((0 ≤ a1 ∧ a1 < 2) ∧ ((1 : Int) = 0 ∨ (1 : Int) = 1)) ∧ K 1 (zset (zset (zset μ2 36 0 (w32 ((w32 (45 * a1)) + 44)).toNat (w32 (μ2 9 0 8))) 37 0 a1.toNat 1) 9 0 5 0))) ∧ (¬ (x1 ≠ 0) → K ((-1000000001)) μ1))) : zC1 (d + 1) m_X12_keep [zR 9 0, zI a1] μ K := zgo [] 400 h
set_option maxRecDepth 20000 in
theorem k_X12_goBack (d : Nat) (a1 : Int) (μ : zM) (K : Int → zM → Prop) (h : zC1 d m_X12_in [zL a1, zL 0, zL 1] μ (fun x1 μ1 => (x1 ≠ 0 → (0 ≤ a1 ∧ a1 < 2) ∧ (μ1 37 0 a1.toNat ≠ 0 → zC0 d m_X12_copies [zR 36 0, zI (w32 (45 * a1)), zR 34 0, zI 0, zI 44] μ1 (fun μ2 => (0 ≤ w32 ((w32 (45 * a1)) + 44) ∧ w32 ((w32 (45 * a1)) + 44) < 90) ∧ K 1 (zset (zset μ2 9 0 8 (μ2 36 0 (w32 ((w32 (45 * a1)) + 44)).toNat)) 9 0 5 0))) ∧ (¬ (μ1 37 0 a1.toNat ≠ 0) → K ((-1000000003)) μ1)) ∧ (¬ (x1 ≠ 0) → K ((-1000000001)) μ1))) : zC1 (d + 1) m_X12_goBack [zR 9 0, zI a1] μ K := zgo [] 400 h
end
section
/-! PURE: bits of small sets, sums -/
def zbit (s : Int) (k : Nat) : Bool := decide (s / 2 ^ k % 2 = 1)
theorem z_s31 : ∀ n : Nat, n < 32 → ((Int32.ofInt (n : Int) &&& 31).toBitVec.smod 32).toNat = n := by decide +kernel
theorem z_shrN {s : Int} {k : Nat} (hs : zin s) (hk : k < 32) : zshr s k = s / 2 ^ k := by
  unfold zshr
  rw [pk_shr (Int32.ofInt s) (Int32.ofInt (k : Int) &&& 31) k (z_s31 k hk), z_ti hs, Int.shiftRight_eq_div_pow]
  rfl
theorem z_and1 {x : Int} (hx : zin x) : zand x 1 = x % 2 := by
  unfold zand
  have h1 : (Int32.ofInt 1).toBitVec.toNat = 2 ^ 1 - 1 := rfl
  rw [pk_and (Int32.ofInt x) 1 h1]
  rw [nI_toInt (by have := Nat.mod_lt (Int32.ofInt x).toBitVec.toNat (show 0 < 2 ^ 1 by decide); omega)]
  have h2 := z_ti hx
  have h3 : (Int32.ofInt x).toInt = (Int32.ofInt x).toBitVec.toInt := rfl
  rw [h3, BitVec.toInt_eq_toNat_cond] at h2
  have h4 := (Int32.ofInt x).toBitVec.isLt
  split at h2 <;> omega
theorem z_has {s : Int} {k : Nat} (hs : zin s) (hk : k < 32) : zand (zshr s k) 1 = s / 2 ^ k % 2 := by
  rw [z_shrN hs hk, z_and1]
  have h1 : (0 : Int) < 2 ^ k := Int.pow_pos (by omega)
  obtain ⟨h2, h3⟩ := hs
  have h4 := Int.ediv_le_self (b := 2 ^ k) (a := s)
  refine ⟨?_, ?_⟩
  · rw [Int.le_ediv_iff_mul_le h1]
    have h5 : (1 : Int) ≤ 2 ^ k := h1
    have h6 := Int.mul_le_mul_of_nonneg_left h5 (show (0 : Int) ≤ 2147483648 by omega)
    rw [Int.neg_mul]
    omega
  · rcases Int.le_total 0 s with q | q
    · have := h4 q; omega
    · have : s / 2 ^ k ≤ 0 := by
        rcases Int.lt_or_le 0 (s / 2 ^ k) with z | z
        · have := (Int.le_ediv_iff_mul_le h1 (a := 1) (b := s)).mp z
          omega
        · exact z
      omega
theorem z_has1 {s : Int} {k : Nat} (hs : zin s) (hk : k < 32) : zand (zshr s k) 1 = 1 ↔ zbit s k = true := by
  rw [z_has hs hk]; unfold zbit; simp
theorem z_shl1 : ∀ k : Nat, k < 31 → zshl 1 (k : Int) = (2 : Int) ^ k := by decide +kernel
/-- a bit more, a bit turned, a bit less -/
def zon (s : Int) (k : Nat) : Int := if zbit s k then s else s + 2 ^ k
def zoff (s : Int) (k : Nat) : Int := if zbit s k then s - 2 ^ k else s
def zflip (s : Int) (k : Nat) : Int := if zbit s k then s - 2 ^ k else s + 2 ^ k
theorem z_orCD : ∀ x : Nat, x < 64 → ∀ y : Nat, y < 64 → ∀ k : Nat, k < 12 → zor ((64 * x + y : Nat) : Int) ((2 : Int) ^ k) = zon ((64 * x + y : Nat) : Int) k := by decide +kernel
theorem z_orC : ∀ a : Nat, a < 4096 → ∀ k : Nat, k < 12 → zor (a : Int) ((2 : Int) ^ k) = zon (a : Int) k := by
  intro a ha k hk
  have h := z_orCD (a / 64) (by omega) (a % 64) (by omega) k hk
  rw [show 64 * (a / 64) + a % 64 = a by omega] at h
  exact h
theorem z_xorCD : ∀ x : Nat, x < 64 → ∀ y : Nat, y < 64 → ∀ k : Nat, k < 12 → zxor ((64 * x + y : Nat) : Int) ((2 : Int) ^ k) = zflip ((64 * x + y : Nat) : Int) k := by decide +kernel
theorem z_xorC : ∀ a : Nat, a < 4096 → ∀ k : Nat, k < 12 → zxor (a : Int) ((2 : Int) ^ k) = zflip (a : Int) k := by
  intro a ha k hk
  have h := z_xorCD (a / 64) (by omega) (a % 64) (by omega) k hk
  rw [show 64 * (a / 64) + a % 64 = a by omega] at h
  exact h
theorem z_offCD : ∀ x : Nat, x < 64 → ∀ y : Nat, y < 64 → ∀ k : Nat, k < 12 → zand ((64 * x + y : Nat) : Int) (zxor ((2 : Int) ^ k) (-1)) = zoff ((64 * x + y : Nat) : Int) k := by decide +kernel
theorem z_offC : ∀ a : Nat, a < 4096 → ∀ k : Nat, k < 12 → zand (a : Int) (zxor ((2 : Int) ^ k) (-1)) = zoff (a : Int) k := by
  intro a ha k hk
  have h := z_offCD (a / 64) (by omega) (a % 64) (by omega) k hk
  rw [show 64 * (a / 64) + a % 64 = a by omega] at h
  exact h
/-- a set of at most twelve -/
def zset12 (s : Int) : Prop := 0 ≤ s ∧ s < 4096
theorem z_or12 {s : Int} (h : zset12 s) {k : Nat} (hk : k < 12) : zor s (zshl 1 (k : Int)) = zon s k := by
  obtain ⟨n, rfl⟩ := Int.eq_ofNat_of_zero_le h.1
  rw [z_shl1 k (by omega)]
  exact z_orC n (by have := h.2; omega) k hk
theorem z_xor12 {s : Int} (h : zset12 s) {k : Nat} (hk : k < 12) : zxor s (zshl 1 (k : Int)) = zflip s k := by
  obtain ⟨n, rfl⟩ := Int.eq_ofNat_of_zero_le h.1
  rw [z_shl1 k (by omega)]
  exact z_xorC n (by have := h.2; omega) k hk
theorem z_off12 {s : Int} (h : zset12 s) {k : Nat} (hk : k < 12) : zand s (zxor (zshl 1 (k : Int)) (-1)) = zoff s k := by
  obtain ⟨n, rfl⟩ := Int.eq_ofNat_of_zero_le h.1
  rw [z_shl1 k (by omega)]
  exact z_offC n (by have := h.2; omega) k hk
theorem z_onCD : ∀ x : Nat, x < 64 → ∀ y : Nat, y < 64 → ∀ k : Nat, k < 12 → 0 ≤ zon ((64 * x + y : Nat) : Int) k ∧ zon ((64 * x + y : Nat) : Int) k < 4096 := by decide +kernel
theorem z_onC : ∀ a : Nat, a < 4096 → ∀ k : Nat, k < 12 → 0 ≤ zon (a : Int) k ∧ zon (a : Int) k < 4096 := by
  intro a ha k hk
  have h := z_onCD (a / 64) (by omega) (a % 64) (by omega) k hk
  rw [show 64 * (a / 64) + a % 64 = a by omega] at h
  exact h
theorem z_flipCD : ∀ x : Nat, x < 64 → ∀ y : Nat, y < 64 → ∀ k : Nat, k < 12 → 0 ≤ zflip ((64 * x + y : Nat) : Int) k ∧ zflip ((64 * x + y : Nat) : Int) k < 4096 := by decide +kernel
theorem z_flipC : ∀ a : Nat, a < 4096 → ∀ k : Nat, k < 12 → 0 ≤ zflip (a : Int) k ∧ zflip (a : Int) k < 4096 := by
  intro a ha k hk
  have h := z_flipCD (a / 64) (by omega) (a % 64) (by omega) k hk
  rw [show 64 * (a / 64) + a % 64 = a by omega] at h
  exact h
theorem z_on12 {s : Int} (h : zset12 s) {k : Nat} (hk : k < 12) : zset12 (zon s k) := by
  obtain ⟨n, rfl⟩ := Int.eq_ofNat_of_zero_le h.1
  exact z_onC n (by have := h.2; omega) k hk
theorem z_flip12 {s : Int} (h : zset12 s) {k : Nat} (hk : k < 12) : zset12 (zflip s k) := by
  obtain ⟨n, rfl⟩ := Int.eq_ofNat_of_zero_le h.1
  exact z_flipC n (by have := h.2; omega) k hk
theorem zset12_in {s : Int} (h : zset12 s) : zin s := ⟨by have := h.1; omega, by have := h.2; omega⟩
theorem zbit_m (s : Int) (k : Nat) : s / 2 ^ k % 2 = if zbit s k = true then 1 else 0 := by
  unfold zbit
  by_cases h : s / 2 ^ k % 2 = 1
  · simp [h]
  · simp [h]; omega
/-- sums -/
def zSm (f : Nat → Int) : Nat → Int
  | 0 => 0
  | n + 1 => zSm f n + f n
theorem zSm_ext {f g : Nat → Int} : ∀ {n : Nat}, (∀ b, b < n → f b = g b) → zSm f n = zSm g n
  | 0, _ => rfl
  | n + 1, h => by
    unfold zSm
    rw [zSm_ext (n := n) (fun b hb => h b (by omega)), h n (by omega)]
theorem zSm_rg {f : Nat → Int} {m : Int} : ∀ {n : Nat}, (∀ b, b < n → 0 ≤ f b ∧ f b ≤ m) → 0 ≤ zSm f n ∧ zSm f n ≤ m * n
  | 0, _ => by simp [zSm]
  | n + 1, h => by
    have h1 := zSm_rg (f := f) (m := m) (n := n) (fun b hb => h b (by omega))
    have h2 := h n (by omega)
    unfold zSm
    have e : m * ((n + 1 : Nat) : Int) = m * n + m := by rw [Int.natCast_add, Int.mul_add]; simp
    omega
end
section
/-! SPECS of the rows: read, written, copied, filled (by program) -/
def zfil (μ : zM) (t j n : Nat) (v : Int) : zM := fun t' i' k' => if t' = t ∧ i' = j ∧ k' < n then v else μ t' i' k'
theorem zfil_0 (μ : zM) (t j : Nat) (v : Int) : zfil μ t j 0 v = μ := by
  funext a b c; unfold zfil; rw [if_neg]; omega
theorem zfil_s (μ : zM) (t j n : Nat) (v : Int) : zset (zfil μ t j n v) t j n v = zfil μ t j (n + 1) v := by
  funext a b c
  unfold zset zfil
  by_cases h : a = t ∧ b = j ∧ c = n
  · rw [if_pos h, if_pos ⟨h.1, h.2.1, by omega⟩]
  · rw [if_neg h]
    by_cases h2 : a = t ∧ b = j ∧ c < n
    · rw [if_pos h2, if_pos ⟨h2.1, h2.2.1, by omega⟩]
    · rw [if_neg h2, if_neg]
      rintro ⟨q1, q2, q3⟩
      by_cases h3 : c = n
      · exact h ⟨q1, q2, h3⟩
      · exact h2 ⟨q1, q2, by omega⟩
theorem zcpy_0 (μ : zM) (t i sp u j dp : Nat) : zcpy μ t i sp u j dp 0 = μ := by
  funext a b c; unfold zcpy; rw [if_neg]; omega
theorem zcpy_src (μ : zM) (t i sp u j dp n x : Nat) (h : t ≠ u ∨ i ≠ j) : zcpy μ t i sp u j dp n t i x = μ t i x := by
  unfold zcpy; rw [if_neg]; rintro ⟨q1, q2, -⟩; rcases h with h | h
  · exact h q1
  · exact h q2
theorem zcpy_s (μ : zM) (t i sp u j dp n : Nat) : zset (zcpy μ t i sp u j dp n) u j (dp + n) (μ t i (sp + n)) = zcpy μ t i sp u j dp (n + 1) := by
  funext a b c
  unfold zset zcpy
  by_cases h : a = u ∧ b = j ∧ c = dp + n
  · rw [if_pos h, if_pos ⟨h.1, h.2.1, by omega, by omega⟩, h.2.2, Nat.add_sub_cancel_left]
  · rw [if_neg h]
    by_cases h2 : a = u ∧ b = j ∧ dp ≤ c ∧ c < dp + n
    · rw [if_pos h2, if_pos ⟨h2.1, h2.2.1, h2.2.2.1, by omega⟩]
    · rw [if_neg h2, if_neg]
      rintro ⟨q1, q2, q3, q4⟩
      by_cases h3 : c = dp + n
      · exact h ⟨q1, q2, h3⟩
      · exact h2 ⟨q1, q2, q3, by omega⟩
theorem s_at_10 (d : Nat) (j : Nat) (r : Nat) (hr : r < 6) (μ : zM) (K : Int → zM → Prop) (h : K (μ 10 j r) μ) : zC1 d m_X9_at [zR 10 j, zI (r : Int)] μ K :=
  k_X9_at_t10 d j (r : Int) μ K ⟨fun q => absurd q (by omega), fun _ => ⟨fun q => absurd q (by omega), fun _ => ⟨⟨by omega, by omega⟩, h⟩⟩⟩
theorem sg_at_10 (d : Nat) (j : Nat) (r : Int) (μ : zM) (K : Int → zM → Prop) (h : (∀ n : Nat, n < 6 → r = n → K (μ 10 j n) μ) ∧ ((r < 0 ∨ 6 ≤ r) → K 0 μ)) : zC1 d m_X9_at [zR 10 j, zI r] μ K :=
  k_X9_at_t10 d j r μ K ⟨fun q => h.2 (Or.inl q), fun q1 => ⟨fun q => h.2 (Or.inr q), fun q2 => ⟨⟨by omega, by omega⟩, h.1 r.toNat (by omega) (by omega)⟩⟩⟩
theorem s_at_11 (d : Nat) (j : Nat) (r : Nat) (hr : r < 72) (μ : zM) (K : Int → zM → Prop) (h : K (μ 11 j r) μ) : zC1 d m_X9_at [zR 11 j, zI (r : Int)] μ K :=
  k_X9_at_t11 d j (r : Int) μ K ⟨fun q => absurd q (by omega), fun _ => ⟨fun q => absurd q (by omega), fun _ => ⟨⟨by omega, by omega⟩, h⟩⟩⟩
theorem sg_at_11 (d : Nat) (j : Nat) (r : Int) (μ : zM) (K : Int → zM → Prop) (h : (∀ n : Nat, n < 72 → r = n → K (μ 11 j n) μ) ∧ ((r < 0 ∨ 72 ≤ r) → K 0 μ)) : zC1 d m_X9_at [zR 11 j, zI r] μ K :=
  k_X9_at_t11 d j r μ K ⟨fun q => h.2 (Or.inl q), fun q1 => ⟨fun q => h.2 (Or.inr q), fun q2 => ⟨⟨by omega, by omega⟩, h.1 r.toNat (by omega) (by omega)⟩⟩⟩
theorem s_at_12 (d : Nat) (j : Nat) (r : Nat) (hr : r < 72) (μ : zM) (K : Int → zM → Prop) (h : K (μ 12 j r) μ) : zC1 d m_X9_at [zR 12 j, zI (r : Int)] μ K :=
  k_X9_at_t12 d j (r : Int) μ K ⟨fun q => absurd q (by omega), fun _ => ⟨fun q => absurd q (by omega), fun _ => ⟨⟨by omega, by omega⟩, h⟩⟩⟩
theorem sg_at_12 (d : Nat) (j : Nat) (r : Int) (μ : zM) (K : Int → zM → Prop) (h : (∀ n : Nat, n < 72 → r = n → K (μ 12 j n) μ) ∧ ((r < 0 ∨ 72 ≤ r) → K 0 μ)) : zC1 d m_X9_at [zR 12 j, zI r] μ K :=
  k_X9_at_t12 d j r μ K ⟨fun q => h.2 (Or.inl q), fun q1 => ⟨fun q => h.2 (Or.inr q), fun q2 => ⟨⟨by omega, by omega⟩, h.1 r.toNat (by omega) (by omega)⟩⟩⟩
theorem s_at_13 (d : Nat) (j : Nat) (r : Nat) (hr : r < 15) (μ : zM) (K : Int → zM → Prop) (h : K (μ 13 j r) μ) : zC1 d m_X9_at [zR 13 j, zI (r : Int)] μ K :=
  k_X9_at_t13 d j (r : Int) μ K ⟨fun q => absurd q (by omega), fun _ => ⟨fun q => absurd q (by omega), fun _ => ⟨⟨by omega, by omega⟩, h⟩⟩⟩
theorem sg_at_13 (d : Nat) (j : Nat) (r : Int) (μ : zM) (K : Int → zM → Prop) (h : (∀ n : Nat, n < 15 → r = n → K (μ 13 j n) μ) ∧ ((r < 0 ∨ 15 ≤ r) → K 0 μ)) : zC1 d m_X9_at [zR 13 j, zI r] μ K :=
  k_X9_at_t13 d j r μ K ⟨fun q => h.2 (Or.inl q), fun q1 => ⟨fun q => h.2 (Or.inr q), fun q2 => ⟨⟨by omega, by omega⟩, h.1 r.toNat (by omega) (by omega)⟩⟩⟩
theorem s_at_14 (d : Nat) (j : Nat) (r : Nat) (hr : r < 24) (μ : zM) (K : Int → zM → Prop) (h : K (μ 14 j r) μ) : zC1 d m_X9_at [zR 14 j, zI (r : Int)] μ K :=
  k_X9_at_t14 d j (r : Int) μ K ⟨fun q => absurd q (by omega), fun _ => ⟨fun q => absurd q (by omega), fun _ => ⟨⟨by omega, by omega⟩, h⟩⟩⟩
theorem sg_at_14 (d : Nat) (j : Nat) (r : Int) (μ : zM) (K : Int → zM → Prop) (h : (∀ n : Nat, n < 24 → r = n → K (μ 14 j n) μ) ∧ ((r < 0 ∨ 24 ≤ r) → K 0 μ)) : zC1 d m_X9_at [zR 14 j, zI r] μ K :=
  k_X9_at_t14 d j r μ K ⟨fun q => h.2 (Or.inl q), fun q1 => ⟨fun q => h.2 (Or.inr q), fun q2 => ⟨⟨by omega, by omega⟩, h.1 r.toNat (by omega) (by omega)⟩⟩⟩
theorem s_at_15 (d : Nat) (j : Nat) (r : Nat) (hr : r < 6) (μ : zM) (K : Int → zM → Prop) (h : K (μ 15 j r) μ) : zC1 d m_X9_at [zR 15 j, zI (r : Int)] μ K :=
  k_X9_at_t15 d j (r : Int) μ K ⟨fun q => absurd q (by omega), fun _ => ⟨fun q => absurd q (by omega), fun _ => ⟨⟨by omega, by omega⟩, h⟩⟩⟩
theorem sg_at_15 (d : Nat) (j : Nat) (r : Int) (μ : zM) (K : Int → zM → Prop) (h : (∀ n : Nat, n < 6 → r = n → K (μ 15 j n) μ) ∧ ((r < 0 ∨ 6 ≤ r) → K 0 μ)) : zC1 d m_X9_at [zR 15 j, zI r] μ K :=
  k_X9_at_t15 d j r μ K ⟨fun q => h.2 (Or.inl q), fun q1 => ⟨fun q => h.2 (Or.inr q), fun q2 => ⟨⟨by omega, by omega⟩, h.1 r.toNat (by omega) (by omega)⟩⟩⟩
theorem s_at_16 (d : Nat) (j : Nat) (r : Nat) (hr : r < 5) (μ : zM) (K : Int → zM → Prop) (h : K (μ 16 j r) μ) : zC1 d m_X9_at [zR 16 j, zI (r : Int)] μ K :=
  k_X9_at_t16 d j (r : Int) μ K ⟨fun q => absurd q (by omega), fun _ => ⟨fun q => absurd q (by omega), fun _ => ⟨⟨by omega, by omega⟩, h⟩⟩⟩
theorem sg_at_16 (d : Nat) (j : Nat) (r : Int) (μ : zM) (K : Int → zM → Prop) (h : (∀ n : Nat, n < 5 → r = n → K (μ 16 j n) μ) ∧ ((r < 0 ∨ 5 ≤ r) → K 0 μ)) : zC1 d m_X9_at [zR 16 j, zI r] μ K :=
  k_X9_at_t16 d j r μ K ⟨fun q => h.2 (Or.inl q), fun q1 => ⟨fun q => h.2 (Or.inr q), fun q2 => ⟨⟨by omega, by omega⟩, h.1 r.toNat (by omega) (by omega)⟩⟩⟩
theorem s_at_17 (d : Nat) (j : Nat) (r : Nat) (hr : r < 5) (μ : zM) (K : Int → zM → Prop) (h : K (μ 17 j r) μ) : zC1 d m_X9_at [zR 17 j, zI (r : Int)] μ K :=
  k_X9_at_t17 d j (r : Int) μ K ⟨fun q => absurd q (by omega), fun _ => ⟨fun q => absurd q (by omega), fun _ => ⟨⟨by omega, by omega⟩, h⟩⟩⟩
theorem sg_at_17 (d : Nat) (j : Nat) (r : Int) (μ : zM) (K : Int → zM → Prop) (h : (∀ n : Nat, n < 5 → r = n → K (μ 17 j n) μ) ∧ ((r < 0 ∨ 5 ≤ r) → K 0 μ)) : zC1 d m_X9_at [zR 17 j, zI r] μ K :=
  k_X9_at_t17 d j r μ K ⟨fun q => h.2 (Or.inl q), fun q1 => ⟨fun q => h.2 (Or.inr q), fun q2 => ⟨⟨by omega, by omega⟩, h.1 r.toNat (by omega) (by omega)⟩⟩⟩
theorem s_at_18 (d : Nat) (j : Nat) (r : Nat) (hr : r < 5) (μ : zM) (K : Int → zM → Prop) (h : K (μ 18 j r) μ) : zC1 d m_X9_at [zR 18 j, zI (r : Int)] μ K :=
  k_X9_at_t18 d j (r : Int) μ K ⟨fun q => absurd q (by omega), fun _ => ⟨fun q => absurd q (by omega), fun _ => ⟨⟨by omega, by omega⟩, h⟩⟩⟩
theorem sg_at_18 (d : Nat) (j : Nat) (r : Int) (μ : zM) (K : Int → zM → Prop) (h : (∀ n : Nat, n < 5 → r = n → K (μ 18 j n) μ) ∧ ((r < 0 ∨ 5 ≤ r) → K 0 μ)) : zC1 d m_X9_at [zR 18 j, zI r] μ K :=
  k_X9_at_t18 d j r μ K ⟨fun q => h.2 (Or.inl q), fun q1 => ⟨fun q => h.2 (Or.inr q), fun q2 => ⟨⟨by omega, by omega⟩, h.1 r.toNat (by omega) (by omega)⟩⟩⟩
theorem s_at_19 (d : Nat) (j : Nat) (r : Nat) (hr : r < 20) (μ : zM) (K : Int → zM → Prop) (h : K (μ 19 j r) μ) : zC1 d m_X9_at [zR 19 j, zI (r : Int)] μ K :=
  k_X9_at_t19 d j (r : Int) μ K ⟨fun q => absurd q (by omega), fun _ => ⟨fun q => absurd q (by omega), fun _ => ⟨⟨by omega, by omega⟩, h⟩⟩⟩
theorem sg_at_19 (d : Nat) (j : Nat) (r : Int) (μ : zM) (K : Int → zM → Prop) (h : (∀ n : Nat, n < 20 → r = n → K (μ 19 j n) μ) ∧ ((r < 0 ∨ 20 ≤ r) → K 0 μ)) : zC1 d m_X9_at [zR 19 j, zI r] μ K :=
  k_X9_at_t19 d j r μ K ⟨fun q => h.2 (Or.inl q), fun q1 => ⟨fun q => h.2 (Or.inr q), fun q2 => ⟨⟨by omega, by omega⟩, h.1 r.toNat (by omega) (by omega)⟩⟩⟩
theorem s_at_23 (d : Nat) (r : Nat) (hr : r < 2) (μ : zM) (K : Int → zM → Prop) (h : K (μ 23 0 r) μ) : zC1 d m_X9_at [zR 23 0, zI (r : Int)] μ K :=
  k_X9_at_t23 d (r : Int) μ K ⟨fun q => absurd q (by omega), fun _ => ⟨fun q => absurd q (by omega), fun _ => ⟨⟨by omega, by omega⟩, h⟩⟩⟩
theorem sg_at_23 (d : Nat) (r : Int) (μ : zM) (K : Int → zM → Prop) (h : (∀ n : Nat, n < 2 → r = n → K (μ 23 0 n) μ) ∧ ((r < 0 ∨ 2 ≤ r) → K 0 μ)) : zC1 d m_X9_at [zR 23 0, zI r] μ K :=
  k_X9_at_t23 d r μ K ⟨fun q => h.2 (Or.inl q), fun q1 => ⟨fun q => h.2 (Or.inr q), fun q2 => ⟨⟨by omega, by omega⟩, h.1 r.toNat (by omega) (by omega)⟩⟩⟩
theorem s_at_24 (d : Nat) (r : Nat) (hr : r < 6) (μ : zM) (K : Int → zM → Prop) (h : K (μ 24 0 r) μ) : zC1 d m_X9_at [zR 24 0, zI (r : Int)] μ K :=
  k_X9_at_t24 d (r : Int) μ K ⟨fun q => absurd q (by omega), fun _ => ⟨fun q => absurd q (by omega), fun _ => ⟨⟨by omega, by omega⟩, h⟩⟩⟩
theorem sg_at_24 (d : Nat) (r : Int) (μ : zM) (K : Int → zM → Prop) (h : (∀ n : Nat, n < 6 → r = n → K (μ 24 0 n) μ) ∧ ((r < 0 ∨ 6 ≤ r) → K 0 μ)) : zC1 d m_X9_at [zR 24 0, zI r] μ K :=
  k_X9_at_t24 d r μ K ⟨fun q => h.2 (Or.inl q), fun q1 => ⟨fun q => h.2 (Or.inr q), fun q2 => ⟨⟨by omega, by omega⟩, h.1 r.toNat (by omega) (by omega)⟩⟩⟩
theorem s_at_25 (d : Nat) (r : Nat) (hr : r < 6) (μ : zM) (K : Int → zM → Prop) (h : K (μ 25 0 r) μ) : zC1 d m_X9_at [zR 25 0, zI (r : Int)] μ K :=
  k_X9_at_t25 d (r : Int) μ K ⟨fun q => absurd q (by omega), fun _ => ⟨fun q => absurd q (by omega), fun _ => ⟨⟨by omega, by omega⟩, h⟩⟩⟩
theorem sg_at_25 (d : Nat) (r : Int) (μ : zM) (K : Int → zM → Prop) (h : (∀ n : Nat, n < 6 → r = n → K (μ 25 0 n) μ) ∧ ((r < 0 ∨ 6 ≤ r) → K 0 μ)) : zC1 d m_X9_at [zR 25 0, zI r] μ K :=
  k_X9_at_t25 d r μ K ⟨fun q => h.2 (Or.inl q), fun q1 => ⟨fun q => h.2 (Or.inr q), fun q2 => ⟨⟨by omega, by omega⟩, h.1 r.toNat (by omega) (by omega)⟩⟩⟩
theorem s_at_26 (d : Nat) (r : Nat) (hr : r < 20) (μ : zM) (K : Int → zM → Prop) (h : K (μ 26 0 r) μ) : zC1 d m_X9_at [zR 26 0, zI (r : Int)] μ K :=
  k_X9_at_t26 d (r : Int) μ K ⟨fun q => absurd q (by omega), fun _ => ⟨fun q => absurd q (by omega), fun _ => ⟨⟨by omega, by omega⟩, h⟩⟩⟩
theorem sg_at_26 (d : Nat) (r : Int) (μ : zM) (K : Int → zM → Prop) (h : (∀ n : Nat, n < 20 → r = n → K (μ 26 0 n) μ) ∧ ((r < 0 ∨ 20 ≤ r) → K 0 μ)) : zC1 d m_X9_at [zR 26 0, zI r] μ K :=
  k_X9_at_t26 d r μ K ⟨fun q => h.2 (Or.inl q), fun q1 => ⟨fun q => h.2 (Or.inr q), fun q2 => ⟨⟨by omega, by omega⟩, h.1 r.toNat (by omega) (by omega)⟩⟩⟩
theorem s_at_27 (d : Nat) (r : Nat) (hr : r < 20) (μ : zM) (K : Int → zM → Prop) (h : K (μ 27 0 r) μ) : zC1 d m_X9_at [zR 27 0, zI (r : Int)] μ K :=
  k_X9_at_t27 d (r : Int) μ K ⟨fun q => absurd q (by omega), fun _ => ⟨fun q => absurd q (by omega), fun _ => ⟨⟨by omega, by omega⟩, h⟩⟩⟩
theorem sg_at_27 (d : Nat) (r : Int) (μ : zM) (K : Int → zM → Prop) (h : (∀ n : Nat, n < 20 → r = n → K (μ 27 0 n) μ) ∧ ((r < 0 ∨ 20 ≤ r) → K 0 μ)) : zC1 d m_X9_at [zR 27 0, zI r] μ K :=
  k_X9_at_t27 d r μ K ⟨fun q => h.2 (Or.inl q), fun q1 => ⟨fun q => h.2 (Or.inr q), fun q2 => ⟨⟨by omega, by omega⟩, h.1 r.toNat (by omega) (by omega)⟩⟩⟩
theorem s_at_28 (d : Nat) (r : Nat) (hr : r < 20) (μ : zM) (K : Int → zM → Prop) (h : K (μ 28 0 r) μ) : zC1 d m_X9_at [zR 28 0, zI (r : Int)] μ K :=
  k_X9_at_t28 d (r : Int) μ K ⟨fun q => absurd q (by omega), fun _ => ⟨fun q => absurd q (by omega), fun _ => ⟨⟨by omega, by omega⟩, h⟩⟩⟩
theorem sg_at_28 (d : Nat) (r : Int) (μ : zM) (K : Int → zM → Prop) (h : (∀ n : Nat, n < 20 → r = n → K (μ 28 0 n) μ) ∧ ((r < 0 ∨ 20 ≤ r) → K 0 μ)) : zC1 d m_X9_at [zR 28 0, zI r] μ K :=
  k_X9_at_t28 d r μ K ⟨fun q => h.2 (Or.inl q), fun q1 => ⟨fun q => h.2 (Or.inr q), fun q2 => ⟨⟨by omega, by omega⟩, h.1 r.toNat (by omega) (by omega)⟩⟩⟩
theorem s_at_29 (d : Nat) (r : Nat) (hr : r < 72) (μ : zM) (K : Int → zM → Prop) (h : K (μ 29 0 r) μ) : zC1 d m_X9_at [zR 29 0, zI (r : Int)] μ K :=
  k_X9_at_t29 d (r : Int) μ K ⟨fun q => absurd q (by omega), fun _ => ⟨fun q => absurd q (by omega), fun _ => ⟨⟨by omega, by omega⟩, h⟩⟩⟩
theorem sg_at_29 (d : Nat) (r : Int) (μ : zM) (K : Int → zM → Prop) (h : (∀ n : Nat, n < 72 → r = n → K (μ 29 0 n) μ) ∧ ((r < 0 ∨ 72 ≤ r) → K 0 μ)) : zC1 d m_X9_at [zR 29 0, zI r] μ K :=
  k_X9_at_t29 d r μ K ⟨fun q => h.2 (Or.inl q), fun q1 => ⟨fun q => h.2 (Or.inr q), fun q2 => ⟨⟨by omega, by omega⟩, h.1 r.toNat (by omega) (by omega)⟩⟩⟩
theorem s_at_30 (d : Nat) (r : Nat) (hr : r < 10) (μ : zM) (K : Int → zM → Prop) (h : K (μ 30 0 r) μ) : zC1 d m_X9_at [zR 30 0, zI (r : Int)] μ K :=
  k_X9_at_t30 d (r : Int) μ K ⟨fun q => absurd q (by omega), fun _ => ⟨fun q => absurd q (by omega), fun _ => ⟨⟨by omega, by omega⟩, h⟩⟩⟩
theorem sg_at_30 (d : Nat) (r : Int) (μ : zM) (K : Int → zM → Prop) (h : (∀ n : Nat, n < 10 → r = n → K (μ 30 0 n) μ) ∧ ((r < 0 ∨ 10 ≤ r) → K 0 μ)) : zC1 d m_X9_at [zR 30 0, zI r] μ K :=
  k_X9_at_t30 d r μ K ⟨fun q => h.2 (Or.inl q), fun q1 => ⟨fun q => h.2 (Or.inr q), fun q2 => ⟨⟨by omega, by omega⟩, h.1 r.toNat (by omega) (by omega)⟩⟩⟩
theorem s_at_31 (d : Nat) (r : Nat) (hr : r < 42) (μ : zM) (K : Int → zM → Prop) (h : K (μ 31 0 r) μ) : zC1 d m_X9_at [zR 31 0, zI (r : Int)] μ K :=
  k_X9_at_t31 d (r : Int) μ K ⟨fun q => absurd q (by omega), fun _ => ⟨fun q => absurd q (by omega), fun _ => ⟨⟨by omega, by omega⟩, h⟩⟩⟩
theorem sg_at_31 (d : Nat) (r : Int) (μ : zM) (K : Int → zM → Prop) (h : (∀ n : Nat, n < 42 → r = n → K (μ 31 0 n) μ) ∧ ((r < 0 ∨ 42 ≤ r) → K 0 μ)) : zC1 d m_X9_at [zR 31 0, zI r] μ K :=
  k_X9_at_t31 d r μ K ⟨fun q => h.2 (Or.inl q), fun q1 => ⟨fun q => h.2 (Or.inr q), fun q2 => ⟨⟨by omega, by omega⟩, h.1 r.toNat (by omega) (by omega)⟩⟩⟩
theorem s_at_32 (d : Nat) (r : Nat) (hr : r < 448) (μ : zM) (K : Int → zM → Prop) (h : K (μ 32 0 r) μ) : zC1 d m_X9_at [zR 32 0, zI (r : Int)] μ K :=
  k_X9_at_t32 d (r : Int) μ K ⟨fun q => absurd q (by omega), fun _ => ⟨fun q => absurd q (by omega), fun _ => ⟨⟨by omega, by omega⟩, h⟩⟩⟩
theorem sg_at_32 (d : Nat) (r : Int) (μ : zM) (K : Int → zM → Prop) (h : (∀ n : Nat, n < 448 → r = n → K (μ 32 0 n) μ) ∧ ((r < 0 ∨ 448 ≤ r) → K 0 μ)) : zC1 d m_X9_at [zR 32 0, zI r] μ K :=
  k_X9_at_t32 d r μ K ⟨fun q => h.2 (Or.inl q), fun q1 => ⟨fun q => h.2 (Or.inr q), fun q2 => ⟨⟨by omega, by omega⟩, h.1 r.toNat (by omega) (by omega)⟩⟩⟩
theorem s_put_10 (d : Nat) (j : Nat) (r : Nat) (hr : r < 6) (v : Int) (μ : zM) (K : zM → Prop) (h : K (zset μ 10 j r v)) : zC0 d m_X9_put [zR 10 j, zI (r : Int), zI v] μ K :=
  k_X9_put_t10 d j (r : Int) v μ K ⟨fun q => absurd q (by omega), fun _ => ⟨fun q => absurd q (by omega), fun _ => ⟨⟨by omega, by omega⟩, h⟩⟩⟩
theorem sg_put_10 (d : Nat) (j : Nat) (r v : Int) (μ : zM) (K : zM → Prop) (h : (∀ n : Nat, n < 6 → r = n → K (zset μ 10 j n v)) ∧ ((r < 0 ∨ 6 ≤ r) → K μ)) : zC0 d m_X9_put [zR 10 j, zI r, zI v] μ K :=
  k_X9_put_t10 d j r v μ K ⟨fun q => h.2 (Or.inl q), fun q1 => ⟨fun q => h.2 (Or.inr q), fun q2 => ⟨⟨by omega, by omega⟩, h.1 r.toNat (by omega) (by omega)⟩⟩⟩
theorem s_put_11 (d : Nat) (j : Nat) (r : Nat) (hr : r < 72) (v : Int) (μ : zM) (K : zM → Prop) (h : K (zset μ 11 j r v)) : zC0 d m_X9_put [zR 11 j, zI (r : Int), zI v] μ K :=
  k_X9_put_t11 d j (r : Int) v μ K ⟨fun q => absurd q (by omega), fun _ => ⟨fun q => absurd q (by omega), fun _ => ⟨⟨by omega, by omega⟩, h⟩⟩⟩
theorem sg_put_11 (d : Nat) (j : Nat) (r v : Int) (μ : zM) (K : zM → Prop) (h : (∀ n : Nat, n < 72 → r = n → K (zset μ 11 j n v)) ∧ ((r < 0 ∨ 72 ≤ r) → K μ)) : zC0 d m_X9_put [zR 11 j, zI r, zI v] μ K :=
  k_X9_put_t11 d j r v μ K ⟨fun q => h.2 (Or.inl q), fun q1 => ⟨fun q => h.2 (Or.inr q), fun q2 => ⟨⟨by omega, by omega⟩, h.1 r.toNat (by omega) (by omega)⟩⟩⟩
theorem s_put_12 (d : Nat) (j : Nat) (r : Nat) (hr : r < 72) (v : Int) (μ : zM) (K : zM → Prop) (h : K (zset μ 12 j r v)) : zC0 d m_X9_put [zR 12 j, zI (r : Int), zI v] μ K :=
  k_X9_put_t12 d j (r : Int) v μ K ⟨fun q => absurd q (by omega), fun _ => ⟨fun q => absurd q (by omega), fun _ => ⟨⟨by omega, by omega⟩, h⟩⟩⟩
theorem sg_put_12 (d : Nat) (j : Nat) (r v : Int) (μ : zM) (K : zM → Prop) (h : (∀ n : Nat, n < 72 → r = n → K (zset μ 12 j n v)) ∧ ((r < 0 ∨ 72 ≤ r) → K μ)) : zC0 d m_X9_put [zR 12 j, zI r, zI v] μ K :=
  k_X9_put_t12 d j r v μ K ⟨fun q => h.2 (Or.inl q), fun q1 => ⟨fun q => h.2 (Or.inr q), fun q2 => ⟨⟨by omega, by omega⟩, h.1 r.toNat (by omega) (by omega)⟩⟩⟩
theorem s_put_13 (d : Nat) (j : Nat) (r : Nat) (hr : r < 15) (v : Int) (μ : zM) (K : zM → Prop) (h : K (zset μ 13 j r v)) : zC0 d m_X9_put [zR 13 j, zI (r : Int), zI v] μ K :=
  k_X9_put_t13 d j (r : Int) v μ K ⟨fun q => absurd q (by omega), fun _ => ⟨fun q => absurd q (by omega), fun _ => ⟨⟨by omega, by omega⟩, h⟩⟩⟩
theorem sg_put_13 (d : Nat) (j : Nat) (r v : Int) (μ : zM) (K : zM → Prop) (h : (∀ n : Nat, n < 15 → r = n → K (zset μ 13 j n v)) ∧ ((r < 0 ∨ 15 ≤ r) → K μ)) : zC0 d m_X9_put [zR 13 j, zI r, zI v] μ K :=
  k_X9_put_t13 d j r v μ K ⟨fun q => h.2 (Or.inl q), fun q1 => ⟨fun q => h.2 (Or.inr q), fun q2 => ⟨⟨by omega, by omega⟩, h.1 r.toNat (by omega) (by omega)⟩⟩⟩
theorem s_put_14 (d : Nat) (j : Nat) (r : Nat) (hr : r < 24) (v : Int) (μ : zM) (K : zM → Prop) (h : K (zset μ 14 j r v)) : zC0 d m_X9_put [zR 14 j, zI (r : Int), zI v] μ K :=
  k_X9_put_t14 d j (r : Int) v μ K ⟨fun q => absurd q (by omega), fun _ => ⟨fun q => absurd q (by omega), fun _ => ⟨⟨by omega, by omega⟩, h⟩⟩⟩
theorem sg_put_14 (d : Nat) (j : Nat) (r v : Int) (μ : zM) (K : zM → Prop) (h : (∀ n : Nat, n < 24 → r = n → K (zset μ 14 j n v)) ∧ ((r < 0 ∨ 24 ≤ r) → K μ)) : zC0 d m_X9_put [zR 14 j, zI r, zI v] μ K :=
  k_X9_put_t14 d j r v μ K ⟨fun q => h.2 (Or.inl q), fun q1 => ⟨fun q => h.2 (Or.inr q), fun q2 => ⟨⟨by omega, by omega⟩, h.1 r.toNat (by omega) (by omega)⟩⟩⟩
theorem s_put_15 (d : Nat) (j : Nat) (r : Nat) (hr : r < 6) (v : Int) (μ : zM) (K : zM → Prop) (h : K (zset μ 15 j r v)) : zC0 d m_X9_put [zR 15 j, zI (r : Int), zI v] μ K :=
  k_X9_put_t15 d j (r : Int) v μ K ⟨fun q => absurd q (by omega), fun _ => ⟨fun q => absurd q (by omega), fun _ => ⟨⟨by omega, by omega⟩, h⟩⟩⟩
theorem sg_put_15 (d : Nat) (j : Nat) (r v : Int) (μ : zM) (K : zM → Prop) (h : (∀ n : Nat, n < 6 → r = n → K (zset μ 15 j n v)) ∧ ((r < 0 ∨ 6 ≤ r) → K μ)) : zC0 d m_X9_put [zR 15 j, zI r, zI v] μ K :=
  k_X9_put_t15 d j r v μ K ⟨fun q => h.2 (Or.inl q), fun q1 => ⟨fun q => h.2 (Or.inr q), fun q2 => ⟨⟨by omega, by omega⟩, h.1 r.toNat (by omega) (by omega)⟩⟩⟩
theorem s_put_16 (d : Nat) (j : Nat) (r : Nat) (hr : r < 5) (v : Int) (μ : zM) (K : zM → Prop) (h : K (zset μ 16 j r v)) : zC0 d m_X9_put [zR 16 j, zI (r : Int), zI v] μ K :=
  k_X9_put_t16 d j (r : Int) v μ K ⟨fun q => absurd q (by omega), fun _ => ⟨fun q => absurd q (by omega), fun _ => ⟨⟨by omega, by omega⟩, h⟩⟩⟩
theorem sg_put_16 (d : Nat) (j : Nat) (r v : Int) (μ : zM) (K : zM → Prop) (h : (∀ n : Nat, n < 5 → r = n → K (zset μ 16 j n v)) ∧ ((r < 0 ∨ 5 ≤ r) → K μ)) : zC0 d m_X9_put [zR 16 j, zI r, zI v] μ K :=
  k_X9_put_t16 d j r v μ K ⟨fun q => h.2 (Or.inl q), fun q1 => ⟨fun q => h.2 (Or.inr q), fun q2 => ⟨⟨by omega, by omega⟩, h.1 r.toNat (by omega) (by omega)⟩⟩⟩
theorem s_put_17 (d : Nat) (j : Nat) (r : Nat) (hr : r < 5) (v : Int) (μ : zM) (K : zM → Prop) (h : K (zset μ 17 j r v)) : zC0 d m_X9_put [zR 17 j, zI (r : Int), zI v] μ K :=
  k_X9_put_t17 d j (r : Int) v μ K ⟨fun q => absurd q (by omega), fun _ => ⟨fun q => absurd q (by omega), fun _ => ⟨⟨by omega, by omega⟩, h⟩⟩⟩
theorem sg_put_17 (d : Nat) (j : Nat) (r v : Int) (μ : zM) (K : zM → Prop) (h : (∀ n : Nat, n < 5 → r = n → K (zset μ 17 j n v)) ∧ ((r < 0 ∨ 5 ≤ r) → K μ)) : zC0 d m_X9_put [zR 17 j, zI r, zI v] μ K :=
  k_X9_put_t17 d j r v μ K ⟨fun q => h.2 (Or.inl q), fun q1 => ⟨fun q => h.2 (Or.inr q), fun q2 => ⟨⟨by omega, by omega⟩, h.1 r.toNat (by omega) (by omega)⟩⟩⟩
theorem s_put_18 (d : Nat) (j : Nat) (r : Nat) (hr : r < 5) (v : Int) (μ : zM) (K : zM → Prop) (h : K (zset μ 18 j r v)) : zC0 d m_X9_put [zR 18 j, zI (r : Int), zI v] μ K :=
  k_X9_put_t18 d j (r : Int) v μ K ⟨fun q => absurd q (by omega), fun _ => ⟨fun q => absurd q (by omega), fun _ => ⟨⟨by omega, by omega⟩, h⟩⟩⟩
theorem sg_put_18 (d : Nat) (j : Nat) (r v : Int) (μ : zM) (K : zM → Prop) (h : (∀ n : Nat, n < 5 → r = n → K (zset μ 18 j n v)) ∧ ((r < 0 ∨ 5 ≤ r) → K μ)) : zC0 d m_X9_put [zR 18 j, zI r, zI v] μ K :=
  k_X9_put_t18 d j r v μ K ⟨fun q => h.2 (Or.inl q), fun q1 => ⟨fun q => h.2 (Or.inr q), fun q2 => ⟨⟨by omega, by omega⟩, h.1 r.toNat (by omega) (by omega)⟩⟩⟩
theorem s_put_19 (d : Nat) (j : Nat) (r : Nat) (hr : r < 20) (v : Int) (μ : zM) (K : zM → Prop) (h : K (zset μ 19 j r v)) : zC0 d m_X9_put [zR 19 j, zI (r : Int), zI v] μ K :=
  k_X9_put_t19 d j (r : Int) v μ K ⟨fun q => absurd q (by omega), fun _ => ⟨fun q => absurd q (by omega), fun _ => ⟨⟨by omega, by omega⟩, h⟩⟩⟩
theorem sg_put_19 (d : Nat) (j : Nat) (r v : Int) (μ : zM) (K : zM → Prop) (h : (∀ n : Nat, n < 20 → r = n → K (zset μ 19 j n v)) ∧ ((r < 0 ∨ 20 ≤ r) → K μ)) : zC0 d m_X9_put [zR 19 j, zI r, zI v] μ K :=
  k_X9_put_t19 d j r v μ K ⟨fun q => h.2 (Or.inl q), fun q1 => ⟨fun q => h.2 (Or.inr q), fun q2 => ⟨⟨by omega, by omega⟩, h.1 r.toNat (by omega) (by omega)⟩⟩⟩
theorem s_put_20 (d : Nat) (r : Nat) (hr : r < 240) (v : Int) (μ : zM) (K : zM → Prop) (h : K (zset μ 20 0 r v)) : zC0 d m_X9_put [zR 20 0, zI (r : Int), zI v] μ K :=
  k_X9_put_t20 d (r : Int) v μ K ⟨fun q => absurd q (by omega), fun _ => ⟨fun q => absurd q (by omega), fun _ => ⟨⟨by omega, by omega⟩, h⟩⟩⟩
theorem sg_put_20 (d : Nat) (r v : Int) (μ : zM) (K : zM → Prop) (h : (∀ n : Nat, n < 240 → r = n → K (zset μ 20 0 n v)) ∧ ((r < 0 ∨ 240 ≤ r) → K μ)) : zC0 d m_X9_put [zR 20 0, zI r, zI v] μ K :=
  k_X9_put_t20 d r v μ K ⟨fun q => h.2 (Or.inl q), fun q1 => ⟨fun q => h.2 (Or.inr q), fun q2 => ⟨⟨by omega, by omega⟩, h.1 r.toNat (by omega) (by omega)⟩⟩⟩
theorem s_put_23 (d : Nat) (r : Nat) (hr : r < 2) (v : Int) (μ : zM) (K : zM → Prop) (h : K (zset μ 23 0 r v)) : zC0 d m_X9_put [zR 23 0, zI (r : Int), zI v] μ K :=
  k_X9_put_t23 d (r : Int) v μ K ⟨fun q => absurd q (by omega), fun _ => ⟨fun q => absurd q (by omega), fun _ => ⟨⟨by omega, by omega⟩, h⟩⟩⟩
theorem sg_put_23 (d : Nat) (r v : Int) (μ : zM) (K : zM → Prop) (h : (∀ n : Nat, n < 2 → r = n → K (zset μ 23 0 n v)) ∧ ((r < 0 ∨ 2 ≤ r) → K μ)) : zC0 d m_X9_put [zR 23 0, zI r, zI v] μ K :=
  k_X9_put_t23 d r v μ K ⟨fun q => h.2 (Or.inl q), fun q1 => ⟨fun q => h.2 (Or.inr q), fun q2 => ⟨⟨by omega, by omega⟩, h.1 r.toNat (by omega) (by omega)⟩⟩⟩
theorem s_put_24 (d : Nat) (r : Nat) (hr : r < 6) (v : Int) (μ : zM) (K : zM → Prop) (h : K (zset μ 24 0 r v)) : zC0 d m_X9_put [zR 24 0, zI (r : Int), zI v] μ K :=
  k_X9_put_t24 d (r : Int) v μ K ⟨fun q => absurd q (by omega), fun _ => ⟨fun q => absurd q (by omega), fun _ => ⟨⟨by omega, by omega⟩, h⟩⟩⟩
theorem sg_put_24 (d : Nat) (r v : Int) (μ : zM) (K : zM → Prop) (h : (∀ n : Nat, n < 6 → r = n → K (zset μ 24 0 n v)) ∧ ((r < 0 ∨ 6 ≤ r) → K μ)) : zC0 d m_X9_put [zR 24 0, zI r, zI v] μ K :=
  k_X9_put_t24 d r v μ K ⟨fun q => h.2 (Or.inl q), fun q1 => ⟨fun q => h.2 (Or.inr q), fun q2 => ⟨⟨by omega, by omega⟩, h.1 r.toNat (by omega) (by omega)⟩⟩⟩
theorem s_put_25 (d : Nat) (r : Nat) (hr : r < 6) (v : Int) (μ : zM) (K : zM → Prop) (h : K (zset μ 25 0 r v)) : zC0 d m_X9_put [zR 25 0, zI (r : Int), zI v] μ K :=
  k_X9_put_t25 d (r : Int) v μ K ⟨fun q => absurd q (by omega), fun _ => ⟨fun q => absurd q (by omega), fun _ => ⟨⟨by omega, by omega⟩, h⟩⟩⟩
theorem sg_put_25 (d : Nat) (r v : Int) (μ : zM) (K : zM → Prop) (h : (∀ n : Nat, n < 6 → r = n → K (zset μ 25 0 n v)) ∧ ((r < 0 ∨ 6 ≤ r) → K μ)) : zC0 d m_X9_put [zR 25 0, zI r, zI v] μ K :=
  k_X9_put_t25 d r v μ K ⟨fun q => h.2 (Or.inl q), fun q1 => ⟨fun q => h.2 (Or.inr q), fun q2 => ⟨⟨by omega, by omega⟩, h.1 r.toNat (by omega) (by omega)⟩⟩⟩
theorem s_put_26 (d : Nat) (r : Nat) (hr : r < 20) (v : Int) (μ : zM) (K : zM → Prop) (h : K (zset μ 26 0 r v)) : zC0 d m_X9_put [zR 26 0, zI (r : Int), zI v] μ K :=
  k_X9_put_t26 d (r : Int) v μ K ⟨fun q => absurd q (by omega), fun _ => ⟨fun q => absurd q (by omega), fun _ => ⟨⟨by omega, by omega⟩, h⟩⟩⟩
theorem sg_put_26 (d : Nat) (r v : Int) (μ : zM) (K : zM → Prop) (h : (∀ n : Nat, n < 20 → r = n → K (zset μ 26 0 n v)) ∧ ((r < 0 ∨ 20 ≤ r) → K μ)) : zC0 d m_X9_put [zR 26 0, zI r, zI v] μ K :=
  k_X9_put_t26 d r v μ K ⟨fun q => h.2 (Or.inl q), fun q1 => ⟨fun q => h.2 (Or.inr q), fun q2 => ⟨⟨by omega, by omega⟩, h.1 r.toNat (by omega) (by omega)⟩⟩⟩
theorem s_put_27 (d : Nat) (r : Nat) (hr : r < 20) (v : Int) (μ : zM) (K : zM → Prop) (h : K (zset μ 27 0 r v)) : zC0 d m_X9_put [zR 27 0, zI (r : Int), zI v] μ K :=
  k_X9_put_t27 d (r : Int) v μ K ⟨fun q => absurd q (by omega), fun _ => ⟨fun q => absurd q (by omega), fun _ => ⟨⟨by omega, by omega⟩, h⟩⟩⟩
theorem sg_put_27 (d : Nat) (r v : Int) (μ : zM) (K : zM → Prop) (h : (∀ n : Nat, n < 20 → r = n → K (zset μ 27 0 n v)) ∧ ((r < 0 ∨ 20 ≤ r) → K μ)) : zC0 d m_X9_put [zR 27 0, zI r, zI v] μ K :=
  k_X9_put_t27 d r v μ K ⟨fun q => h.2 (Or.inl q), fun q1 => ⟨fun q => h.2 (Or.inr q), fun q2 => ⟨⟨by omega, by omega⟩, h.1 r.toNat (by omega) (by omega)⟩⟩⟩
theorem s_put_28 (d : Nat) (r : Nat) (hr : r < 20) (v : Int) (μ : zM) (K : zM → Prop) (h : K (zset μ 28 0 r v)) : zC0 d m_X9_put [zR 28 0, zI (r : Int), zI v] μ K :=
  k_X9_put_t28 d (r : Int) v μ K ⟨fun q => absurd q (by omega), fun _ => ⟨fun q => absurd q (by omega), fun _ => ⟨⟨by omega, by omega⟩, h⟩⟩⟩
theorem sg_put_28 (d : Nat) (r v : Int) (μ : zM) (K : zM → Prop) (h : (∀ n : Nat, n < 20 → r = n → K (zset μ 28 0 n v)) ∧ ((r < 0 ∨ 20 ≤ r) → K μ)) : zC0 d m_X9_put [zR 28 0, zI r, zI v] μ K :=
  k_X9_put_t28 d r v μ K ⟨fun q => h.2 (Or.inl q), fun q1 => ⟨fun q => h.2 (Or.inr q), fun q2 => ⟨⟨by omega, by omega⟩, h.1 r.toNat (by omega) (by omega)⟩⟩⟩
theorem s_put_29 (d : Nat) (r : Nat) (hr : r < 72) (v : Int) (μ : zM) (K : zM → Prop) (h : K (zset μ 29 0 r v)) : zC0 d m_X9_put [zR 29 0, zI (r : Int), zI v] μ K :=
  k_X9_put_t29 d (r : Int) v μ K ⟨fun q => absurd q (by omega), fun _ => ⟨fun q => absurd q (by omega), fun _ => ⟨⟨by omega, by omega⟩, h⟩⟩⟩
theorem sg_put_29 (d : Nat) (r v : Int) (μ : zM) (K : zM → Prop) (h : (∀ n : Nat, n < 72 → r = n → K (zset μ 29 0 n v)) ∧ ((r < 0 ∨ 72 ≤ r) → K μ)) : zC0 d m_X9_put [zR 29 0, zI r, zI v] μ K :=
  k_X9_put_t29 d r v μ K ⟨fun q => h.2 (Or.inl q), fun q1 => ⟨fun q => h.2 (Or.inr q), fun q2 => ⟨⟨by omega, by omega⟩, h.1 r.toNat (by omega) (by omega)⟩⟩⟩
theorem s_put_30 (d : Nat) (r : Nat) (hr : r < 10) (v : Int) (μ : zM) (K : zM → Prop) (h : K (zset μ 30 0 r v)) : zC0 d m_X9_put [zR 30 0, zI (r : Int), zI v] μ K :=
  k_X9_put_t30 d (r : Int) v μ K ⟨fun q => absurd q (by omega), fun _ => ⟨fun q => absurd q (by omega), fun _ => ⟨⟨by omega, by omega⟩, h⟩⟩⟩
theorem sg_put_30 (d : Nat) (r v : Int) (μ : zM) (K : zM → Prop) (h : (∀ n : Nat, n < 10 → r = n → K (zset μ 30 0 n v)) ∧ ((r < 0 ∨ 10 ≤ r) → K μ)) : zC0 d m_X9_put [zR 30 0, zI r, zI v] μ K :=
  k_X9_put_t30 d r v μ K ⟨fun q => h.2 (Or.inl q), fun q1 => ⟨fun q => h.2 (Or.inr q), fun q2 => ⟨⟨by omega, by omega⟩, h.1 r.toNat (by omega) (by omega)⟩⟩⟩
theorem s_put_31 (d : Nat) (r : Nat) (hr : r < 42) (v : Int) (μ : zM) (K : zM → Prop) (h : K (zset μ 31 0 r v)) : zC0 d m_X9_put [zR 31 0, zI (r : Int), zI v] μ K :=
  k_X9_put_t31 d (r : Int) v μ K ⟨fun q => absurd q (by omega), fun _ => ⟨fun q => absurd q (by omega), fun _ => ⟨⟨by omega, by omega⟩, h⟩⟩⟩
theorem sg_put_31 (d : Nat) (r v : Int) (μ : zM) (K : zM → Prop) (h : (∀ n : Nat, n < 42 → r = n → K (zset μ 31 0 n v)) ∧ ((r < 0 ∨ 42 ≤ r) → K μ)) : zC0 d m_X9_put [zR 31 0, zI r, zI v] μ K :=
  k_X9_put_t31 d r v μ K ⟨fun q => h.2 (Or.inl q), fun q1 => ⟨fun q => h.2 (Or.inr q), fun q2 => ⟨⟨by omega, by omega⟩, h.1 r.toNat (by omega) (by omega)⟩⟩⟩
theorem s_put_32 (d : Nat) (r : Nat) (hr : r < 448) (v : Int) (μ : zM) (K : zM → Prop) (h : K (zset μ 32 0 r v)) : zC0 d m_X9_put [zR 32 0, zI (r : Int), zI v] μ K :=
  k_X9_put_t32 d (r : Int) v μ K ⟨fun q => absurd q (by omega), fun _ => ⟨fun q => absurd q (by omega), fun _ => ⟨⟨by omega, by omega⟩, h⟩⟩⟩
theorem sg_put_32 (d : Nat) (r v : Int) (μ : zM) (K : zM → Prop) (h : (∀ n : Nat, n < 448 → r = n → K (zset μ 32 0 n v)) ∧ ((r < 0 ∨ 448 ≤ r) → K μ)) : zC0 d m_X9_put [zR 32 0, zI r, zI v] μ K :=
  k_X9_put_t32 d r v μ K ⟨fun q => h.2 (Or.inl q), fun q1 => ⟨fun q => h.2 (Or.inr q), fun q2 => ⟨⟨by omega, by omega⟩, h.1 r.toNat (by omega) (by omega)⟩⟩⟩
theorem s_copy_10 (d i j : Nat) (μ : zM) (K : zM → Prop) (h : K (zcpy μ 10 i 0 10 j 0 6)) : zC0 (d + 1) m_X9_copy [zR 10 i, zR 10 j] μ K := k_X9_copy_t10_10 d i j μ K ⟨by decide, h⟩
theorem s_copy_11 (d i j : Nat) (μ : zM) (K : zM → Prop) (h : K (zcpy μ 11 i 0 11 j 0 72)) : zC0 (d + 1) m_X9_copy [zR 11 i, zR 11 j] μ K := k_X9_copy_t11_11 d i j μ K ⟨by decide, h⟩
theorem s_copy_12 (d i j : Nat) (μ : zM) (K : zM → Prop) (h : K (zcpy μ 12 i 0 12 j 0 72)) : zC0 (d + 1) m_X9_copy [zR 12 i, zR 12 j] μ K := k_X9_copy_t12_12 d i j μ K ⟨by decide, h⟩
theorem s_copy_13 (d i j : Nat) (μ : zM) (K : zM → Prop) (h : K (zcpy μ 13 i 0 13 j 0 15)) : zC0 (d + 1) m_X9_copy [zR 13 i, zR 13 j] μ K := k_X9_copy_t13_13 d i j μ K ⟨by decide, h⟩
theorem s_copy_14 (d i j : Nat) (μ : zM) (K : zM → Prop) (h : K (zcpy μ 14 i 0 14 j 0 24)) : zC0 (d + 1) m_X9_copy [zR 14 i, zR 14 j] μ K := k_X9_copy_t14_14 d i j μ K ⟨by decide, h⟩
theorem s_copy_15 (d i j : Nat) (μ : zM) (K : zM → Prop) (h : K (zcpy μ 15 i 0 15 j 0 6)) : zC0 (d + 1) m_X9_copy [zR 15 i, zR 15 j] μ K := k_X9_copy_t15_15 d i j μ K ⟨by decide, h⟩
theorem s_copy_16 (d i j : Nat) (μ : zM) (K : zM → Prop) (h : K (zcpy μ 16 i 0 16 j 0 5)) : zC0 (d + 1) m_X9_copy [zR 16 i, zR 16 j] μ K := k_X9_copy_t16_16 d i j μ K ⟨by decide, h⟩
theorem s_copy_17 (d i j : Nat) (μ : zM) (K : zM → Prop) (h : K (zcpy μ 17 i 0 17 j 0 5)) : zC0 (d + 1) m_X9_copy [zR 17 i, zR 17 j] μ K := k_X9_copy_t17_17 d i j μ K ⟨by decide, h⟩
theorem s_copy_18 (d i j : Nat) (μ : zM) (K : zM → Prop) (h : K (zcpy μ 18 i 0 18 j 0 5)) : zC0 (d + 1) m_X9_copy [zR 18 i, zR 18 j] μ K := k_X9_copy_t18_18 d i j μ K ⟨by decide, h⟩
theorem s_copy_19 (d i j : Nat) (μ : zM) (K : zM → Prop) (h : K (zcpy μ 19 i 0 19 j 0 20)) : zC0 (d + 1) m_X9_copy [zR 19 i, zR 19 j] μ K := k_X9_copy_t19_19 d i j μ K ⟨by decide, h⟩
theorem s_fill_10 (d : Nat) (j : Nat) (v : Int) (μ : zM) (K : zM → Prop) (h : K (zfil μ 10 j 6 v)) : zC0 d m_J7_fill_53178 [zR 10 j, zI v] μ K := by
  refine k_J7_fill_53178_t10 d j v μ K ?_
  have L : ∀ n i : Nat, i + n = 6 → zJ d m_J7_fill_53178 5 [some (zR 10 j), some (zI v), some (zI (i : Int)), some (zI 6)] (zfil μ 10 j i v) (zQ0 K) := by
    intro n
    induction n with
    | zero =>
      intro i hi
      refine k_J7_fill_53178_t10_5 d j v i 6 _ K ⟨fun _ => ?_, fun q => absurd q (by omega)⟩
      rw [show i = 6 by omega]; exact h
    | succ n ih =>
      intro i hi
      refine k_J7_fill_53178_t10_5 d j v i 6 _ K ⟨fun q => absurd q (by omega), fun _ => ⟨⟨by omega, by omega⟩, ?_⟩⟩
      rw [z_fix (by omega) (by omega), Int.toNat_natCast, zfil_s]
      exact ih (i + 1) (by omega)
  have h0 := L 6 0 (by omega)
  rw [zfil_0] at h0
  exact h0
theorem s_fill_11 (d : Nat) (j : Nat) (v : Int) (μ : zM) (K : zM → Prop) (h : K (zfil μ 11 j 72 v)) : zC0 d m_J7_fill_53178 [zR 11 j, zI v] μ K := by
  refine k_J7_fill_53178_t11 d j v μ K ?_
  have L : ∀ n i : Nat, i + n = 72 → zJ d m_J7_fill_53178 5 [some (zR 11 j), some (zI v), some (zI (i : Int)), some (zI 72)] (zfil μ 11 j i v) (zQ0 K) := by
    intro n
    induction n with
    | zero =>
      intro i hi
      refine k_J7_fill_53178_t11_5 d j v i 72 _ K ⟨fun _ => ?_, fun q => absurd q (by omega)⟩
      rw [show i = 72 by omega]; exact h
    | succ n ih =>
      intro i hi
      refine k_J7_fill_53178_t11_5 d j v i 72 _ K ⟨fun q => absurd q (by omega), fun _ => ⟨⟨by omega, by omega⟩, ?_⟩⟩
      rw [z_fix (by omega) (by omega), Int.toNat_natCast, zfil_s]
      exact ih (i + 1) (by omega)
  have h0 := L 72 0 (by omega)
  rw [zfil_0] at h0
  exact h0
theorem s_fill_12 (d : Nat) (j : Nat) (v : Int) (μ : zM) (K : zM → Prop) (h : K (zfil μ 12 j 72 v)) : zC0 d m_J7_fill_53178 [zR 12 j, zI v] μ K := by
  refine k_J7_fill_53178_t12 d j v μ K ?_
  have L : ∀ n i : Nat, i + n = 72 → zJ d m_J7_fill_53178 5 [some (zR 12 j), some (zI v), some (zI (i : Int)), some (zI 72)] (zfil μ 12 j i v) (zQ0 K) := by
    intro n
    induction n with
    | zero =>
      intro i hi
      refine k_J7_fill_53178_t12_5 d j v i 72 _ K ⟨fun _ => ?_, fun q => absurd q (by omega)⟩
      rw [show i = 72 by omega]; exact h
    | succ n ih =>
      intro i hi
      refine k_J7_fill_53178_t12_5 d j v i 72 _ K ⟨fun q => absurd q (by omega), fun _ => ⟨⟨by omega, by omega⟩, ?_⟩⟩
      rw [z_fix (by omega) (by omega), Int.toNat_natCast, zfil_s]
      exact ih (i + 1) (by omega)
  have h0 := L 72 0 (by omega)
  rw [zfil_0] at h0
  exact h0
theorem s_fill_15 (d : Nat) (j : Nat) (v : Int) (μ : zM) (K : zM → Prop) (h : K (zfil μ 15 j 6 v)) : zC0 d m_J7_fill_53178 [zR 15 j, zI v] μ K := by
  refine k_J7_fill_53178_t15 d j v μ K ?_
  have L : ∀ n i : Nat, i + n = 6 → zJ d m_J7_fill_53178 5 [some (zR 15 j), some (zI v), some (zI (i : Int)), some (zI 6)] (zfil μ 15 j i v) (zQ0 K) := by
    intro n
    induction n with
    | zero =>
      intro i hi
      refine k_J7_fill_53178_t15_5 d j v i 6 _ K ⟨fun _ => ?_, fun q => absurd q (by omega)⟩
      rw [show i = 6 by omega]; exact h
    | succ n ih =>
      intro i hi
      refine k_J7_fill_53178_t15_5 d j v i 6 _ K ⟨fun q => absurd q (by omega), fun _ => ⟨⟨by omega, by omega⟩, ?_⟩⟩
      rw [z_fix (by omega) (by omega), Int.toNat_natCast, zfil_s]
      exact ih (i + 1) (by omega)
  have h0 := L 6 0 (by omega)
  rw [zfil_0] at h0
  exact h0
theorem s_fill_30 (d : Nat) (v : Int) (μ : zM) (K : zM → Prop) (h : K (zfil μ 30 0 10 v)) : zC0 d m_J7_fill_53178 [zR 30 0, zI v] μ K := by
  refine k_J7_fill_53178_t30 d v μ K ?_
  have L : ∀ n i : Nat, i + n = 10 → zJ d m_J7_fill_53178 5 [some (zR 30 0), some (zI v), some (zI (i : Int)), some (zI 10)] (zfil μ 30 0 i v) (zQ0 K) := by
    intro n
    induction n with
    | zero =>
      intro i hi
      refine k_J7_fill_53178_t30_5 d v i 10 _ K ⟨fun _ => ?_, fun q => absurd q (by omega)⟩
      rw [show i = 10 by omega]; exact h
    | succ n ih =>
      intro i hi
      refine k_J7_fill_53178_t30_5 d v i 10 _ K ⟨fun q => absurd q (by omega), fun _ => ⟨⟨by omega, by omega⟩, ?_⟩⟩
      rw [z_fix (by omega) (by omega), Int.toNat_natCast, zfil_s]
      exact ih (i + 1) (by omega)
  have h0 := L 10 0 (by omega)
  rw [zfil_0] at h0
  exact h0
theorem s_copies_33_33 (d : Nat) (i : Nat) (sp : Nat) (j : Nat) (dp n : Nat) (hne : i ≠ j) (h1 : sp + n ≤ 200) (h2 : dp + n ≤ 200) (μ : zM) (K : zM → Prop) (h : K (zcpy μ 33 i sp 33 j dp n)) : zC0 d m_X12_copies [zR 33 i, zI (sp : Int), zR 33 j, zI (dp : Int), zI (n : Int)] μ K := by
  refine k_X12_copies_t33_33 d i (sp : Int) j (dp : Int) (n : Int) μ K ?_
  have L : ∀ m k : Nat, k + m = n → zJ d m_X12_copies 3 [some (zR 33 i), some (zI (sp : Int)), some (zR 33 j), some (zI (dp : Int)), some (zI (n : Int)), some (zI (k : Int))] (zcpy μ 33 i sp 33 j dp k) (zQ0 K) := by
    intro m
    induction m with
    | zero =>
      intro k hk
      refine k_X12_copies_t33_33_3 d i (sp : Int) j (dp : Int) (n : Int) k _ K ⟨fun _ => ?_, fun q => absurd q (by omega)⟩
      rw [show k = n by omega]; exact h
    | succ m ih =>
      intro k hk
      refine k_X12_copies_t33_33_3 d i (sp : Int) j (dp : Int) (n : Int) k _ K ⟨fun q => absurd q (by omega), fun _ => ?_⟩
      rw [z_fix (by omega) (by omega), z_fix (by omega) (by omega), z_fix (by omega) (by omega)]
      refine ⟨⟨by omega, by omega⟩, ⟨by omega, by omega⟩, ?_⟩
      rw [show ((sp : Int) + (k : Int)).toNat = sp + k by omega, show ((dp : Int) + (k : Int)).toNat = dp + k by omega, zcpy_src _ _ _ _ _ _ _ _ _ (Or.inr hne), zcpy_s]
      exact ih (k + 1) (by omega)
  have h0 := L n 0 (by omega)
  rw [zcpy_0] at h0
  exact h0
theorem s_copies_33_34 (d : Nat) (i : Nat) (sp : Nat) (j : Nat) (dp n : Nat) (h1 : sp + n ≤ 200) (h2 : dp + n ≤ 44) (μ : zM) (K : zM → Prop) (h : K (zcpy μ 33 i sp 34 j dp n)) : zC0 d m_X12_copies [zR 33 i, zI (sp : Int), zR 34 j, zI (dp : Int), zI (n : Int)] μ K := by
  refine k_X12_copies_t33_34 d i (sp : Int) j (dp : Int) (n : Int) μ K ?_
  have L : ∀ m k : Nat, k + m = n → zJ d m_X12_copies 3 [some (zR 33 i), some (zI (sp : Int)), some (zR 34 j), some (zI (dp : Int)), some (zI (n : Int)), some (zI (k : Int))] (zcpy μ 33 i sp 34 j dp k) (zQ0 K) := by
    intro m
    induction m with
    | zero =>
      intro k hk
      refine k_X12_copies_t33_34_3 d i (sp : Int) j (dp : Int) (n : Int) k _ K ⟨fun _ => ?_, fun q => absurd q (by omega)⟩
      rw [show k = n by omega]; exact h
    | succ m ih =>
      intro k hk
      refine k_X12_copies_t33_34_3 d i (sp : Int) j (dp : Int) (n : Int) k _ K ⟨fun q => absurd q (by omega), fun _ => ?_⟩
      rw [z_fix (by omega) (by omega), z_fix (by omega) (by omega), z_fix (by omega) (by omega)]
      refine ⟨⟨by omega, by omega⟩, ⟨by omega, by omega⟩, ?_⟩
      rw [show ((sp : Int) + (k : Int)).toNat = sp + k by omega, show ((dp : Int) + (k : Int)).toNat = dp + k by omega, zcpy_src _ _ _ _ _ _ _ _ _ (Or.inl (by decide)), zcpy_s]
      exact ih (k + 1) (by omega)
  have h0 := L n 0 (by omega)
  rw [zcpy_0] at h0
  exact h0
theorem s_copies_34_34 (d : Nat) (i : Nat) (sp : Nat) (j : Nat) (dp n : Nat) (hne : i ≠ j) (h1 : sp + n ≤ 44) (h2 : dp + n ≤ 44) (μ : zM) (K : zM → Prop) (h : K (zcpy μ 34 i sp 34 j dp n)) : zC0 d m_X12_copies [zR 34 i, zI (sp : Int), zR 34 j, zI (dp : Int), zI (n : Int)] μ K := by
  refine k_X12_copies_t34_34 d i (sp : Int) j (dp : Int) (n : Int) μ K ?_
  have L : ∀ m k : Nat, k + m = n → zJ d m_X12_copies 3 [some (zR 34 i), some (zI (sp : Int)), some (zR 34 j), some (zI (dp : Int)), some (zI (n : Int)), some (zI (k : Int))] (zcpy μ 34 i sp 34 j dp k) (zQ0 K) := by
    intro m
    induction m with
    | zero =>
      intro k hk
      refine k_X12_copies_t34_34_3 d i (sp : Int) j (dp : Int) (n : Int) k _ K ⟨fun _ => ?_, fun q => absurd q (by omega)⟩
      rw [show k = n by omega]; exact h
    | succ m ih =>
      intro k hk
      refine k_X12_copies_t34_34_3 d i (sp : Int) j (dp : Int) (n : Int) k _ K ⟨fun q => absurd q (by omega), fun _ => ?_⟩
      rw [z_fix (by omega) (by omega), z_fix (by omega) (by omega), z_fix (by omega) (by omega)]
      refine ⟨⟨by omega, by omega⟩, ⟨by omega, by omega⟩, ?_⟩
      rw [show ((sp : Int) + (k : Int)).toNat = sp + k by omega, show ((dp : Int) + (k : Int)).toNat = dp + k by omega, zcpy_src _ _ _ _ _ _ _ _ _ (Or.inr hne), zcpy_s]
      exact ih (k + 1) (by omega)
  have h0 := L n 0 (by omega)
  rw [zcpy_0] at h0
  exact h0
theorem s_copies_34_35 (d : Nat) (i : Nat) (sp : Nat) (dp n : Nat) (h1 : sp + n ≤ 44) (h2 : dp + n ≤ 1320) (μ : zM) (K : zM → Prop) (h : K (zcpy μ 34 i sp 35 0 dp n)) : zC0 d m_X12_copies [zR 34 i, zI (sp : Int), zR 35 0, zI (dp : Int), zI (n : Int)] μ K := by
  refine k_X12_copies_t34_35 d i (sp : Int) (dp : Int) (n : Int) μ K ?_
  have L : ∀ m k : Nat, k + m = n → zJ d m_X12_copies 3 [some (zR 34 i), some (zI (sp : Int)), some (zR 35 0), some (zI (dp : Int)), some (zI (n : Int)), some (zI (k : Int))] (zcpy μ 34 i sp 35 0 dp k) (zQ0 K) := by
    intro m
    induction m with
    | zero =>
      intro k hk
      refine k_X12_copies_t34_35_3 d i (sp : Int) (dp : Int) (n : Int) k _ K ⟨fun _ => ?_, fun q => absurd q (by omega)⟩
      rw [show k = n by omega]; exact h
    | succ m ih =>
      intro k hk
      refine k_X12_copies_t34_35_3 d i (sp : Int) (dp : Int) (n : Int) k _ K ⟨fun q => absurd q (by omega), fun _ => ?_⟩
      rw [z_fix (by omega) (by omega), z_fix (by omega) (by omega), z_fix (by omega) (by omega)]
      refine ⟨⟨by omega, by omega⟩, ⟨by omega, by omega⟩, ?_⟩
      rw [show ((sp : Int) + (k : Int)).toNat = sp + k by omega, show ((dp : Int) + (k : Int)).toNat = dp + k by omega, zcpy_src _ _ _ _ _ _ _ _ _ (Or.inl (by decide)), zcpy_s]
      exact ih (k + 1) (by omega)
  have h0 := L n 0 (by omega)
  rw [zcpy_0] at h0
  exact h0
theorem s_copies_34_36 (d : Nat) (i : Nat) (sp : Nat) (dp n : Nat) (h1 : sp + n ≤ 44) (h2 : dp + n ≤ 90) (μ : zM) (K : zM → Prop) (h : K (zcpy μ 34 i sp 36 0 dp n)) : zC0 d m_X12_copies [zR 34 i, zI (sp : Int), zR 36 0, zI (dp : Int), zI (n : Int)] μ K := by
  refine k_X12_copies_t34_36 d i (sp : Int) (dp : Int) (n : Int) μ K ?_
  have L : ∀ m k : Nat, k + m = n → zJ d m_X12_copies 3 [some (zR 34 i), some (zI (sp : Int)), some (zR 36 0), some (zI (dp : Int)), some (zI (n : Int)), some (zI (k : Int))] (zcpy μ 34 i sp 36 0 dp k) (zQ0 K) := by
    intro m
    induction m with
    | zero =>
      intro k hk
      refine k_X12_copies_t34_36_3 d i (sp : Int) (dp : Int) (n : Int) k _ K ⟨fun _ => ?_, fun q => absurd q (by omega)⟩
      rw [show k = n by omega]; exact h
    | succ m ih =>
      intro k hk
      refine k_X12_copies_t34_36_3 d i (sp : Int) (dp : Int) (n : Int) k _ K ⟨fun q => absurd q (by omega), fun _ => ?_⟩
      rw [z_fix (by omega) (by omega), z_fix (by omega) (by omega), z_fix (by omega) (by omega)]
      refine ⟨⟨by omega, by omega⟩, ⟨by omega, by omega⟩, ?_⟩
      rw [show ((sp : Int) + (k : Int)).toNat = sp + k by omega, show ((dp : Int) + (k : Int)).toNat = dp + k by omega, zcpy_src _ _ _ _ _ _ _ _ _ (Or.inl (by decide)), zcpy_s]
      exact ih (k + 1) (by omega)
  have h0 := L n 0 (by omega)
  rw [zcpy_0] at h0
  exact h0
theorem s_copies_35_34 (d : Nat) (sp : Nat) (j : Nat) (dp n : Nat) (h1 : sp + n ≤ 1320) (h2 : dp + n ≤ 44) (μ : zM) (K : zM → Prop) (h : K (zcpy μ 35 0 sp 34 j dp n)) : zC0 d m_X12_copies [zR 35 0, zI (sp : Int), zR 34 j, zI (dp : Int), zI (n : Int)] μ K := by
  refine k_X12_copies_t35_34 d (sp : Int) j (dp : Int) (n : Int) μ K ?_
  have L : ∀ m k : Nat, k + m = n → zJ d m_X12_copies 3 [some (zR 35 0), some (zI (sp : Int)), some (zR 34 j), some (zI (dp : Int)), some (zI (n : Int)), some (zI (k : Int))] (zcpy μ 35 0 sp 34 j dp k) (zQ0 K) := by
    intro m
    induction m with
    | zero =>
      intro k hk
      refine k_X12_copies_t35_34_3 d (sp : Int) j (dp : Int) (n : Int) k _ K ⟨fun _ => ?_, fun q => absurd q (by omega)⟩
      rw [show k = n by omega]; exact h
    | succ m ih =>
      intro k hk
      refine k_X12_copies_t35_34_3 d (sp : Int) j (dp : Int) (n : Int) k _ K ⟨fun q => absurd q (by omega), fun _ => ?_⟩
      rw [z_fix (by omega) (by omega), z_fix (by omega) (by omega), z_fix (by omega) (by omega)]
      refine ⟨⟨by omega, by omega⟩, ⟨by omega, by omega⟩, ?_⟩
      rw [show ((sp : Int) + (k : Int)).toNat = sp + k by omega, show ((dp : Int) + (k : Int)).toNat = dp + k by omega, zcpy_src _ _ _ _ _ _ _ _ _ (Or.inl (by decide)), zcpy_s]
      exact ih (k + 1) (by omega)
  have h0 := L n 0 (by omega)
  rw [zcpy_0] at h0
  exact h0
theorem s_copies_36_34 (d : Nat) (sp : Nat) (j : Nat) (dp n : Nat) (h1 : sp + n ≤ 90) (h2 : dp + n ≤ 44) (μ : zM) (K : zM → Prop) (h : K (zcpy μ 36 0 sp 34 j dp n)) : zC0 d m_X12_copies [zR 36 0, zI (sp : Int), zR 34 j, zI (dp : Int), zI (n : Int)] μ K := by
  refine k_X12_copies_t36_34 d (sp : Int) j (dp : Int) (n : Int) μ K ?_
  have L : ∀ m k : Nat, k + m = n → zJ d m_X12_copies 3 [some (zR 36 0), some (zI (sp : Int)), some (zR 34 j), some (zI (dp : Int)), some (zI (n : Int)), some (zI (k : Int))] (zcpy μ 36 0 sp 34 j dp k) (zQ0 K) := by
    intro m
    induction m with
    | zero =>
      intro k hk
      refine k_X12_copies_t36_34_3 d (sp : Int) j (dp : Int) (n : Int) k _ K ⟨fun _ => ?_, fun q => absurd q (by omega)⟩
      rw [show k = n by omega]; exact h
    | succ m ih =>
      intro k hk
      refine k_X12_copies_t36_34_3 d (sp : Int) j (dp : Int) (n : Int) k _ K ⟨fun q => absurd q (by omega), fun _ => ?_⟩
      rw [z_fix (by omega) (by omega), z_fix (by omega) (by omega), z_fix (by omega) (by omega)]
      refine ⟨⟨by omega, by omega⟩, ⟨by omega, by omega⟩, ?_⟩
      rw [show ((sp : Int) + (k : Int)).toNat = sp + k by omega, show ((dp : Int) + (k : Int)).toNat = dp + k by omega, zcpy_src _ _ _ _ _ _ _ _ _ (Or.inl (by decide)), zcpy_s]
      exact ih (k + 1) (by omega)
  have h0 := L n 0 (by omega)
  rw [zcpy_0] at h0
  exact h0
end
section
/-! SPECS: what is read of the house and of a life (class) -/
theorem z_ixc {r b c : Nat} (hr : r < 100) (hb : b < 100) (hc : c < 100) : w32 (w32 ((r : Int) * (c : Int)) + (b : Int)) = ((c * r + b : Nat) : Int) := by
  have h1 : r * c < 10000 := by
    have h2 : r * c ≤ 99 * 99 := Nat.mul_le_mul (by omega) (by omega)
    omega
  have e : (r : Int) * (c : Int) = ((r * c : Nat) : Int) := (Int.natCast_mul r c).symm
  rw [e, show w32 ((r * c : Nat) : Int) = ((r * c : Nat) : Int) from z_fix (by omega) (by omega), z_fix (by omega) (by omega), Nat.mul_comm c r]
  omega
theorem z_ix12 {r b : Nat} (hr : r < 100) (hb : b < 100) : w32 (w32 ((r : Int) * 12) + (b : Int)) = ((12 * r + b : Nat) : Int) := z_ixc (c := 12) hr hb (by omega)
theorem z_ix3 {r b : Nat} (hr : r < 100) (hb : b < 100) : w32 (w32 ((r : Int) * 3) + (b : Int)) = ((3 * r + b : Nat) : Int) := z_ixc (c := 3) hr hb (by omega)
theorem z_ix4 {r b : Nat} (hr : r < 100) (hb : b < 100) : w32 (w32 ((r : Int) * 4) + (b : Int)) = ((4 * r + b : Nat) : Int) := z_ixc (c := 4) hr hb (by omega)
def zHc (μ : zM) (n : Nat) (B : Nat → Nat) : Prop := μ 3 0 2 = (n : Int) ∧ n ≤ 6 ∧ (∀ r, r < n → μ 10 0 r = (B r : Int) ∧ 1 ≤ B r ∧ B r ≤ 12) ∧ ∀ r b, r < n → b < B r → (0 ≤ μ 11 0 (12 * r + b) ∧ μ 11 0 (12 * r + b) ≤ 9) ∧ (0 ≤ μ 12 0 (12 * r + b) ∧ μ 12 0 (12 * r + b) ≤ 9)
def zLc (μ : zM) (j : Nat) : Prop := ∀ r, r < 6 → zset12 (μ 15 j r)
/-- what a BAR reads, in a life of the class -/
def rC (μ : zM) (j r b : Nat) : Int := if zbit (μ 15 j r) b = true then μ 12 0 (12 * r + b) else μ 11 0 (12 * r + b)
theorem rC_rg {μ : zM} {n j r b : Nat} {B : Nat → Nat} (hH : zHc μ n B) (hr : r < n) (hb : b < B r) : 0 ≤ rC μ j r b ∧ rC μ j r b ≤ 9 := by
  have h := hH.2.2.2 r b hr hb
  unfold rC
  split
  · exact h.2
  · exact h.1
theorem s_hasRoom (d j : Nat) (a : Int) (μ : zM) (K : Int → zM → Prop) (h1 : 0 ≤ a → a < μ 3 j 2 → K 1 μ) (h0 : ¬ (0 ≤ a ∧ a < μ 3 j 2) → K 0 μ) : zC1 d m_X1_hasRoom [zR 3 j, zI a] μ K :=
  k_X1_hasRoom d j a μ K ⟨fun q => ⟨Or.inl rfl, h0 (by omega)⟩, fun q => ⟨fun q2 => ⟨Or.inl rfl, h0 (by omega)⟩, fun q2 => ⟨Or.inr rfl, h1 (by omega) (by omega)⟩⟩⟩
theorem s_hasPerson (d j : Nat) (a : Int) (μ : zM) (K : Int → zM → Prop) (h1 : 0 ≤ a → a < μ 3 j 3 → K 1 μ) (h0 : ¬ (0 ≤ a ∧ a < μ 3 j 3) → K 0 μ) : zC1 d m_X1_hasPerson [zR 3 j, zI a] μ K :=
  k_X1_hasPerson d j a μ K ⟨fun q => ⟨Or.inl rfl, h0 (by omega)⟩, fun q => ⟨fun q2 => ⟨Or.inl rfl, h0 (by omega)⟩, fun q2 => ⟨Or.inr rfl, h1 (by omega) (by omega)⟩⟩⟩
theorem s_hasWall (d j : Nat) (a : Int) (μ : zM) (K : Int → zM → Prop) (h1 : 0 ≤ a → a < μ 3 j 4 → K 1 μ) (h0 : ¬ (0 ≤ a ∧ a < μ 3 j 4) → K 0 μ) : zC1 d m_X1_hasWall [zR 3 j, zI a] μ K :=
  k_X1_hasWall d j a μ K ⟨fun q => ⟨Or.inl rfl, h0 (by omega)⟩, fun q => ⟨fun q2 => ⟨Or.inl rfl, h0 (by omega)⟩, fun q2 => ⟨Or.inr rfl, h1 (by omega) (by omega)⟩⟩⟩
theorem s_barsOf (d j r : Nat) (hr : r < 6) (μ : zM) (K : Int → zM → Prop) (h : K (μ 10 j r) μ) : zC1 (d + 1) m_X1_barsOf [zR 3 j, zI (r : Int)] μ K := k_X1_barsOf d j r μ K (s_at_10 d j r hr μ _ h)
theorem s_hasBar (d : Nat) (a b : Int) (μ : zM) {n : Nat} {B : Nat → Nat} (hH : zHc μ n B) (K : Int → zM → Prop) (h1 : ∀ r c : Nat, a = r → b = c → r < n → c < B r → K 1 μ) (h0 : (¬ ∃ r c : Nat, a = r ∧ b = c ∧ r < n ∧ c < B r) → K 0 μ) : zC1 (d + 2) m_X1_hasBar [zR 3 0, zI a, zI b] μ K := by
  obtain ⟨e1, e2, e3, -⟩ := hH
  refine k_X1_hasBar (d + 1) 0 a b μ K (s_hasRoom _ 0 a μ _ (fun q1 q2 => ?_) (fun q => ?_))
  · rw [e1] at q2
    obtain ⟨r, rfl⟩ := Int.eq_ofNat_of_zero_le q1
    have hr : r < n := by omega
    refine ⟨fun q => absurd q (by decide), fun _ => ⟨fun q => ⟨Or.inl rfl, h0 ?_⟩, fun q => s_barsOf d 0 r (by omega) μ _ ?_⟩⟩
    · rintro ⟨r', c, g1, g2, -⟩; omega
    · rw [(e3 r hr).1]
      refine ⟨fun q2 => ⟨Or.inl rfl, h0 ?_⟩, fun q2 => ⟨Or.inr rfl, ?_⟩⟩
      · rintro ⟨r', c, g1, g2, g3, g4⟩
        have : r' = r := by omega
        subst this
        omega
      · obtain ⟨c, rfl⟩ := Int.eq_ofNat_of_zero_le (show 0 ≤ b by omega)
        exact h1 r c rfl rfl hr (by omega)
  · refine ⟨fun _ => ⟨Or.inl rfl, h0 ?_⟩, fun q2 => absurd rfl q2⟩
    rintro ⟨r', c, g1, g2, g3, g4⟩
    apply q
    omega
theorem s_paperOf (d j r b : Nat) (hr : r < 6) (hb : b < 12) (μ : zM) (K : Int → zM → Prop) (h : K (μ 11 j (12 * r + b)) μ) : zC1 (d + 1) m_X1_paperOf [zR 3 j, zI (r : Int), zI (b : Int)] μ K := by
  refine k_X1_paperOf d j r b μ K ?_
  rw [z_ix12 (by omega) (by omega)]
  exact s_at_11 d j _ (by omega) μ _ h
theorem s_underOf (d j r b : Nat) (hr : r < 6) (hb : b < 12) (μ : zM) (K : Int → zM → Prop) (h : K (μ 12 j (12 * r + b)) μ) : zC1 (d + 1) m_X1_underOf [zR 3 j, zI (r : Int), zI (b : Int)] μ K := by
  refine k_X1_underOf d j r b μ K ?_
  rw [z_ix12 (by omega) (by omega)]
  exact s_at_12 d j _ (by omega) μ _ h
theorem s_personPart (d j p w : Nat) (hp : p < 5) (hw : w < 3) (μ : zM) (K : Int → zM → Prop) (h : K (μ 13 j (3 * p + w)) μ) : zC1 (d + 1) m_X1_personPart [zR 3 j, zI (p : Int), zI (w : Int)] μ K := by
  refine k_X1_personPart d j p w μ K ?_
  rw [z_ix3 (by omega) (by omega)]
  exact s_at_13 d j _ (by omega) μ _ h
theorem s_wallPart (d j p w : Nat) (hp : p < 6) (hw : w < 4) (μ : zM) (K : Int → zM → Prop) (h : K (μ 14 j (4 * p + w)) μ) : zC1 (d + 1) m_X1_wallPart [zR 3 j, zI (p : Int), zI (w : Int)] μ K := by
  refine k_X1_wallPart d j p w μ K ?_
  rw [z_ix4 (by omega) (by omega)]
  exact s_at_14 d j _ (by omega) μ _ h
theorem s_isIn (d : Nat) (s : Int) (hs : zin s) (k : Nat) (hk : k < 31) (μ : zM) (K : Int → zM → Prop) (h : K (if zbit s k = true then 1 else 0) μ) : zC1 d m_X9_isIn [zI s, zI (k : Int)] μ K := by
  refine k_X9_isIn d s k μ K ⟨fun q => absurd q (by omega), fun _ => ⟨fun q => absurd q (by omega), fun _ => ⟨fun q => ⟨Or.inl rfl, ?_⟩, fun q => ⟨Or.inr rfl, ?_⟩⟩⟩⟩
  · have : ¬ zbit s k = true := fun z => q ((z_has1 hs (by omega)).mpr z)
    rw [if_neg this] at h; exact h
  · have : zbit s k = true := (z_has1 hs (by omega)).mp (Classical.byContradiction fun z => q z)
    rw [if_pos this] at h; exact h
theorem s_isLifted (d j r b : Nat) (hr : r < 6) (hb : b < 12) (μ : zM) (hL : zLc μ j) (K : Int → zM → Prop) (h : K (if zbit (μ 15 j r) b = true then 1 else 0) μ) : zC1 (d + 1) m_X3_isLifted [zR 4 j, zI (r : Int), zI (b : Int)] μ K := by
  refine k_X3_isLifted d j r b μ K (s_at_15 d j r hr μ _ (s_isIn d _ (zset12_in (hL r hr)) b (by omega) μ _ ⟨?_, h⟩))
  split
  · exact Or.inr rfl
  · exact Or.inl rfl
theorem s_liftedIn (d j r : Nat) (hr : r < 6) (μ : zM) (K : Int → zM → Prop) (h : K (μ 15 j r) μ) : zC1 (d + 1) m_X3_liftedIn [zR 4 j, zI (r : Int)] μ K := k_X3_liftedIn d j r μ K (s_at_15 d j r hr μ _ h)
theorem s_reads (d j r b : Nat) (hr : r < 6) (hb : b < 12) (μ : zM) (hL : zLc μ j) (K : Int → zM → Prop) (h : K (rC μ j r b) μ) : zC1 (d + 2) m_X3_reads [zR 4 j, zI (r : Int), zI (b : Int)] μ K := by
  refine k_X3_reads (d + 1) j r b μ K (s_isLifted d j r b hr hb μ hL _ ?_)
  unfold rC at h
  by_cases q : zbit (μ 15 j r) b = true
  · rw [if_pos q] at h ⊢
    exact ⟨fun z => absurd z (by decide), fun _ => s_underOf d 0 r b hr hb μ _ h⟩
  · rw [if_neg q] at h ⊢
    exact ⟨fun _ => s_paperOf d 0 r b hr hb μ _ h, fun z => absurd rfl z⟩
theorem s_leftOver (d : Nat) (a : Nat) (b : Nat) (hb : 0 < b) (μ : zM) (K : Int → zM → Prop) (h : K ((a % b : Nat) : Int) μ) : zC1 d m_X9_leftOver [zI (a : Int), zI (b : Int)] μ K := by
  refine k_X9_leftOver d a b μ K ⟨fun q => absurd q (by omega), fun _ => ⟨by omega, ?_⟩⟩
  rw [← Int.ofNat_tmod]
  exact h
theorem s_readsRound (d j r b : Nat) (μ : zM) {n : Nat} {B : Nat → Nat} (hH : zHc μ n B) (hr : r < n) (hL : zLc μ j) (K : Int → zM → Prop) (h : K (rC μ j r (b % B r)) μ) : zC1 (d + 3) m_X3_readsRound [zR 4 j, zI (r : Int), zI (b : Int)] μ K := by
  obtain ⟨e1, e2, e3, -⟩ := hH
  obtain ⟨g1, g2, g3⟩ := e3 r hr
  refine k_X3_readsRound (d + 2) j r b μ K (s_barsOf (d + 1) 0 r (by omega) μ _ ?_)
  rw [g1]
  have := Nat.mod_lt b (show 0 < B r by omega)
  exact s_leftOver _ b (B r) (by omega) μ _ (s_reads d j r (b % B r) (by omega) (by omega) μ hL _ h)
theorem s_roomOf (d j p : Nat) (hp : p < 5) (μ : zM) (K : Int → zM → Prop) (h : K (μ 16 j p) μ) : zC1 (d + 1) m_X3_roomOf [zR 4 j, zI (p : Int)] μ K := k_X3_roomOf d j p μ K (s_at_16 d j p hp μ _ h)
theorem s_placeOf (d j p : Nat) (hp : p < 5) (μ : zM) (K : Int → zM → Prop) (h : K (μ 17 j p) μ) : zC1 (d + 1) m_X3_placeOf [zR 4 j, zI (p : Int)] μ K := k_X3_placeOf d j p μ K (s_at_17 d j p hp μ _ h)
theorem s_paceOf (d j p : Nat) (hp : p < 5) (μ : zM) (K : Int → zM → Prop) (h : K (μ 18 j p) μ) : zC1 (d + 1) m_X3_paceOf [zR 4 j, zI (p : Int)] μ K := k_X3_paceOf d j p μ K (s_at_18 d j p hp μ _ h)
theorem s_readBy (d j p r b : Nat) (hp : p < 5) (μ : zM) (hL : zLc μ j) (h1 : μ 16 j p = (r : Int)) (h2 : μ 17 j p = (b : Int)) (hr : r < 6) (hb : b < 12) (K : Int → zM → Prop) (h : K (rC μ j r b) μ) : zC1 (d + 3) m_X3_readBy [zR 4 j, zI (p : Int)] μ K := by
  refine k_X3_readBy (d + 2) j p μ K (s_roomOf (d + 1) j p hp μ _ (s_placeOf (d + 1) j p hp μ _ ?_))
  rw [h1, h2]
  exact s_reads d j r b hr hb μ hL _ h
theorem s_isAt (d j p : Nat) (hp : p < 5) (r b : Int) (μ : zM) (K : Int → zM → Prop) (h1 : μ 16 j p = r → μ 17 j p = b → K 1 μ) (h0 : ¬ (μ 16 j p = r ∧ μ 17 j p = b) → K 0 μ) : zC1 (d + 1) m_X3_isAt [zR 4 j, zI (p : Int), zI r, zI b] μ K := by
  refine k_X3_isAt d j p r b μ K (s_at_16 d j p hp μ _ ⟨fun q => ⟨Or.inl rfl, h0 fun z => q z.1⟩, fun q => s_at_17 d j p hp μ _ ⟨fun q2 => ⟨Or.inl rfl, h0 fun z => q2 z.2⟩, fun q2 => ⟨Or.inr rfl, h1 (by omega) (by omega)⟩⟩⟩)
/-- the KEY -/
def zkey (f : Nat → Int) (n : Nat) : Int := zSm f n % 12
theorem s_keyOf (d j r : Nat) (μ : zM) {n : Nat} {B : Nat → Nat} (hH : zHc μ n B) (hr : r < n) (hL : zLc μ j) (K : Int → zM → Prop) (h : K (zkey (rC μ j r) (B r)) μ) : zC1 (d + 3) m_X8_keyOf [zR 4 j, zI (r : Int)] μ K := by
  have hH0 := hH
  obtain ⟨e1, e2, e3, -⟩ := hH
  obtain ⟨g1, g2, g3⟩ := e3 r hr
  refine k_X8_keyOf (d + 2) j r μ K (s_barsOf (d + 1) 0 r (by omega) μ _ ?_)
  rw [g1]
  have R : ∀ i, i ≤ B r → 0 ≤ zSm (rC μ j r) i ∧ zSm (rC μ j r) i ≤ 108 := fun i hi => by
    have := zSm_rg (f := rC μ j r) (m := 9) (n := i) (fun b hb => rC_rg hH0 hr (by omega))
    omega
  have L : ∀ m i : Nat, i + m = B r → zJ (d + 3) m_X8_keyOf 14 [some (zR 4 j), some (zI (r : Int)), some (zI (zSm (rC μ j r) i)), some (zI (B r : Int)), some (zI (i : Int))] μ (zQ1 K) := by
    intro m
    induction m with
    | zero =>
      intro i hi
      refine k_X8_keyOf_14 (d + 2) j r _ (B r) i μ K ⟨fun _ => ⟨by decide, ?_⟩, fun q => absurd q (by omega)⟩
      have hi2 : i = B r := by omega
      subst hi2
      rw [Int.tmod_eq_emod_of_nonneg (R _ (Nat.le_refl _)).1]
      exact h
    | succ m ih =>
      intro i hi
      refine k_X8_keyOf_14 (d + 2) j r _ (B r) i μ K ⟨fun q => absurd q (by omega), fun _ => s_reads d j r i (by omega) (by omega) μ hL _ ?_⟩
      have h1 := R i (by omega)
      have h2 := rC_rg (j := j) hH0 hr (show i < B r by omega)
      rw [z_fix (by omega) (by omega), z_fix (by omega) (by omega)]
      exact ih (i + 1) (by omega)
  exact L (B r) 0 (by omega)
end
section
/-! SPECS: what ROOMS READ (class) -/
def zal2 (g : Nat → Bool) : Nat → Bool
  | 0 => true
  | n + 1 => zal2 g n && g n
theorem zal2_ext {f g : Nat → Bool} : ∀ {n : Nat}, (∀ b, b < n → f b = g b) → zal2 f n = zal2 g n
  | 0, _ => rfl
  | n + 1, h => by
    unfold zal2
    rw [zal2_ext (n := n) (fun b hb => h b (by omega)), h n (by omega)]
theorem zal2_no {g : Nat → Bool} {i : Nat} (hi : g i = false) : ∀ {n : Nat}, i < n → zal2 g n = false
  | 0, h => by omega
  | n + 1, h => by
    unfold zal2
    by_cases q : i = n
    · subst q; rw [hi]; simp
    · rw [zal2_no hi (n := n) (by omega)]; rfl
/-- the first from i on, of m -/
def zfro (g : Nat → Bool) : Nat → Nat → Nat
  | 0, i => i
  | m + 1, i => if g i = true then i else zfro g m (i + 1)
theorem zfro_ext {f g : Nat → Bool} : ∀ {m i : Nat}, (∀ b, i ≤ b → b < i + m → f b = g b) → zfro f m i = zfro g m i
  | 0, _, _ => rfl
  | m + 1, i, h => by
    unfold zfro
    rw [h i (Nat.le_refl _) (by omega), zfro_ext (m := m) (i := i + 1) (fun b h1 h2 => h b (by omega) (by omega))]
/-- the last one of 1 .. n, or 0 -/
def zdow (g : Nat → Bool) : Nat → Nat
  | 0 => 0
  | n + 1 => if g (n + 1) = true then n + 1 else zdow g n
theorem zdow_ext {f g : Nat → Bool} : ∀ {n : Nat}, (∀ b, b ≤ n → f b = g b) → zdow f n = zdow g n
  | 0, _ => rfl
  | n + 1, h => by
    unfold zdow
    rw [h (n + 1) (Nat.le_refl _), zdow_ext (n := n) (fun b hb => h b (by omega))]
/-- a set -/
def zbm (g : Nat → Bool) : Nat → Int
  | 0 => 0
  | n + 1 => if g n = true then zon (zbm g n) n else zbm g n
theorem zbm_ext {f g : Nat → Bool} : ∀ {n : Nat}, (∀ b, b < n → f b = g b) → zbm f n = zbm g n
  | 0, _ => rfl
  | n + 1, h => by
    unfold zbm
    rw [h n (by omega), zbm_ext (n := n) (fun b hb => h b (by omega))]
theorem zbm_12 (g : Nat → Bool) : ∀ {n : Nat}, n ≤ 12 → zset12 (zbm g n)
  | 0, _ => ⟨by show (0 : Int) ≤ 0; omega, by show (0 : Int) < 4096; omega⟩
  | n + 1, h => by
    unfold zbm
    split
    · exact z_on12 (zbm_12 g (n := n) (by omega)) (by omega)
    · exact zbm_12 g (n := n) (by omega)
theorem zSm_s (f : Nat → Int) (n : Nat) : zSm f (n + 1) = zSm f n + f n := rfl
theorem zbm_s (g : Nat → Bool) (n : Nat) : zbm g (n + 1) = if g n = true then zon (zbm g n) n else zbm g n := rfl
theorem zfro_s (g : Nat → Bool) (m i : Nat) : zfro g (m + 1) i = if g i = true then i else zfro g m (i + 1) := rfl
theorem zal2_s (g : Nat → Bool) (n : Nat) : zal2 g (n + 1) = (zal2 g n && g n) := rfl
theorem zdow_s (g : Nat → Bool) (n : Nat) : zdow g (n + 1) = if g (n + 1) = true then n + 1 else zdow g n := rfl
def zeqb (f g : Nat → Int) (b : Nat) : Bool := decide (f b = g b)
def zrpt (f : Nat → Int) (n p b : Nat) : Bool := decide (f b = f ((b + p) % n))
theorem s_repeatsBy (d j r p : Nat) (hp : p < 100) (μ : zM) {n : Nat} {B : Nat → Nat} (hH : zHc μ n B) (hr : r < n) (hL : zLc μ j) (K : Int → zM → Prop) (h : K (if zal2 (zrpt (rC μ j r) (B r) p) (B r) = true then 1 else 0) μ) : zC1 (d + 4) m_X8_repeatsBy [zR 4 j, zI (r : Int), zI (p : Int)] μ K := by
  have hH0 := hH
  obtain ⟨e1, e2, e3, -⟩ := hH
  obtain ⟨g1, g2, g3⟩ := e3 r hr
  refine k_X8_repeatsBy (d + 3) j r p μ K (s_barsOf (d + 2) 0 r (by omega) μ _ ?_)
  rw [g1]
  have L : ∀ m i : Nat, i + m = B r → zal2 (zrpt (rC μ j r) (B r) p) i = true → zJ (d + 4) m_X8_repeatsBy 12 [some (zR 4 j), some (zI (r : Int)), some (zI (p : Int)), some (zI (B r : Int)), some (zI (i : Int))] μ (zQ1 K) := by
    intro m
    induction m with
    | zero =>
      intro i hi ha
      refine k_X8_repeatsBy_12 (d + 3) j r p (B r) i μ K ⟨fun _ => ⟨Or.inr rfl, ?_⟩, fun q => absurd q (by omega)⟩
      rw [show i = B r by omega] at ha
      rw [if_pos ha] at h
      exact h
    | succ m ih =>
      intro i hi ha
      refine k_X8_repeatsBy_12 (d + 3) j r p (B r) i μ K ⟨fun q => absurd q (by omega), fun _ => s_reads (d + 1) j r i (by omega) (by omega) μ hL _ ?_⟩
      rw [z_fix (by omega) (by omega), show (i : Int) + (p : Int) = ((i + p : Nat) : Int) by omega]
      refine s_readsRound d j r (i + p) μ hH0 hr hL _ ⟨fun q => ?_, fun q => ⟨Or.inl rfl, ?_⟩⟩
      · rw [z_fix (by omega) (by omega)]
        refine ih (i + 1) (by omega) ?_
        rw [zal2_s, ha]
        simpa [zrpt] using q
      · have := zal2_no (g := zrpt (rC μ j r) (B r) p) (i := i) (by simpa [zrpt] using q) (n := B r) (by omega)
        rw [this] at h
        exact h
  exact L (B r) 0 (by omega) rfl
/-- the REPEAT -/
def zrep (f : Nat → Int) (n : Nat) : Nat := zfro (fun p => zal2 (zrpt f n p) n) (n - 1) 1
theorem s_repeatOf (d j r : Nat) (μ : zM) {n : Nat} {B : Nat → Nat} (hH : zHc μ n B) (hr : r < n) (hL : zLc μ j) (K : Int → zM → Prop) (h : K (zrep (rC μ j r) (B r)) μ) : zC1 (d + 5) m_X8_repeatOf [zR 4 j, zI (r : Int)] μ K := by
  have hH0 := hH
  obtain ⟨e1, e2, e3, -⟩ := hH
  obtain ⟨g1, g2, g3⟩ := e3 r hr
  refine k_X8_repeatOf (d + 4) j r μ K (s_barsOf (d + 3) 0 r (by omega) μ _ ?_)
  rw [g1]
  have L : ∀ m i : Nat, i + m = B r → 0 < i → zrep (rC μ j r) (B r) = zfro (fun p => zal2 (zrpt (rC μ j r) (B r) p) (B r)) m i → zJ (d + 5) m_X8_repeatOf 11 [some (zR 4 j), some (zI (r : Int)), some (zI (B r : Int)), some (zI (i : Int))] μ (zQ1 K) := by
    intro m
    induction m with
    | zero =>
      intro i hi h0 ha
      refine k_X8_repeatOf_11 (d + 4) j r (B r) i μ K ⟨fun _ => ?_, fun q => absurd q (by omega)⟩
      rw [ha] at h
      have e : zfro (fun p => zal2 (zrpt (rC μ j r) (B r) p) (B r)) 0 i = B r := by unfold zfro; omega
      rw [e] at h
      exact h
    | succ m ih =>
      intro i hi h0 ha
      refine k_X8_repeatOf_11 (d + 4) j r (B r) i μ K ⟨fun q => absurd q (by omega), fun _ => s_repeatsBy d j r i (by omega) μ hH0 hr hL _ ?_⟩
      rw [zfro_s] at ha
      by_cases q : zal2 (zrpt (rC μ j r) (B r) i) (B r) = true
      · rw [if_pos q] at ha ⊢
        refine ⟨fun z => absurd z (by decide), fun _ => ?_⟩
        rw [ha] at h
        exact h
      · rw [if_neg q] at ha ⊢
        refine ⟨fun _ => ?_, fun z => absurd rfl z⟩
        rw [z_fix (by omega) (by omega)]
        exact ih (i + 1) (by omega) (by omega) ha
  exact L (B r - 1) 1 (by omega) (by omega) rfl
def zopn (f : Nat → Nat → Int) (B : Nat → Nat) (r : Nat) : Bool := decide (f r (B r - 1) ≠ f r 0)
theorem s_openRooms (d j : Nat) (μ : zM) {n : Nat} {B : Nat → Nat} (hH : zHc μ n B) (hL : zLc μ j) (K : Int → zM → Prop) (h : K (zbm (zopn (rC μ j) B) n) μ) : zC1 (d + 3) m_X8_openRooms [zR 4 j] μ K := by
  have hH0 := hH
  obtain ⟨e1, e2, e3, -⟩ := hH
  refine k_X8_openRooms (d + 2) j μ K ?_
  have L : ∀ m i : Nat, i + m = n → zJ (d + 3) m_X8_openRooms 4 [some (zR 4 j), some (zI (zbm (zopn (rC μ j) B) i)), some (zI (i : Int))] μ (zQ1 K) := by
    intro m
    induction m with
    | zero =>
      intro i hi
      refine k_X8_openRooms_4 (d + 2) j _ i μ K ⟨fun _ => ?_, fun q => absurd q (by omega)⟩
      rw [show i = n by omega]
      exact h
    | succ m ih =>
      intro i hi
      obtain ⟨g1, g2, g3⟩ := e3 i (by omega)
      refine k_X8_openRooms_4 (d + 2) j _ i μ K ⟨fun q => absurd q (by omega), fun _ => s_barsOf (d + 1) 0 i (by omega) μ _ ?_⟩
      rw [g1, z_fix (by omega) (by omega), show (B i : Int) - 1 = ((B i - 1 : Nat) : Int) by omega]
      refine s_reads d j i (B i - 1) (by omega) (by omega) μ hL _ (s_reads d j i 0 (by omega) (by omega) μ hL _ ?_)
      rw [z_fix (by omega) (by omega), z_or12 (zbm_12 _ (by omega)) (by omega)]
      have e := ih (i + 1) (by omega)
      rw [zbm_s] at e
      refine ⟨fun q => ?_, fun q => ?_⟩
      · rw [if_neg (by simp [zopn, q])] at e
        exact e
      · rw [if_pos (by simpa [zopn] using q)] at e
        exact e
  exact L n 0 (by omega)
/-- how many BARS read a number -/
def zhow (f : Nat → Nat → Int) (B : Nat → Nat) (x : Int) (r : Nat) : Int := zSm (fun b => if f r b = x then 1 else 0) (B r)
def zcnt (f : Nat → Nat → Int) (B : Nat → Nat) (n : Nat) (x : Int) : Int := zSm (zhow f B x) n
theorem zhow_rg (f : Nat → Nat → Int) (B : Nat → Nat) (x : Int) (r : Nat) : ∀ i, 0 ≤ zSm (fun b => if f r b = x then (1 : Int) else 0) i ∧ zSm (fun b => if f r b = x then (1 : Int) else 0) i ≤ i := by
  intro i
  have := zSm_rg (f := fun b => if f r b = x then (1 : Int) else 0) (m := 1) (n := i) (fun b _ => by by_cases q : f r b = x <;> simp [q])
  omega
theorem zcnt_rg (f : Nat → Nat → Int) (B : Nat → Nat) (x : Int) {n : Nat} (h : ∀ r, r < n → B r ≤ 12) : ∀ i, i ≤ n → 0 ≤ zSm (zhow f B x) i ∧ zSm (zhow f B x) i ≤ 12 * i := by
  intro i hi
  refine zSm_rg (m := 12) (fun r hr => ?_)
  have h1 := zhow_rg f B x r (B r)
  have h2 := h r (by omega)
  unfold zhow
  omega
theorem s_howManyRead (d j : Nat) (x : Int) (μ : zM) {n : Nat} {B : Nat → Nat} (hH : zHc μ n B) (hL : zLc μ j) (K : Int → zM → Prop) (h : K (zcnt (rC μ j) B n x) μ) : zC1 (d + 3) m_X8_howManyRead [zR 4 j, zI x] μ K := by
  have hH0 := hH
  obtain ⟨e1, e2, e3, -⟩ := hH
  have hB : ∀ r, r < n → B r ≤ 12 := fun r hr => (e3 r hr).2.2
  refine k_X8_howManyRead (d + 2) j x μ K ?_
  have L : ∀ m i : Nat, i + m = n → zJ (d + 3) m_X8_howManyRead 4 [some (zR 4 j), some (zI x), some (zI (zSm (zhow (rC μ j) B x) i)), some (zI (i : Int)), none, none] μ (zQ1 K) := by
    intro m
    induction m with
    | zero =>
      intro i hi
      refine k_X8_howManyRead_4 (d + 2) j x _ i μ K ⟨fun _ => ?_, fun q => absurd q (by omega)⟩
      rw [show i = n by omega]
      exact h
    | succ m ih =>
      intro i hi
      obtain ⟨g1, g2, g3⟩ := e3 i (by omega)
      refine k_X8_howManyRead_4 (d + 2) j x _ i μ K ⟨fun q => absurd q (by omega), fun _ => s_barsOf (d + 1) 0 i (by omega) μ _ ?_⟩
      rw [g1]
      have hc := zcnt_rg (rC μ j) B x hB i (by omega)
      have L2 : ∀ m b : Nat, b + m = B i → zJ (d + 3) m_X8_howManyRead 28 [some (zR 4 j), some (zI x), some (zI (zSm (zhow (rC μ j) B x) i + zSm (fun b => if rC μ j i b = x then 1 else 0) b)), some (zI (i : Int)), some (zI (B i : Int)), some (zI (b : Int))] μ (zQ1 K) := by
        intro m2
        induction m2 with
        | zero =>
          intro b hb
          refine k_X8_howManyRead_28 (d + 2) j x _ i (B i) b μ K ⟨fun _ => ?_, fun q => absurd q (by omega)⟩
          rw [z_fix (by omega) (by omega)]
          have e := ih (i + 1) (by omega)
          rw [show b = B i by omega]
          exact e
        | succ m2 ih2 =>
          intro b hb
          have hh := zhow_rg (rC μ j) B x i b
          refine k_X8_howManyRead_28 (d + 2) j x _ i (B i) b μ K ⟨fun q => absurd q (by omega), fun _ => s_reads d j i b (by omega) (by omega) μ hL _ ?_⟩
          have e := ih2 (b + 1) (by omega)
          rw [z_fix (show (-2147483648 : Int) ≤ (b : Int) + 1 by omega) (by omega)]
          rw [zSm_s] at e
          refine ⟨fun q => ?_, fun q => ?_⟩
          · rw [if_neg q, Int.add_zero] at e
            exact e
          · have q2 : rC μ j i b = x := by omega
            rw [if_pos q2, ← Int.add_assoc] at e
            rw [z_fix (by omega) (by omega)]
            exact e
      have e := L2 (B i) 0 (by omega)
      rw [show zSm (fun b => if rC μ j i b = x then (1 : Int) else 0) 0 = 0 from rfl, Int.add_zero] at e
      exact e
  exact L n 0 (by omega)
/-- the number most read: state (best, how many) -/
def zmor (c : Nat → Int) : Nat → Int × Int
  | 0 => (-1, 0)
  | i + 1 => if c (i + 1) ≤ (zmor c i).2 then zmor c i else (((i + 1 : Nat) : Int), c (i + 1))
theorem s_mostRead (d j : Nat) (μ : zM) {n : Nat} {B : Nat → Nat} (hH : zHc μ n B) (hL : zLc μ j) (K : Int → zM → Prop) (h : K (zmor (fun x => zcnt (rC μ j) B n (x : Int)) 9).1 μ) : zC1 (d + 4) m_X8_mostRead [zR 4 j] μ K := by
  refine k_X8_mostRead (d + 3) j μ K ?_
  have L : ∀ m i : Nat, i + m = 9 → zJ (d + 4) m_X8_mostRead 6 [some (zR 4 j), some (zI (zmor (fun x => zcnt (rC μ j) B n (x : Int)) i).1), some (zI (zmor (fun x => zcnt (rC μ j) B n (x : Int)) i).2), some (zI ((i + 1 : Nat) : Int)), none] μ (zQ1 K) := by
    intro m
    induction m with
    | zero =>
      intro i hi
      refine k_X8_mostRead_6 (d + 3) j _ _ _ μ K ⟨fun _ => ?_, fun q => absurd q (by omega)⟩
      rw [show i = 9 by omega]
      exact h
    | succ m ih =>
      intro i hi
      refine k_X8_mostRead_6 (d + 3) j _ _ _ μ K ⟨fun q => absurd q (by omega), fun _ => s_howManyRead d j _ μ hH hL _ ?_⟩
      have e := ih (i + 1) (by omega)
      rw [z_fix (by omega) (by omega)]
      unfold zmor at e
      refine ⟨fun q => ?_, fun q => ?_⟩
      · rw [if_pos q] at e; exact e
      · rw [if_neg q] at e; exact e
  exact L 9 0 (by omega)
theorem s_firstThatReads (d j r : Nat) (x : Int) (μ : zM) {n : Nat} {B : Nat → Nat} (hH : zHc μ n B) (hr : r < n) (hL : zLc μ j) (K : Int → zM → Prop) (h : K (if zfro (fun b => decide (rC μ j r b = x)) (B r) 0 < B r then (zfro (fun b => decide (rC μ j r b = x)) (B r) 0 : Int) else -1) μ) : zC1 (d + 3) m_X8_firstThatReads [zR 4 j, zI (r : Int), zI x] μ K := by
  have hH0 := hH
  obtain ⟨e1, e2, e3, -⟩ := hH
  obtain ⟨g1, g2, g3⟩ := e3 r hr
  refine k_X8_firstThatReads (d + 2) j r x μ K (s_barsOf (d + 1) 0 r (by omega) μ _ ?_)
  rw [g1]
  have L : ∀ m i : Nat, i + m = B r → zfro (fun b => decide (rC μ j r b = x)) (B r) 0 = zfro (fun b => decide (rC μ j r b = x)) m i → zJ (d + 3) m_X8_firstThatReads 12 [some (zR 4 j), some (zI (r : Int)), some (zI x), some (zI (B r : Int)), some (zI (i : Int))] μ (zQ1 K) := by
    intro m
    induction m with
    | zero =>
      intro i hi ha
      refine k_X8_firstThatReads_12 (d + 2) j r x (B r) i μ K ⟨fun _ => ?_, fun q => absurd q (by omega)⟩
      have e : zfro (fun b => decide (rC μ j r b = x)) 0 i = B r := by unfold zfro; omega
      rw [ha, e, if_neg (by omega)] at h
      exact h
    | succ m ih =>
      intro i hi ha
      refine k_X8_firstThatReads_12 (d + 2) j r x (B r) i μ K ⟨fun q => absurd q (by omega), fun _ => s_reads d j r i (by omega) (by omega) μ hL _ ?_⟩
      rw [z_fix (by omega) (by omega)]
      rw [zfro_s] at ha
      refine ⟨fun q => ?_, fun q => ?_⟩
      · rw [if_neg (by simpa using q)] at ha
        exact ih (i + 1) (by omega) ha
      · rw [if_pos (by have : rC μ j r i = x := by omega
                       simpa using this)] at ha
        rw [ha, if_pos (by omega)] at h
        exact h
  exact L (B r) 0 (by omega) rfl
end
section
/-! SPECS: pairs of ROOMS, sets counted (class) -/
def zpct (s : Int) : Int := zSm (fun b => if zbit s b = true then 1 else 0) 12
def zbc1 (a : Int) : Int := w32 (a - (zand (zushr a 1) 1431655765))
def zbc2 (a : Int) : Int := w32 ((zand a 858993459) + (zand (zushr a 2) 858993459))
def zbc3 (a : Int) : Int := zand (w32 (a + (zushr a 4))) 252645135
def zbc4 (a : Int) : Int := w32 (a + (zushr a 8))
def zbc5 (a : Int) : Int := w32 (a + (zushr a 16))
def zbc (a : Int) : Int := zand (zbc5 (zbc4 (zbc3 (zbc2 (zbc1 a))))) 63
theorem zbc_D : ∀ x : Nat, x < 64 → ∀ y : Nat, y < 64 → zbc ((64 * x + y : Nat) : Int) = zpct ((64 * x + y : Nat) : Int) := by decide +kernel
theorem zbc_ok {s : Int} (h : zset12 s) : zbc s = zpct s := by
  obtain ⟨n, rfl⟩ := Int.eq_ofNat_of_zero_le h.1
  have hn : n < 4096 := by have := h.2; omega
  have e := zbc_D (n / 64) (by omega) (n % 64) (by omega)
  rw [show 64 * (n / 64) + n % 64 = n by omega] at e
  exact e
theorem zpct_rg (s : Int) : 0 ≤ zpct s ∧ zpct s ≤ 12 := by
  have := zSm_rg (f := fun b => if zbit s b = true then (1 : Int) else 0) (m := 1) (n := 12) (fun b _ => by by_cases q : zbit s b = true <;> simp [q])
  unfold zpct; omega
theorem s_bitCount (d : Nat) (s : Int) (hs : zset12 s) (μ : zM) (K : Int → zM → Prop) (h : K (zpct s) μ) : zC1 d m_J6_bitCount_0f7a4 [zI s] μ K := by
  rw [← zbc_ok hs] at h
  exact k_J6_bitCount_0f7a4 d s μ K h
theorem s_liftedInAll (d j : Nat) (μ : zM) {n : Nat} {B : Nat → Nat} (hH : zHc μ n B) (hL : zLc μ j) (K : Int → zM → Prop) (h : K (zSm (fun r => zpct (μ 15 j r)) n) μ) : zC1 (d + 2) m_X3_liftedInAll [zR 4 j] μ K := by
  obtain ⟨e1, e2, e3, -⟩ := hH
  refine k_X3_liftedInAll (d + 1) j μ K ?_
  have L : ∀ m i : Nat, i + m = n → zJ (d + 2) m_X3_liftedInAll 4 [some (zR 4 j), some (zI (zSm (fun r => zpct (μ 15 j r)) i)), some (zI (i : Int))] μ (zQ1 K) := by
    intro m
    induction m with
    | zero =>
      intro i hi
      refine k_X3_liftedInAll_4 (d + 1) j _ i μ K ⟨fun _ => ?_, fun q => absurd q (by omega)⟩
      rw [show i = n by omega]
      exact h
    | succ m ih =>
      intro i hi
      have h1 := zSm_rg (f := fun r => zpct (μ 15 j r)) (m := 12) (n := i) (fun r _ => zpct_rg _)
      have h2 := zpct_rg (μ 15 j i)
      refine k_X3_liftedInAll_4 (d + 1) j _ i μ K ⟨fun q => absurd q (by omega), fun _ => s_liftedIn d j i (by omega) μ _ (s_bitCount (d + 1) _ (hL i (by omega)) μ _ ?_)⟩
      rw [z_fix (by omega) (by omega), z_fix (by omega) (by omega)]
      exact ih (i + 1) (by omega)
  exact L n 0 (by omega)
/-- the ends: the last n of f (of a) are as the first n of g -/
def zend (f g : Nat → Int) (a n : Nat) : Bool := zal2 (fun b => decide (f (a - n + b) = g b)) n
theorem s_endsAsBegins (d j r t k : Nat) (μ : zM) {n : Nat} {B : Nat → Nat} (hH : zHc μ n B) (hr : r < n) (ht : t < n) (hk : k ≤ B r) (hk2 : k ≤ B t) (hL : zLc μ j) (K : Int → zM → Prop) (h : K (if zend (rC μ j r) (rC μ j t) (B r) k = true then 1 else 0) μ) : zC1 (d + 3) m_X8_endsAsBegins [zR 4 j, zI (r : Int), zI (t : Int), zI (k : Int)] μ K := by
  have hH0 := hH
  obtain ⟨e1, e2, e3, -⟩ := hH
  obtain ⟨g1, g2, g3⟩ := e3 r hr
  have g4 := (e3 t ht).2.2
  refine k_X8_endsAsBegins (d + 2) j r t k μ K (s_barsOf (d + 1) 0 r (by omega) μ _ ?_)
  rw [g1, z_fix (by omega) (by omega), show (B r : Int) - (k : Int) = ((B r - k : Nat) : Int) by omega]
  have L : ∀ m i : Nat, i + m = k → zal2 (fun b => decide (rC μ j r (B r - k + b) = rC μ j t b)) i = true → zJ (d + 3) m_X8_endsAsBegins 15 [some (zR 4 j), some (zI (r : Int)), some (zI (t : Int)), some (zI (k : Int)), some (zI ((B r - k : Nat) : Int)), some (zI (i : Int))] μ (zQ1 K) := by
    intro m
    induction m with
    | zero =>
      intro i hi ha
      refine k_X8_endsAsBegins_15 (d + 2) j r t k _ i μ K ⟨fun _ => ⟨Or.inr rfl, ?_⟩, fun q => absurd q (by omega)⟩
      rw [show i = k by omega] at ha
      unfold zend at h
      rw [if_pos ha] at h
      exact h
    | succ m ih =>
      intro i hi ha
      refine k_X8_endsAsBegins_15 (d + 2) j r t k _ i μ K ⟨fun q => absurd q (by omega), fun _ => ?_⟩
      rw [z_fix (by omega) (by omega), show ((B r - k : Nat) : Int) + (i : Int) = ((B r - k + i : Nat) : Int) by omega]
      refine s_reads d j r _ (by omega) (by omega) μ hL _ (s_reads d j t i (by omega) (by omega) μ hL _ ⟨fun q => ?_, fun q => ⟨Or.inl rfl, ?_⟩⟩)
      · rw [z_fix (by omega) (by omega)]
        refine ih (i + 1) (by omega) ?_
        rw [zal2_s, ha]
        simpa using q
      · have := zal2_no (g := fun b => decide (rC μ j r (B r - k + b) = rC μ j t b)) (i := i) (by simpa using q) (n := k) (by omega)
        unfold zend at h
        rw [this] at h
        exact h
  exact L k 0 (by omega) rfl
/-- the JOIN -/
def zjoin (f g : Nat → Int) (a b : Nat) : Nat := zdow (zend f g a) (if b < a then b else a)
theorem s_sharedEnd (d j r t : Nat) (μ : zM) {n : Nat} {B : Nat → Nat} (hH : zHc μ n B) (hr : r < n) (ht : t < n) (hL : zLc μ j) (K : Int → zM → Prop) (h : K (zjoin (rC μ j r) (rC μ j t) (B r) (B t)) μ) : zC1 (d + 4) m_X8_sharedEnd [zR 4 j, zI (r : Int), zI (t : Int)] μ K := by
  have hH0 := hH
  obtain ⟨e1, e2, e3, -⟩ := hH
  obtain ⟨g1, g2, g3⟩ := e3 r hr
  obtain ⟨g4, g5, g6⟩ := e3 t ht
  refine k_X8_sharedEnd (d + 3) j r t μ K (s_barsOf (d + 2) 0 r (by omega) μ _ ?_)
  rw [g1]
  refine s_barsOf (d + 2) 0 t (by omega) μ _ ?_
  rw [g4]
  have e : zmin (B r : Int) (B t : Int) = ((if B t < B r then B t else B r : Nat) : Int) := by
    unfold zmin
    by_cases q : B t < B r
    · rw [if_pos q, if_pos (by omega)]
    · rw [if_neg q, if_neg (by omega)]
  rw [e]
  have hm : (if B t < B r then B t else B r) ≤ B r ∧ (if B t < B r then B t else B r) ≤ B t := by split <;> omega
  unfold zjoin at h
  generalize (if B t < B r then B t else B r) = x at h hm ⊢
  have L : ∀ i : Nat, i ≤ x → zdow (zend (rC μ j r) (rC μ j t) (B r)) x = zdow (zend (rC μ j r) (rC μ j t) (B r)) i → zJ (d + 4) m_X8_sharedEnd 23 [some (zR 4 j), some (zI (r : Int)), some (zI (t : Int)), none, some (zI (i : Int))] μ (zQ1 K) := by
    intro i
    induction i with
    | zero =>
      intro _ ha
      refine k_X8_sharedEnd_23 (d + 3) j r t _ μ K ⟨fun _ => ?_, fun q => absurd q (by omega)⟩
      rw [ha] at h
      exact h
    | succ i ih =>
      intro hi ha
      refine k_X8_sharedEnd_23 (d + 3) j r t _ μ K ⟨fun q => absurd q (by omega), fun _ => s_endsAsBegins d j r t (i + 1) μ hH0 hr ht (by omega) (by omega) hL _ ?_⟩
      rw [zdow_s] at ha
      by_cases q : zend (rC μ j r) (rC μ j t) (B r) (i + 1) = true
      · rw [if_pos q] at ha ⊢
        refine ⟨fun z => absurd z (by decide), fun _ => ?_⟩
        rw [ha] at h
        exact h
      · rw [if_neg q] at ha ⊢
        refine ⟨fun _ => ?_, fun z => absurd rfl z⟩
        rw [z_fix (by omega) (by omega), show ((i + 1 : Nat) : Int) + -1 = (i : Int) by omega]
        exact ih (by omega) ha
  exact L x (Nat.le_refl _) rfl
/-- how far two KEYS are -/
def zaw (a b : Int) : Int := if 12 - (if 0 ≤ a - b then a - b else b - a) < (if 0 ≤ a - b then a - b else b - a) then 12 - (if 0 ≤ a - b then a - b else b - a) else (if 0 ≤ a - b then a - b else b - a)
theorem s_between (d : Nat) (a b : Int) (ha : 0 ≤ a ∧ a < 12) (hb : 0 ≤ b ∧ b < 12) (μ : zM) (K : Int → zM → Prop) (h : K (zaw a b) μ) : zC1 (d + 1) m_X8_between [zI a, zI b] μ K := by
  refine k_X8_between d a b μ K ?_
  have e : zmin (zabs (w32 (a - b))) (w32 (12 - (zabs (w32 (a - b))))) = zaw a b := by
    have h1 : w32 (a - b) = a - b := z_fix (by omega) (by omega)
    have h2 : zabs (a - b) = if 0 ≤ a - b then a - b else b - a := by
      unfold zabs
      split
      · rfl
      · rw [z_fix (by omega) (by omega)]; omega
    rw [h1, h2]
    unfold zmin zaw
    generalize hx : (if 0 ≤ a - b then a - b else b - a) = x
    have h3 : 0 ≤ x ∧ x < 12 := by rw [← hx]; split <;> omega
    rw [show w32 (12 - x) = 12 - x from z_fix (by omega) (by omega)]
  rw [e]; exact h
theorem zkey_rg (f : Nat → Int) (n : Nat) : 0 ≤ zkey f n ∧ zkey f n < 12 := by unfold zkey; omega
theorem zaw_rg {a b : Int} (ha : 0 ≤ a ∧ a < 12) (hb : 0 ≤ b ∧ b < 12) : 0 ≤ zaw a b ∧ zaw a b ≤ 6 := by
  unfold zaw
  split <;> split <;> omega
/-- the NEAREST: state (best, how far) -/
def znear (k : Nat → Int) (r : Nat) : Nat → Int × Int
  | 0 => (-1, 12)
  | i + 1 => if i = r then znear k r i else if zaw (k r) (k i) ≥ (znear k r i).2 then znear k r i else ((i : Int), zaw (k r) (k i))
theorem znear_s (k : Nat → Int) (r i : Nat) : znear k r (i + 1) = if i = r then znear k r i else if zaw (k r) (k i) ≥ (znear k r i).2 then znear k r i else ((i : Int), zaw (k r) (k i)) := rfl
abbrev kC (μ : zM) (j : Nat) (B : Nat → Nat) (r : Nat) : Int := zkey (rC μ j r) (B r)
theorem s_nearestRoom (d j r : Nat) (μ : zM) {n : Nat} {B : Nat → Nat} (hH : zHc μ n B) (hr : r < n) (hL : zLc μ j) (K : Int → zM → Prop) (h : K (znear (kC μ j B) r n).1 μ) : zC1 (d + 4) m_X8_nearestRoom [zR 4 j, zI (r : Int)] μ K := by
  have hH0 := hH
  obtain ⟨e1, e2, e3, -⟩ := hH
  refine k_X8_nearestRoom (d + 3) j r μ K (s_keyOf d j r μ hH0 hr hL _ ?_)
  have L : ∀ m i : Nat, i + m = n → zJ (d + 4) m_X8_nearestRoom 15 [some (zR 4 j), some (zI (r : Int)), some (zI (kC μ j B r)), some (zI (znear (kC μ j B) r i).1), some (zI (znear (kC μ j B) r i).2), some (zI (i : Int)), none] μ (zQ1 K) := by
    intro m
    induction m with
    | zero =>
      intro i hi
      refine k_X8_nearestRoom_15 (d + 3) j r _ _ _ i μ K ⟨fun _ => ?_, fun q => absurd q (by omega)⟩
      rw [show i = n by omega]
      exact h
    | succ m ih =>
      intro i hi
      refine k_X8_nearestRoom_15 (d + 3) j r _ _ _ i μ K ⟨fun q => absurd q (by omega), fun _ => s_keyOf d j i μ hH0 (by omega) hL _ (s_between (d + 2) _ _ (zkey_rg _ _) (zkey_rg _ _) μ _ ?_)⟩
      have e := ih (i + 1) (by omega)
      rw [z_fix (by omega) (by omega)]
      rw [znear_s] at e
      refine ⟨fun q => ?_, fun q => ⟨fun q2 => ?_, fun q2 => ?_⟩⟩
      · rw [if_pos (by omega)] at e; exact e
      · rw [if_neg (by omega), if_pos q2] at e; exact e
      · rw [if_neg (by omega), if_neg q2] at e; exact e
  exact L n 0 (by omega)
/-- from a set of ROOMS, one step on -/
def zstp1 (k : Nat → Int) (s : Int) (x : Nat) : Nat → Int → Int
  | 0, a => a
  | i + 1, a => if zaw (k x) (k i) > 2 then zstp1 k s x i a else zon (zstp1 k s x i a) i
def zstp (k : Nat → Int) (n : Nat) (s : Int) : Nat → Int
  | 0 => s
  | x + 1 => if zbit s x = true then zstp1 k s x n (zstp k n s x) else zstp k n s x
theorem zstp1_s (k : Nat → Int) (s : Int) (x i : Nat) (a : Int) : zstp1 k s x (i + 1) a = if zaw (k x) (k i) > 2 then zstp1 k s x i a else zon (zstp1 k s x i a) i := rfl
theorem zstp_s (k : Nat → Int) (n : Nat) (s : Int) (x : Nat) : zstp k n s (x + 1) = if zbit s x = true then zstp1 k s x n (zstp k n s x) else zstp k n s x := rfl
theorem zstp1_12 (k : Nat → Int) (s : Int) (x : Nat) {a : Int} (ha : zset12 a) : ∀ {i : Nat}, i ≤ 12 → zset12 (zstp1 k s x i a)
  | 0, _ => ha
  | i + 1, h => by
    rw [zstp1_s]
    split
    · exact zstp1_12 k s x ha (by omega)
    · exact z_on12 (zstp1_12 k s x ha (i := i) (by omega)) (by omega)
theorem zstp_12 (k : Nat → Int) {n : Nat} (hn : n ≤ 12) {s : Int} (hs : zset12 s) : ∀ {x : Nat}, zset12 (zstp k n s x)
  | 0 => hs
  | x + 1 => by
    rw [zstp_s]
    split
    · exact zstp1_12 k s x (zstp_12 k hn hs) hn
    · exact zstp_12 k hn hs
theorem s_oneStepOn (d j : Nat) (s : Int) (hs : zset12 s) (μ : zM) {n : Nat} {B : Nat → Nat} (hH : zHc μ n B) (hL : zLc μ j) (K : Int → zM → Prop) (h : K (zstp (kC μ j B) n s n) μ) : zC1 (d + 4) m_X8_oneStepOn [zR 4 j, zI s] μ K := by
  have hH0 := hH
  obtain ⟨e1, e2, e3, -⟩ := hH
  refine k_X8_oneStepOn (d + 3) j s μ K ?_
  have L : ∀ m x : Nat, x + m = n → zJ (d + 4) m_X8_oneStepOn 4 [some (zR 4 j), some (zI s), some (zI (zstp (kC μ j B) n s x)), some (zI (x : Int)), none, none] μ (zQ1 K) := by
    intro m
    induction m with
    | zero =>
      intro x hx
      refine k_X8_oneStepOn_4 (d + 3) j s _ x μ K ⟨fun _ => ?_, fun q => absurd q (by omega)⟩
      rw [show x = n by omega]
      exact h
    | succ m ih =>
      intro x hx
      refine k_X8_oneStepOn_4 (d + 3) j s _ x μ K ⟨fun q => absurd q (by omega), fun _ => s_isIn _ s (zset12_in hs) x (by omega) μ _ ?_⟩
      have e := ih (x + 1) (by omega)
      rw [zstp_s] at e
      by_cases q : zbit s x = true
      · rw [if_pos q] at e ⊢
        refine ⟨fun _ => s_keyOf d j x μ hH0 (by omega) hL _ ?_, fun z => absurd (show (1 : Int) ≠ 0 by decide) z⟩
        have L2 : ∀ m2 i : Nat, i + m2 = n → zJ (d + 4) m_X8_oneStepOn 36 [some (zR 4 j), some (zI s), some (zI (zstp1 (kC μ j B) s x i (zstp (kC μ j B) n s x))), some (zI (x : Int)), some (zI (kC μ j B x)), some (zI (i : Int))] μ (zQ1 K) := by
          intro m2
          induction m2 with
          | zero =>
            intro i hi
            refine k_X8_oneStepOn_36 (d + 3) j s _ x _ i μ K ⟨fun _ => ?_, fun q => absurd q (by omega)⟩
            rw [show i = n by omega, z_fix (by omega) (by omega)]
            exact e
          | succ m2 ih2 =>
            intro i hi
            refine k_X8_oneStepOn_36 (d + 3) j s _ x _ i μ K ⟨fun q => absurd q (by omega), fun _ => s_keyOf d j i μ hH0 (by omega) hL _ (s_between (d + 2) _ _ (zkey_rg _ _) (zkey_rg _ _) μ _ ?_)⟩
            have e4 := ih2 (i + 1) (by omega)
            rw [zstp1_s] at e4
            rw [z_fix (by omega) (by omega), z_or12 (zstp1_12 _ _ _ (zstp_12 _ (by omega) hs) (by omega)) (by omega)]
            refine ⟨fun q2 => ?_, fun q2 => ?_⟩
            · rw [if_pos q2] at e4; exact e4
            · rw [if_neg q2] at e4; exact e4
        exact L2 n 0 (by omega)
      · rw [if_neg q] at e ⊢
        refine ⟨fun z => absurd rfl z, fun _ => ?_⟩
        rw [z_fix (by omega) (by omega)]
        exact e
  exact L n 0 (by omega)
/-- the MODULATION: m steps are left -/
def zmod (k : Nat → Int) (n t : Nat) : Nat → Int → Int → Int
  | 0, _, _ => -1
  | m + 1, i, s => if zbit s t = true then i else zmod k n t m (i + 1) (zstp k n s n)
theorem zmod_s (k : Nat → Int) (n t m : Nat) (i s : Int) : zmod k n t (m + 1) i s = if zbit s t = true then i else zmod k n t m (i + 1) (zstp k n s n) := rfl
theorem s_stepsBetween (d j r t : Nat) (μ : zM) {n : Nat} {B : Nat → Nat} (hH : zHc μ n B) (hr : r < n) (ht : t < n) (hL : zLc μ j) (K : Int → zM → Prop) (h : K (zmod (kC μ j B) n t 6 0 (2 ^ r)) μ) : zC1 (d + 5) m_X8_stepsBetween [zR 4 j, zI (r : Int), zI (t : Int)] μ K := by
  have hH0 := hH
  obtain ⟨e1, e2, e3, -⟩ := hH
  refine k_X8_stepsBetween (d + 4) j r t μ K ?_
  rw [z_shl1 r (by omega)]
  have h2 : ∀ r : Nat, r < 6 → zset12 ((2 : Int) ^ r) := by
    have : ∀ r : Nat, r < 6 → (0 ≤ (2 : Int) ^ r ∧ (2 : Int) ^ r < 4096) := by decide
    exact this
  have L : ∀ m i : Nat, i + m = 6 → ∀ s, zset12 s → zmod (kC μ j B) n t 6 0 (2 ^ r) = zmod (kC μ j B) n t m i s → zJ (d + 5) m_X8_stepsBetween 7 [some (zR 4 j), none, some (zI (t : Int)), some (zI s), some (zI (i : Int))] μ (zQ1 K) := by
    intro m
    induction m with
    | zero =>
      intro i hi s hs ha
      refine k_X8_stepsBetween_7 (d + 4) j t s i μ K ⟨fun _ => ?_, fun q => absurd q (by omega)⟩
      rw [ha] at h
      exact h
    | succ m ih =>
      intro i hi s hs ha
      refine k_X8_stepsBetween_7 (d + 4) j t s i μ K ⟨fun q => absurd q (by omega), fun _ => s_isIn _ s (zset12_in hs) t (by omega) μ _ ?_⟩
      rw [zmod_s _ _ _ m] at ha
      by_cases q : zbit s t = true
      · rw [if_pos q] at ha ⊢
        refine ⟨fun z => absurd z (by decide), fun _ => ?_⟩
        rw [ha] at h
        exact h
      · rw [if_neg q] at ha ⊢
        refine ⟨fun _ => s_oneStepOn d j s hs μ hH0 hL _ ?_, fun z => absurd rfl z⟩
        rw [z_fix (by omega) (by omega)]
        exact ih (i + 1) (by omega) _ (zstp_12 _ (by omega) hs) ha
  exact L 6 0 (by omega) _ (h2 r (by omega)) rfl
end
section
/-! SPECS: CANONS (class) -/
def zalk (f g : Nat → Int) (n m k : Nat) : Int := zSm (fun b => if f b = g ((b + k) % m) then 1 else 0) n
theorem z01_rg (p : Nat → Prop) [DecidablePred p] (n : Nat) : 0 ≤ zSm (fun b => if p b then (1 : Int) else 0) n ∧ zSm (fun b => if p b then (1 : Int) else 0) n ≤ n := by
  have := zSm_rg (f := fun b => if p b then (1 : Int) else 0) (m := 1) (n := n) (fun b _ => by by_cases q : p b <;> simp [q])
  omega
theorem s_alike (d j r t k : Nat) (hk : k < 100) (μ : zM) {n : Nat} {B : Nat → Nat} (hH : zHc μ n B) (hr : r < n) (ht : t < n) (hL : zLc μ j) (K : Int → zM → Prop) (h : K (zalk (rC μ j r) (rC μ j t) (B r) (B t) k) μ) : zC1 (d + 4) m_X0_alike [zR 4 j, zI (r : Int), zI (t : Int), zI (k : Int)] μ K := by
  have hH0 := hH
  obtain ⟨e1, e2, e3, -⟩ := hH
  obtain ⟨g1, g2, g3⟩ := e3 r hr
  refine k_X0_alike (d + 3) j r t k μ K (s_barsOf (d + 2) 0 r (by omega) μ _ ?_)
  rw [g1]
  have L : ∀ m i : Nat, i + m = B r → zJ (d + 4) m_X0_alike 16 [some (zR 4 j), some (zI (r : Int)), some (zI (t : Int)), some (zI (k : Int)), some (zI (zalk (rC μ j r) (rC μ j t) i (B t) k)), some (zI (B r : Int)), some (zI (i : Int))] μ (zQ1 K) := by
    intro m
    induction m with
    | zero =>
      intro i hi
      refine k_X0_alike_16 (d + 3) j r t k _ (B r) i μ K ⟨fun _ => ?_, fun q => absurd q (by omega)⟩
      rw [show i = B r by omega]
      exact h
    | succ m ih =>
      intro i hi
      refine k_X0_alike_16 (d + 3) j r t k _ (B r) i μ K ⟨fun q => absurd q (by omega), fun _ => s_reads (d + 1) j r i (by omega) (by omega) μ hL _ ?_⟩
      rw [z_fix (by omega) (by omega), show (i : Int) + (k : Int) = ((i + k : Nat) : Int) by omega]
      refine s_readsRound d j t (i + k) μ hH0 ht hL _ ?_
      have e := ih (i + 1) (by omega)
      have hg := z01_rg (fun b => rC μ j r b = rC μ j t ((b + k) % B t)) i
      rw [z_fix (show (-2147483648 : Int) ≤ (i : Int) + 1 by omega) (by omega)]
      unfold zalk at e ⊢
      rw [zSm_s] at e
      refine ⟨fun q => ?_, fun q => ?_⟩
      · rw [if_neg q, Int.add_zero] at e; exact e
      · rw [if_pos (by omega)] at e
        rw [z_fix (by omega) (by omega)]
        exact e
  exact L (B r) 0 (by omega)
/-- the best of n: state (which, how much) -/
def zbst (c : Nat → Int) : Nat → Int × Int
  | 0 => (0, -1)
  | i + 1 => if c i ≤ (zbst c i).2 then zbst c i else ((i : Int), c i)
theorem zbst_s (c : Nat → Int) (i : Nat) : zbst c (i + 1) = if c i ≤ (zbst c i).2 then zbst c i else ((i : Int), c i) := rfl
theorem s_bestShift (d j r t : Nat) (μ : zM) {n : Nat} {B : Nat → Nat} (hH : zHc μ n B) (hr : r < n) (ht : t < n) (hL : zLc μ j) (K : Int → zM → Prop) (h : K (zbst (zalk (rC μ j r) (rC μ j t) (B r) (B t)) (B t)).1 μ) : zC1 (d + 5) m_X0_bestShift [zR 4 j, zI (r : Int), zI (t : Int)] μ K := by
  have hH0 := hH
  obtain ⟨e1, e2, e3, -⟩ := hH
  obtain ⟨g1, g2, g3⟩ := e3 t ht
  refine k_X0_bestShift (d + 4) j r t μ K (s_barsOf (d + 3) 0 t (by omega) μ _ ?_)
  rw [g1]
  have L : ∀ m i : Nat, i + m = B t → zJ (d + 5) m_X0_bestShift 18 [some (zR 4 j), some (zI (r : Int)), some (zI (t : Int)), some (zI (zbst (zalk (rC μ j r) (rC μ j t) (B r) (B t)) i).1), some (zI (zbst (zalk (rC μ j r) (rC μ j t) (B r) (B t)) i).2), some (zI (B t : Int)), some (zI (i : Int)), none] μ (zQ1 K) := by
    intro m
    induction m with
    | zero =>
      intro i hi
      refine k_X0_bestShift_18 (d + 4) j r t _ _ (B t) i μ K ⟨fun _ => ?_, fun q => absurd q (by omega)⟩
      rw [show i = B t by omega]
      exact h
    | succ m ih =>
      intro i hi
      refine k_X0_bestShift_18 (d + 4) j r t _ _ (B t) i μ K ⟨fun q => absurd q (by omega), fun _ => s_alike d j r t i (by omega) μ hH0 hr ht hL _ ?_⟩
      have e := ih (i + 1) (by omega)
      rw [z_fix (by omega) (by omega)]
      rw [zbst_s] at e
      refine ⟨fun q => ?_, fun q => ?_⟩
      · rw [if_pos q] at e; exact e
      · rw [if_neg q] at e; exact e
  exact L (B t) 0 (by omega)
/-- the other sheet of a BAR -/
def oC (μ : zM) (j r b : Nat) : Int := if zbit (μ 15 j r) b = true then μ 11 0 (12 * r + b) else μ 12 0 (12 * r + b)
/-- MATCH: what must be turned, or NONE -/
def zmt (f o g : Nat → Int) (n m k : Nat) : Int := if zal2 (fun b => decide (f b = g ((b + k) % m) ∨ o b = g ((b + k) % m))) n = true then zbm (fun b => decide (f b ≠ g ((b + k) % m))) n else -1
theorem s_barsToTurn (d j r t k : Nat) (hk : k < 100) (μ : zM) {n : Nat} {B : Nat → Nat} (hH : zHc μ n B) (hr : r < n) (ht : t < n) (hL : zLc μ j) (K : Int → zM → Prop) (h : K (zmt (rC μ j r) (oC μ j r) (rC μ j t) (B r) (B t) k) μ) : zC1 (d + 4) m_X0_barsToTurn [zR 4 j, zI (r : Int), zI (t : Int), zI (k : Int)] μ K := by
  have hH0 := hH
  obtain ⟨e1, e2, e3, -⟩ := hH
  obtain ⟨g1, g2, g3⟩ := e3 r hr
  refine k_X0_barsToTurn (d + 3) j r t k μ K (s_barsOf (d + 2) 0 r (by omega) μ _ ?_)
  rw [g1]
  have L : ∀ m i : Nat, i + m = B r → zal2 (fun b => decide (rC μ j r b = rC μ j t ((b + k) % B t) ∨ oC μ j r b = rC μ j t ((b + k) % B t))) i = true → zJ (d + 4) m_X0_barsToTurn 16 [some (zR 4 j), some (zI (r : Int)), some (zI (t : Int)), some (zI (k : Int)), some (zI (zbm (fun b => decide (rC μ j r b ≠ rC μ j t ((b + k) % B t))) i)), some (zI (B r : Int)), some (zI (i : Int)), none, none] μ (zQ1 K) := by
    intro m
    induction m with
    | zero =>
      intro i hi ha
      refine k_X0_barsToTurn_16 (d + 3) j r t k _ (B r) i μ K ⟨fun _ => ?_, fun q => absurd q (by omega)⟩
      rw [show i = B r by omega] at ha ⊢
      unfold zmt at h
      rw [if_pos ha] at h
      exact h
    | succ m ih =>
      intro i hi ha
      refine k_X0_barsToTurn_16 (d + 3) j r t k _ (B r) i μ K ⟨fun q => absurd q (by omega), fun _ => ?_⟩
      rw [z_fix (by omega) (by omega), show (i : Int) + (k : Int) = ((i + k : Nat) : Int) by omega]
      refine s_readsRound d j t (i + k) μ hH0 ht hL _ (s_reads (d + 1) j r i (by omega) (by omega) μ hL _ ?_)
      have e := ih (i + 1) (by omega)
      rw [zal2_s, ha, zbm_s] at e
      have bad : ¬ rC μ j r i = rC μ j t ((i + k) % B t) → ¬ oC μ j r i = rC μ j t ((i + k) % B t) → K (-1) μ := by
        intro q1 q2
        have := zal2_no (g := fun b => decide (rC μ j r b = rC μ j t ((b + k) % B t) ∨ oC μ j r b = rC μ j t ((b + k) % B t))) (i := i) (by simp [q1, q2]) (n := B r) (by omega)
        unfold zmt at h
        rw [if_neg (by rw [this]; decide)] at h
        exact h
      rw [z_fix (show (-2147483648 : Int) ≤ (i : Int) + 1 by omega) (by omega), z_or12 (zbm_12 _ (by omega)) (by omega)]
      refine ⟨fun q => s_isLifted (d + 2) j r i (by omega) (by omega) μ hL _ ?_, fun q => ?_⟩
      · have good : oC μ j r i = rC μ j t ((i + k) % B t) → zJ (d + 4) m_X0_barsToTurn 16 [some (zR 4 j), some (zI (r : Int)), some (zI (t : Int)), some (zI (k : Int)), some (zI (zon (zbm (fun b => decide (rC μ j r b ≠ rC μ j t ((b + k) % B t))) i) i)), some (zI (B r : Int)), some (zI ((i : Int) + 1)), none, none] μ (zQ1 K) := by
          intro q2
          have e5 := e (by simp [q2])
          rw [if_pos (by simpa using q)] at e5
          exact e5
        by_cases z : zbit (μ 15 j r) i = true
        · rw [if_pos z]
          have eo : oC μ j r i = μ 11 0 (12 * r + i) := by unfold oC; rw [if_pos z]
          refine ⟨fun q2 => absurd q2 (by decide), fun _ => s_paperOf (d + 2) 0 r i (by omega) (by omega) μ _ ?_⟩
          rw [← eo]
          exact ⟨good, bad q⟩
        · rw [if_neg z]
          have eo : oC μ j r i = μ 12 0 (12 * r + i) := by unfold oC; rw [if_neg z]
          refine ⟨fun _ => s_underOf (d + 2) 0 r i (by omega) (by omega) μ _ ?_, fun q2 => absurd rfl q2⟩
          rw [← eo]
          exact ⟨good, bad q⟩
      · have q2 : rC μ j r i = rC μ j t ((i + k) % B t) := by omega
        have e5 := e (by simp [q2])
        rw [if_neg (by simp [q2])] at e5
        exact e5
  exact L (B r) 0 (by omega) rfl
end
