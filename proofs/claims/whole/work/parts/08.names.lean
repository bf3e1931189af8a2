-- ===== PART A: goes FIRST, ahead of the names: the tables' words, and 'selects' of the private methods out of them =====
/-- a private method of a class that the tables say can be made, by its rows of tables_1 -/
def lw_okq (q : MethodName × Nat) : Prop := (q.1.cls ≠ "java/lang/invoke/MethodHandle" ∧ q.1.cls ≠ "java/lang/invoke/VarHandle") ∧ Cond.instantiable q.1.cls q.2 ∈ tables_1 ∧ Cond.privateMethod q.1 ∈ tables_1 ∧ Cond.instanceMethod q.1 ∈ tables_1
theorem lw_p0 : lw_okq (⟨"CommandByTurns$Formula", "readSign", "(CZ)Z"⟩, 4) := ⟨⟨by decide +kernel, by decide +kernel⟩, List.mem_of_getElem? (i := 68) (by decide +kernel), List.mem_of_getElem? (i := 133) (by decide +kernel), List.mem_of_getElem? (i := 134) (by decide +kernel)⟩
theorem lw_p1 : lw_okq (⟨"CommandByTurns$Formula", "readDigit", "(IZ)V"⟩, 4) := ⟨⟨by decide +kernel, by decide +kernel⟩, List.mem_of_getElem? (i := 68) (by decide +kernel), List.mem_of_getElem? (i := 140) (by decide +kernel), List.mem_of_getElem? (i := 141) (by decide +kernel)⟩
theorem lw_p2 : lw_okq (⟨"CommandByTurns$Formula", "write", "(I)V"⟩, 4) := ⟨⟨by decide +kernel, by decide +kernel⟩, List.mem_of_getElem? (i := 68) (by decide +kernel), List.mem_of_getElem? (i := 144) (by decide +kernel), List.mem_of_getElem? (i := 145) (by decide +kernel)⟩
theorem lw_p3 : lw_okq (⟨"CommandByTurns$Formula", "writeWaiting", "(I)V"⟩, 4) := ⟨⟨by decide +kernel, by decide +kernel⟩, List.mem_of_getElem? (i := 68) (by decide +kernel), List.mem_of_getElem? (i := 208) (by decide +kernel), List.mem_of_getElem? (i := 209) (by decide +kernel)⟩
theorem lw_p4 : lw_okq (⟨"CommandByTurns$Formula", "take", "()I"⟩, 4) := ⟨⟨by decide +kernel, by decide +kernel⟩, List.mem_of_getElem? (i := 68) (by decide +kernel), List.mem_of_getElem? (i := 215) (by decide +kernel), List.mem_of_getElem? (i := 216) (by decide +kernel)⟩
theorem lw_p5 : lw_okq (⟨"CommandByTurns$Formula", "push", "(I)V"⟩, 4) := ⟨⟨by decide +kernel, by decide +kernel⟩, List.mem_of_getElem? (i := 68) (by decide +kernel), List.mem_of_getElem? (i := 219) (by decide +kernel), List.mem_of_getElem? (i := 220) (by decide +kernel)⟩
theorem lw_p6 : lw_okq (⟨"CommandByTurns", "leader", "(I)LCommandByTurns$Leader;"⟩, 17) := ⟨⟨by decide +kernel, by decide +kernel⟩, List.mem_of_getElem? (i := 24) (by decide +kernel), List.mem_of_getElem? (i := 485) (by decide +kernel), List.mem_of_getElem? (i := 486) (by decide +kernel)⟩
theorem lw_p7 : lw_okq (⟨"CommandByTurns$Standing", "isLent", "(I)Z"⟩, 10) := ⟨⟨by decide +kernel, by decide +kernel⟩, List.mem_of_getElem? (i := 261) (by decide +kernel), List.mem_of_getElem? (i := 530) (by decide +kernel), List.mem_of_getElem? (i := 531) (by decide +kernel)⟩
theorem lw_p8 : lw_okq (⟨"CommandByTurns", "marchBy", "(I)I"⟩, 17) := ⟨⟨by decide +kernel, by decide +kernel⟩, List.mem_of_getElem? (i := 24) (by decide +kernel), List.mem_of_getElem? (i := 546) (by decide +kernel), List.mem_of_getElem? (i := 547) (by decide +kernel)⟩
theorem lw_p9 : lw_okq (⟨"CommandByTurns", "remembered", "(I)I"⟩, 17) := ⟨⟨by decide +kernel, by decide +kernel⟩, List.mem_of_getElem? (i := 24) (by decide +kernel), List.mem_of_getElem? (i := 589) (by decide +kernel), List.mem_of_getElem? (i := 590) (by decide +kernel)⟩
theorem lw_p10 : lw_okq (⟨"CommandByTurns", "stay", "()I"⟩, 17) := ⟨⟨by decide +kernel, by decide +kernel⟩, List.mem_of_getElem? (i := 24) (by decide +kernel), List.mem_of_getElem? (i := 603) (by decide +kernel), List.mem_of_getElem? (i := 604) (by decide +kernel)⟩
theorem lw_p11 : lw_okq (⟨"CommandByTurns", "doBattle", "()I"⟩, 17) := ⟨⟨by decide +kernel, by decide +kernel⟩, List.mem_of_getElem? (i := 24) (by decide +kernel), List.mem_of_getElem? (i := 615) (by decide +kernel), List.mem_of_getElem? (i := 616) (by decide +kernel)⟩
theorem lw_p12 : lw_okq (⟨"CommandByTurns", "issueFrom", "(LCommandByTurns$Standing;III)I"⟩, 17) := ⟨⟨by decide +kernel, by decide +kernel⟩, List.mem_of_getElem? (i := 24) (by decide +kernel), List.mem_of_getElem? (i := 622) (by decide +kernel), List.mem_of_getElem? (i := 623) (by decide +kernel)⟩
theorem lw_p13 : lw_okq (⟨"CommandByTurns", "gap", "(II)I"⟩, 17) := ⟨⟨by decide +kernel, by decide +kernel⟩, List.mem_of_getElem? (i := 24) (by decide +kernel), List.mem_of_getElem? (i := 631) (by decide +kernel), List.mem_of_getElem? (i := 632) (by decide +kernel)⟩
theorem lw_p14 : lw_okq (⟨"CommandByTurns", "issueOf", "(LCommandByTurns$Leader;IIIIII)I"⟩, 17) := ⟨⟨by decide +kernel, by decide +kernel⟩, List.mem_of_getElem? (i := 24) (by decide +kernel), List.mem_of_getElem? (i := 639) (by decide +kernel), List.mem_of_getElem? (i := 640) (by decide +kernel)⟩
theorem lw_p15 : lw_okq (⟨"CommandByTurns", "moveFoe", "(I)I"⟩, 17) := ⟨⟨by decide +kernel, by decide +kernel⟩, List.mem_of_getElem? (i := 24) (by decide +kernel), List.mem_of_getElem? (i := 663) (by decide +kernel), List.mem_of_getElem? (i := 664) (by decide +kernel)⟩
def lw_privs_1 : List (MethodName × Nat) := [(⟨"CommandByTurns$Formula", "readSign", "(CZ)Z"⟩, 4), (⟨"CommandByTurns$Formula", "readDigit", "(IZ)V"⟩, 4), (⟨"CommandByTurns$Formula", "write", "(I)V"⟩, 4), (⟨"CommandByTurns$Formula", "writeWaiting", "(I)V"⟩, 4), (⟨"CommandByTurns$Formula", "take", "()I"⟩, 4), (⟨"CommandByTurns$Formula", "push", "(I)V"⟩, 4), (⟨"CommandByTurns", "leader", "(I)LCommandByTurns$Leader;"⟩, 17), (⟨"CommandByTurns$Standing", "isLent", "(I)Z"⟩, 10), (⟨"CommandByTurns", "marchBy", "(I)I"⟩, 17), (⟨"CommandByTurns", "remembered", "(I)I"⟩, 17), (⟨"CommandByTurns", "stay", "()I"⟩, 17), (⟨"CommandByTurns", "doBattle", "()I"⟩, 17), (⟨"CommandByTurns", "issueFrom", "(LCommandByTurns$Standing;III)I"⟩, 17), (⟨"CommandByTurns", "gap", "(II)I"⟩, 17), (⟨"CommandByTurns", "issueOf", "(LCommandByTurns$Leader;IIIIII)I"⟩, 17), (⟨"CommandByTurns", "moveFoe", "(I)I"⟩, 17)]
theorem lw_r1 : ∀ q ∈ lw_privs_1, lw_okq q := List.forall_mem_cons.mpr ⟨lw_p0, List.forall_mem_cons.mpr ⟨lw_p1, List.forall_mem_cons.mpr ⟨lw_p2, List.forall_mem_cons.mpr ⟨lw_p3, List.forall_mem_cons.mpr ⟨lw_p4, List.forall_mem_cons.mpr ⟨lw_p5, List.forall_mem_cons.mpr ⟨lw_p6, List.forall_mem_cons.mpr ⟨lw_p7, List.forall_mem_cons.mpr ⟨lw_p8, List.forall_mem_cons.mpr ⟨lw_p9, List.forall_mem_cons.mpr ⟨lw_p10, List.forall_mem_cons.mpr ⟨lw_p11, List.forall_mem_cons.mpr ⟨lw_p12, List.forall_mem_cons.mpr ⟨lw_p13, List.forall_mem_cons.mpr ⟨lw_p14, List.forall_mem_cons.mpr ⟨lw_p15, fun _ h => absurd h List.not_mem_nil⟩⟩⟩⟩⟩⟩⟩⟩⟩⟩⟩⟩⟩⟩⟩⟩
theorem lw_p16 : lw_okq (⟨"CommandByTurns", "turnDay", "(I)I"⟩, 17) := ⟨⟨by decide +kernel, by decide +kernel⟩, List.mem_of_getElem? (i := 24) (by decide +kernel), List.mem_of_getElem? (i := 680) (by decide +kernel), List.mem_of_getElem? (i := 681) (by decide +kernel)⟩
theorem lw_p17 : lw_okq (⟨"CommandByTurns", "warMisreadAt", "()I"⟩, 17) := ⟨⟨by decide +kernel, by decide +kernel⟩, List.mem_of_getElem? (i := 24) (by decide +kernel), List.mem_of_getElem? (i := 704) (by decide +kernel), List.mem_of_getElem? (i := 705) (by decide +kernel)⟩
theorem lw_p18 : lw_okq (⟨"CommandByTurns", "act", "(CC)I"⟩, 17) := ⟨⟨by decide +kernel, by decide +kernel⟩, List.mem_of_getElem? (i := 24) (by decide +kernel), List.mem_of_getElem? (i := 713) (by decide +kernel), List.mem_of_getElem? (i := 714) (by decide +kernel)⟩
theorem lw_p19 : lw_okq (⟨"CommandByTurns", "goals", "(II)I"⟩, 17) := ⟨⟨by decide +kernel, by decide +kernel⟩, List.mem_of_getElem? (i := 24) (by decide +kernel), List.mem_of_getElem? (i := 738) (by decide +kernel), List.mem_of_getElem? (i := 739) (by decide +kernel)⟩
theorem lw_p20 : lw_okq (⟨"CommandByTurns", "tomorrowFrom", "(I)I"⟩, 17) := ⟨⟨by decide +kernel, by decide +kernel⟩, List.mem_of_getElem? (i := 24) (by decide +kernel), List.mem_of_getElem? (i := 752) (by decide +kernel), List.mem_of_getElem? (i := 753) (by decide +kernel)⟩
theorem lw_p21 : lw_okq (⟨"CommandByTurns", "prepareWalk", "()V"⟩, 17) := ⟨⟨by decide +kernel, by decide +kernel⟩, List.mem_of_getElem? (i := 24) (by decide +kernel), List.mem_of_getElem? (i := 773) (by decide +kernel), List.mem_of_getElem? (i := 774) (by decide +kernel)⟩
theorem lw_p22 : lw_okq (⟨"CommandByTurns$Walk", "movesFromAny", "(II)I"⟩, 6) := ⟨⟨by decide +kernel, by decide +kernel⟩, List.mem_of_getElem? (i := 340) (by decide +kernel), List.mem_of_getElem? (i := 781) (by decide +kernel), List.mem_of_getElem? (i := 782) (by decide +kernel)⟩
theorem lw_p23 : lw_okq (⟨"CommandByTurns$Walk", "movesFrom", "(II)I"⟩, 6) := ⟨⟨by decide +kernel, by decide +kernel⟩, List.mem_of_getElem? (i := 340) (by decide +kernel), List.mem_of_getElem? (i := 785) (by decide +kernel), List.mem_of_getElem? (i := 786) (by decide +kernel)⟩
theorem lw_p24 : lw_okq (⟨"CommandByTurns$Walk", "sourcesOf", "(II)I"⟩, 6) := ⟨⟨by decide +kernel, by decide +kernel⟩, List.mem_of_getElem? (i := 340) (by decide +kernel), List.mem_of_getElem? (i := 794) (by decide +kernel), List.mem_of_getElem? (i := 795) (by decide +kernel)⟩
theorem lw_p25 : lw_okq (⟨"CommandByTurns", "tellLeastWay", "(I)V"⟩, 17) := ⟨⟨by decide +kernel, by decide +kernel⟩, List.mem_of_getElem? (i := 24) (by decide +kernel), List.mem_of_getElem? (i := 798) (by decide +kernel), List.mem_of_getElem? (i := 799) (by decide +kernel)⟩
theorem lw_p26 : lw_okq (⟨"CommandByTurns", "prepareGame", "()V"⟩, 17) := ⟨⟨by decide +kernel, by decide +kernel⟩, List.mem_of_getElem? (i := 24) (by decide +kernel), List.mem_of_getElem? (i := 815) (by decide +kernel), List.mem_of_getElem? (i := 816) (by decide +kernel)⟩
theorem lw_p27 : lw_okq (⟨"CommandByTurns$Walk", "give", "(IIII)V"⟩, 6) := ⟨⟨by decide +kernel, by decide +kernel⟩, List.mem_of_getElem? (i := 340) (by decide +kernel), List.mem_of_getElem? (i := 844) (by decide +kernel), List.mem_of_getElem? (i := 845) (by decide +kernel)⟩
theorem lw_p28 : lw_okq (⟨"CommandByTurns", "bestToGive", "(II)I"⟩, 17) := ⟨⟨by decide +kernel, by decide +kernel⟩, List.mem_of_getElem? (i := 24) (by decide +kernel), List.mem_of_getElem? (i := 865) (by decide +kernel), List.mem_of_getElem? (i := 866) (by decide +kernel)⟩
theorem lw_p29 : lw_okq (⟨"CommandByTurns", "gainByGiving", "(I)I"⟩, 17) := ⟨⟨by decide +kernel, by decide +kernel⟩, List.mem_of_getElem? (i := 24) (by decide +kernel), List.mem_of_getElem? (i := 869) (by decide +kernel), List.mem_of_getElem? (i := 870) (by decide +kernel)⟩
theorem lw_p30 : lw_okq (⟨"CommandByTurns", "sumByTurns", "(III)I"⟩, 17) := ⟨⟨by decide +kernel, by decide +kernel⟩, List.mem_of_getElem? (i := 24) (by decide +kernel), List.mem_of_getElem? (i := 877) (by decide +kernel), List.mem_of_getElem? (i := 878) (by decide +kernel)⟩
theorem lw_p31 : lw_okq (⟨"CommandByTurns", "waysThatFit", "(II)I"⟩, 17) := ⟨⟨by decide +kernel, by decide +kernel⟩, List.mem_of_getElem? (i := 24) (by decide +kernel), List.mem_of_getElem? (i := 905) (by decide +kernel), List.mem_of_getElem? (i := 906) (by decide +kernel)⟩
def lw_privs_2 : List (MethodName × Nat) := [(⟨"CommandByTurns", "turnDay", "(I)I"⟩, 17), (⟨"CommandByTurns", "warMisreadAt", "()I"⟩, 17), (⟨"CommandByTurns", "act", "(CC)I"⟩, 17), (⟨"CommandByTurns", "goals", "(II)I"⟩, 17), (⟨"CommandByTurns", "tomorrowFrom", "(I)I"⟩, 17), (⟨"CommandByTurns", "prepareWalk", "()V"⟩, 17), (⟨"CommandByTurns$Walk", "movesFromAny", "(II)I"⟩, 6), (⟨"CommandByTurns$Walk", "movesFrom", "(II)I"⟩, 6), (⟨"CommandByTurns$Walk", "sourcesOf", "(II)I"⟩, 6), (⟨"CommandByTurns", "tellLeastWay", "(I)V"⟩, 17), (⟨"CommandByTurns", "prepareGame", "()V"⟩, 17), (⟨"CommandByTurns$Walk", "give", "(IIII)V"⟩, 6), (⟨"CommandByTurns", "bestToGive", "(II)I"⟩, 17), (⟨"CommandByTurns", "gainByGiving", "(I)I"⟩, 17), (⟨"CommandByTurns", "sumByTurns", "(III)I"⟩, 17), (⟨"CommandByTurns", "waysThatFit", "(II)I"⟩, 17)]
theorem lw_r2 : ∀ q ∈ lw_privs_2, lw_okq q := List.forall_mem_cons.mpr ⟨lw_p16, List.forall_mem_cons.mpr ⟨lw_p17, List.forall_mem_cons.mpr ⟨lw_p18, List.forall_mem_cons.mpr ⟨lw_p19, List.forall_mem_cons.mpr ⟨lw_p20, List.forall_mem_cons.mpr ⟨lw_p21, List.forall_mem_cons.mpr ⟨lw_p22, List.forall_mem_cons.mpr ⟨lw_p23, List.forall_mem_cons.mpr ⟨lw_p24, List.forall_mem_cons.mpr ⟨lw_p25, List.forall_mem_cons.mpr ⟨lw_p26, List.forall_mem_cons.mpr ⟨lw_p27, List.forall_mem_cons.mpr ⟨lw_p28, List.forall_mem_cons.mpr ⟨lw_p29, List.forall_mem_cons.mpr ⟨lw_p30, List.forall_mem_cons.mpr ⟨lw_p31, fun _ h => absurd h List.not_mem_nil⟩⟩⟩⟩⟩⟩⟩⟩⟩⟩⟩⟩⟩⟩⟩⟩
theorem lw_p32 : lw_okq (⟨"CommandByTurns$OldWar", "waysAhead", "(IIII)I"⟩, 4) := ⟨⟨by decide +kernel, by decide +kernel⟩, List.mem_of_getElem? (i := 370) (by decide +kernel), List.mem_of_getElem? (i := 917) (by decide +kernel), List.mem_of_getElem? (i := 918) (by decide +kernel)⟩
theorem lw_p33 : lw_okq (⟨"CommandByTurns$OldWar", "waysUpTo", "(III)I"⟩, 4) := ⟨⟨by decide +kernel, by decide +kernel⟩, List.mem_of_getElem? (i := 370) (by decide +kernel), List.mem_of_getElem? (i := 921) (by decide +kernel), List.mem_of_getElem? (i := 922) (by decide +kernel)⟩
theorem lw_p34 : lw_okq (⟨"CommandByTurns", "liveDay", "(II)I"⟩, 17) := ⟨⟨by decide +kernel, by decide +kernel⟩, List.mem_of_getElem? (i := 24) (by decide +kernel), List.mem_of_getElem? (i := 975) (by decide +kernel), List.mem_of_getElem? (i := 976) (by decide +kernel)⟩
theorem lw_p35 : lw_okq (⟨"java/lang/Throwable", "fillInStackTrace", "(I)Ljava/lang/Throwable;"⟩, 6) := ⟨⟨by decide +kernel, by decide +kernel⟩, List.mem_of_getElem? (i := 1035) (by decide +kernel), List.mem_of_getElem? (i := 1033) (by decide +kernel), List.mem_of_getElem? (i := 1034) (by decide +kernel)⟩
theorem lw_p36 : lw_okq (⟨"CommandByTurnsModel", "beginText", "(I)V"⟩, 40) := ⟨⟨by decide +kernel, by decide +kernel⟩, List.mem_of_getElem? (i := 1083) (by decide +kernel), List.mem_of_getElem? (i := 1230) (by decide +kernel), List.mem_of_getElem? (i := 1231) (by decide +kernel)⟩
theorem lw_p37 : lw_okq (⟨"CommandByTurnsModel", "begin", "([BII)V"⟩, 40) := ⟨⟨by decide +kernel, by decide +kernel⟩, List.mem_of_getElem? (i := 1083) (by decide +kernel), List.mem_of_getElem? (i := 1234) (by decide +kernel), List.mem_of_getElem? (i := 1235) (by decide +kernel)⟩
theorem lw_p38 : lw_okq (⟨"CommandByTurnsModel", "fine", "()Z"⟩, 40) := ⟨⟨by decide +kernel, by decide +kernel⟩, List.mem_of_getElem? (i := 1083) (by decide +kernel), List.mem_of_getElem? (i := 1238) (by decide +kernel), List.mem_of_getElem? (i := 1239) (by decide +kernel)⟩
theorem lw_p39 : lw_okq (⟨"CommandByTurnsModel", "fault", "(I)V"⟩, 40) := ⟨⟨by decide +kernel, by decide +kernel⟩, List.mem_of_getElem? (i := 1083) (by decide +kernel), List.mem_of_getElem? (i := 1242) (by decide +kernel), List.mem_of_getElem? (i := 1243) (by decide +kernel)⟩
theorem lw_p40 : lw_okq (⟨"CommandByTurnsModel", "oneOf", "(CI)I"⟩, 40) := ⟨⟨by decide +kernel, by decide +kernel⟩, List.mem_of_getElem? (i := 1083) (by decide +kernel), List.mem_of_getElem? (i := 1246) (by decide +kernel), List.mem_of_getElem? (i := 1247) (by decide +kernel)⟩
theorem lw_p41 : lw_okq (⟨"CommandByTurnsModel", "here", "()I"⟩, 40) := ⟨⟨by decide +kernel, by decide +kernel⟩, List.mem_of_getElem? (i := 1083) (by decide +kernel), List.mem_of_getElem? (i := 1250) (by decide +kernel), List.mem_of_getElem? (i := 1251) (by decide +kernel)⟩
theorem lw_p42 : lw_okq (⟨"CommandByTurnsModel", "passes", "(C)Z"⟩, 40) := ⟨⟨by decide +kernel, by decide +kernel⟩, List.mem_of_getElem? (i := 1083) (by decide +kernel), List.mem_of_getElem? (i := 1254) (by decide +kernel), List.mem_of_getElem? (i := 1255) (by decide +kernel)⟩
theorem lw_p43 : lw_okq (⟨"CommandByTurnsModel", "wasRight", "()Z"⟩, 40) := ⟨⟨by decide +kernel, by decide +kernel⟩, List.mem_of_getElem? (i := 1083) (by decide +kernel), List.mem_of_getElem? (i := 1258) (by decide +kernel), List.mem_of_getElem? (i := 1259) (by decide +kernel)⟩
theorem lw_p44 : lw_okq (⟨"CommandByTurnsModel", "held", "(I)I"⟩, 40) := ⟨⟨by decide +kernel, by decide +kernel⟩, List.mem_of_getElem? (i := 1083) (by decide +kernel), List.mem_of_getElem? (i := 1273) (by decide +kernel), List.mem_of_getElem? (i := 1274) (by decide +kernel)⟩
theorem lw_p45 : lw_okq (⟨"CommandByTurnsModel", "sum", "(I)I"⟩, 40) := ⟨⟨by decide +kernel, by decide +kernel⟩, List.mem_of_getElem? (i := 1083) (by decide +kernel), List.mem_of_getElem? (i := 1277) (by decide +kernel), List.mem_of_getElem? (i := 1278) (by decide +kernel)⟩
theorem lw_p46 : lw_okq (⟨"CommandByTurnsModel", "product", "(I)I"⟩, 40) := ⟨⟨by decide +kernel, by decide +kernel⟩, List.mem_of_getElem? (i := 1083) (by decide +kernel), List.mem_of_getElem? (i := 1281) (by decide +kernel), List.mem_of_getElem? (i := 1282) (by decide +kernel)⟩
theorem lw_p47 : lw_okq (⟨"CommandByTurnsModel", "thing", "(I)I"⟩, 40) := ⟨⟨by decide +kernel, by decide +kernel⟩, List.mem_of_getElem? (i := 1083) (by decide +kernel), List.mem_of_getElem? (i := 1285) (by decide +kernel), List.mem_of_getElem? (i := 1286) (by decide +kernel)⟩
def lw_privs_3 : List (MethodName × Nat) := [(⟨"CommandByTurns$OldWar", "waysAhead", "(IIII)I"⟩, 4), (⟨"CommandByTurns$OldWar", "waysUpTo", "(III)I"⟩, 4), (⟨"CommandByTurns", "liveDay", "(II)I"⟩, 17), (⟨"java/lang/Throwable", "fillInStackTrace", "(I)Ljava/lang/Throwable;"⟩, 6), (⟨"CommandByTurnsModel", "beginText", "(I)V"⟩, 40), (⟨"CommandByTurnsModel", "begin", "([BII)V"⟩, 40), (⟨"CommandByTurnsModel", "fine", "()Z"⟩, 40), (⟨"CommandByTurnsModel", "fault", "(I)V"⟩, 40), (⟨"CommandByTurnsModel", "oneOf", "(CI)I"⟩, 40), (⟨"CommandByTurnsModel", "here", "()I"⟩, 40), (⟨"CommandByTurnsModel", "passes", "(C)Z"⟩, 40), (⟨"CommandByTurnsModel", "wasRight", "()Z"⟩, 40), (⟨"CommandByTurnsModel", "held", "(I)I"⟩, 40), (⟨"CommandByTurnsModel", "sum", "(I)I"⟩, 40), (⟨"CommandByTurnsModel", "product", "(I)I"⟩, 40), (⟨"CommandByTurnsModel", "thing", "(I)I"⟩, 40)]
theorem lw_r3 : ∀ q ∈ lw_privs_3, lw_okq q := List.forall_mem_cons.mpr ⟨lw_p32, List.forall_mem_cons.mpr ⟨lw_p33, List.forall_mem_cons.mpr ⟨lw_p34, List.forall_mem_cons.mpr ⟨lw_p35, List.forall_mem_cons.mpr ⟨lw_p36, List.forall_mem_cons.mpr ⟨lw_p37, List.forall_mem_cons.mpr ⟨lw_p38, List.forall_mem_cons.mpr ⟨lw_p39, List.forall_mem_cons.mpr ⟨lw_p40, List.forall_mem_cons.mpr ⟨lw_p41, List.forall_mem_cons.mpr ⟨lw_p42, List.forall_mem_cons.mpr ⟨lw_p43, List.forall_mem_cons.mpr ⟨lw_p44, List.forall_mem_cons.mpr ⟨lw_p45, List.forall_mem_cons.mpr ⟨lw_p46, List.forall_mem_cons.mpr ⟨lw_p47, fun _ h => absurd h List.not_mem_nil⟩⟩⟩⟩⟩⟩⟩⟩⟩⟩⟩⟩⟩⟩⟩⟩
theorem lw_p48 : lw_okq (⟨"CommandByTurnsModel", "need", "(C)V"⟩, 40) := ⟨⟨by decide +kernel, by decide +kernel⟩, List.mem_of_getElem? (i := 1083) (by decide +kernel), List.mem_of_getElem? (i := 1289) (by decide +kernel), List.mem_of_getElem? (i := 1290) (by decide +kernel)⟩
theorem lw_p49 : lw_okq (⟨"CommandByTurnsModel", "number", "(I)I"⟩, 40) := ⟨⟨by decide +kernel, by decide +kernel⟩, List.mem_of_getElem? (i := 1083) (by decide +kernel), List.mem_of_getElem? (i := 1293) (by decide +kernel), List.mem_of_getElem? (i := 1294) (by decide +kernel)⟩
theorem lw_p50 : lw_okq (⟨"CommandByTurnsModel", "isField", "(I)Z"⟩, 40) := ⟨⟨by decide +kernel, by decide +kernel⟩, List.mem_of_getElem? (i := 1083) (by decide +kernel), List.mem_of_getElem? (i := 1304) (by decide +kernel), List.mem_of_getElem? (i := 1305) (by decide +kernel)⟩
theorem lw_p51 : lw_okq (⟨"CommandByTurnsModel", "lost", "()I"⟩, 40) := ⟨⟨by decide +kernel, by decide +kernel⟩, List.mem_of_getElem? (i := 1083) (by decide +kernel), List.mem_of_getElem? (i := 1308) (by decide +kernel), List.mem_of_getElem? (i := 1309) (by decide +kernel)⟩
theorem lw_p52 : lw_okq (⟨"CommandByTurnsModel", "reachOf", "(I)I"⟩, 40) := ⟨⟨by decide +kernel, by decide +kernel⟩, List.mem_of_getElem? (i := 1083) (by decide +kernel), List.mem_of_getElem? (i := 1316) (by decide +kernel), List.mem_of_getElem? (i := 1317) (by decide +kernel)⟩
theorem lw_p53 : lw_okq (⟨"CommandByTurnsModel", "wishOf", "(II)I"⟩, 40) := ⟨⟨by decide +kernel, by decide +kernel⟩, List.mem_of_getElem? (i := 1083) (by decide +kernel), List.mem_of_getElem? (i := 1320) (by decide +kernel), List.mem_of_getElem? (i := 1321) (by decide +kernel)⟩
theorem lw_p54 : lw_okq (⟨"CommandByTurnsModel", "refusesMarch", "(I)I"⟩, 40) := ⟨⟨by decide +kernel, by decide +kernel⟩, List.mem_of_getElem? (i := 1083) (by decide +kernel), List.mem_of_getElem? (i := 1348) (by decide +kernel), List.mem_of_getElem? (i := 1349) (by decide +kernel)⟩
theorem lw_p55 : lw_okq (⟨"CommandByTurnsModel", "costOf", "(II)I"⟩, 40) := ⟨⟨by decide +kernel, by decide +kernel⟩, List.mem_of_getElem? (i := 1083) (by decide +kernel), List.mem_of_getElem? (i := 1352) (by decide +kernel), List.mem_of_getElem? (i := 1353) (by decide +kernel)⟩
theorem lw_p56 : lw_okq (⟨"CommandByTurnsModel", "remember", "([I)V"⟩, 40) := ⟨⟨by decide +kernel, by decide +kernel⟩, List.mem_of_getElem? (i := 1083) (by decide +kernel), List.mem_of_getElem? (i := 1360) (by decide +kernel), List.mem_of_getElem? (i := 1361) (by decide +kernel)⟩
theorem lw_p57 : lw_okq (⟨"CommandByTurnsModel", "goMarch", "(I)V"⟩, 40) := ⟨⟨by decide +kernel, by decide +kernel⟩, List.mem_of_getElem? (i := 1083) (by decide +kernel), List.mem_of_getElem? (i := 1367) (by decide +kernel), List.mem_of_getElem? (i := 1368) (by decide +kernel)⟩
theorem lw_p58 : lw_okq (⟨"CommandByTurnsModel", "tell", "(J)V"⟩, 40) := ⟨⟨by decide +kernel, by decide +kernel⟩, List.mem_of_getElem? (i := 1083) (by decide +kernel), List.mem_of_getElem? (i := 1377) (by decide +kernel), List.mem_of_getElem? (i := 1378) (by decide +kernel)⟩
theorem lw_p59 : lw_okq (⟨"CommandByTurnsModel", "refusesFight", "([I)I"⟩, 40) := ⟨⟨by decide +kernel, by decide +kernel⟩, List.mem_of_getElem? (i := 1083) (by decide +kernel), List.mem_of_getElem? (i := 1389) (by decide +kernel), List.mem_of_getElem? (i := 1390) (by decide +kernel)⟩
theorem lw_p60 : lw_okq (⟨"CommandByTurnsModel", "goBattle", "([I)I"⟩, 40) := ⟨⟨by decide +kernel, by decide +kernel⟩, List.mem_of_getElem? (i := 1083) (by decide +kernel), List.mem_of_getElem? (i := 1396) (by decide +kernel), List.mem_of_getElem? (i := 1397) (by decide +kernel)⟩
theorem lw_p61 : lw_okq (⟨"CommandByTurnsModel", "issueAt", "([IIII)I"⟩, 40) := ⟨⟨by decide +kernel, by decide +kernel⟩, List.mem_of_getElem? (i := 1083) (by decide +kernel), List.mem_of_getElem? (i := 1400) (by decide +kernel), List.mem_of_getElem? (i := 1401) (by decide +kernel)⟩
theorem lw_p62 : lw_okq (⟨"CommandByTurnsModel", "issueBy", "(IIIIIII)I"⟩, 40) := ⟨⟨by decide +kernel, by decide +kernel⟩, List.mem_of_getElem? (i := 1083) (by decide +kernel), List.mem_of_getElem? (i := 1404) (by decide +kernel), List.mem_of_getElem? (i := 1405) (by decide +kernel)⟩
theorem lw_p63 : lw_okq (⟨"CommandByTurnsModel", "lentFrom", "()I"⟩, 40) := ⟨⟨by decide +kernel, by decide +kernel⟩, List.mem_of_getElem? (i := 1083) (by decide +kernel), List.mem_of_getElem? (i := 1420) (by decide +kernel), List.mem_of_getElem? (i := 1421) (by decide +kernel)⟩
def lw_privs_4 : List (MethodName × Nat) := [(⟨"CommandByTurnsModel", "need", "(C)V"⟩, 40), (⟨"CommandByTurnsModel", "number", "(I)I"⟩, 40), (⟨"CommandByTurnsModel", "isField", "(I)Z"⟩, 40), (⟨"CommandByTurnsModel", "lost", "()I"⟩, 40), (⟨"CommandByTurnsModel", "reachOf", "(I)I"⟩, 40), (⟨"CommandByTurnsModel", "wishOf", "(II)I"⟩, 40), (⟨"CommandByTurnsModel", "refusesMarch", "(I)I"⟩, 40), (⟨"CommandByTurnsModel", "costOf", "(II)I"⟩, 40), (⟨"CommandByTurnsModel", "remember", "([I)V"⟩, 40), (⟨"CommandByTurnsModel", "goMarch", "(I)V"⟩, 40), (⟨"CommandByTurnsModel", "tell", "(J)V"⟩, 40), (⟨"CommandByTurnsModel", "refusesFight", "([I)I"⟩, 40), (⟨"CommandByTurnsModel", "goBattle", "([I)I"⟩, 40), (⟨"CommandByTurnsModel", "issueAt", "([IIII)I"⟩, 40), (⟨"CommandByTurnsModel", "issueBy", "(IIIIIII)I"⟩, 40), (⟨"CommandByTurnsModel", "lentFrom", "()I"⟩, 40)]
theorem lw_r4 : ∀ q ∈ lw_privs_4, lw_okq q := List.forall_mem_cons.mpr ⟨lw_p48, List.forall_mem_cons.mpr ⟨lw_p49, List.forall_mem_cons.mpr ⟨lw_p50, List.forall_mem_cons.mpr ⟨lw_p51, List.forall_mem_cons.mpr ⟨lw_p52, List.forall_mem_cons.mpr ⟨lw_p53, List.forall_mem_cons.mpr ⟨lw_p54, List.forall_mem_cons.mpr ⟨lw_p55, List.forall_mem_cons.mpr ⟨lw_p56, List.forall_mem_cons.mpr ⟨lw_p57, List.forall_mem_cons.mpr ⟨lw_p58, List.forall_mem_cons.mpr ⟨lw_p59, List.forall_mem_cons.mpr ⟨lw_p60, List.forall_mem_cons.mpr ⟨lw_p61, List.forall_mem_cons.mpr ⟨lw_p62, List.forall_mem_cons.mpr ⟨lw_p63, fun _ h => absurd h List.not_mem_nil⟩⟩⟩⟩⟩⟩⟩⟩⟩⟩⟩⟩⟩⟩⟩⟩
theorem lw_p64 : lw_okq (⟨"CommandByTurnsModel", "readAct", "(I)V"⟩, 40) := ⟨⟨by decide +kernel, by decide +kernel⟩, List.mem_of_getElem? (i := 1083) (by decide +kernel), List.mem_of_getElem? (i := 1432) (by decide +kernel), List.mem_of_getElem? (i := 1433) (by decide +kernel)⟩
theorem lw_p65 : lw_okq (⟨"CommandByTurnsModel", "act", "(II)Z"⟩, 40) := ⟨⟨by decide +kernel, by decide +kernel⟩, List.mem_of_getElem? (i := 1083) (by decide +kernel), List.mem_of_getElem? (i := 1436) (by decide +kernel), List.mem_of_getElem? (i := 1437) (by decide +kernel)⟩
theorem lw_p66 : lw_okq (⟨"CommandByTurnsModel", "reachable", "(III)I"⟩, 40) := ⟨⟨by decide +kernel, by decide +kernel⟩, List.mem_of_getElem? (i := 1083) (by decide +kernel), List.mem_of_getElem? (i := 1457) (by decide +kernel), List.mem_of_getElem? (i := 1458) (by decide +kernel)⟩
theorem lw_p67 : lw_okq (⟨"CommandByTurnsModel", "canArrive", "(II)Z"⟩, 40) := ⟨⟨by decide +kernel, by decide +kernel⟩, List.mem_of_getElem? (i := 1083) (by decide +kernel), List.mem_of_getElem? (i := 1484) (by decide +kernel), List.mem_of_getElem? (i := 1485) (by decide +kernel)⟩
theorem lw_p68 : lw_okq (⟨"CommandByTurnsModel", "moves", "(II)I"⟩, 40) := ⟨⟨by decide +kernel, by decide +kernel⟩, List.mem_of_getElem? (i := 1083) (by decide +kernel), List.mem_of_getElem? (i := 1488) (by decide +kernel), List.mem_of_getElem? (i := 1489) (by decide +kernel)⟩
theorem lw_p69 : lw_okq (⟨"CommandByTurnsModel", "layKeeps", "(I)V"⟩, 40) := ⟨⟨by decide +kernel, by decide +kernel⟩, List.mem_of_getElem? (i := 1083) (by decide +kernel), List.mem_of_getElem? (i := 1497) (by decide +kernel), List.mem_of_getElem? (i := 1498) (by decide +kernel)⟩
theorem lw_p70 : lw_okq (⟨"CommandByTurnsModel", "cell", "(II)I"⟩, 40) := ⟨⟨by decide +kernel, by decide +kernel⟩, List.mem_of_getElem? (i := 1083) (by decide +kernel), List.mem_of_getElem? (i := 1501) (by decide +kernel), List.mem_of_getElem? (i := 1502) (by decide +kernel)⟩
theorem lw_p71 : lw_okq (⟨"CommandByTurnsModel", "playsOn", "(I)I"⟩, 40) := ⟨⟨by decide +kernel, by decide +kernel⟩, List.mem_of_getElem? (i := 1083) (by decide +kernel), List.mem_of_getElem? (i := 1505) (by decide +kernel), List.mem_of_getElem? (i := 1506) (by decide +kernel)⟩
theorem lw_p72 : lw_okq (⟨"CommandByTurnsModel", "nearest", "(I)I"⟩, 40) := ⟨⟨by decide +kernel, by decide +kernel⟩, List.mem_of_getElem? (i := 1083) (by decide +kernel), List.mem_of_getElem? (i := 1509) (by decide +kernel), List.mem_of_getElem? (i := 1510) (by decide +kernel)⟩
theorem lw_p73 : lw_okq (⟨"CommandByTurnsModel", "behind", "(II)I"⟩, 40) := ⟨⟨by decide +kernel, by decide +kernel⟩, List.mem_of_getElem? (i := 1083) (by decide +kernel), List.mem_of_getElem? (i := 1513) (by decide +kernel), List.mem_of_getElem? (i := 1514) (by decide +kernel)⟩
theorem lw_p74 : lw_okq (⟨"CommandByTurnsModel", "wishOn", "(II)I"⟩, 40) := ⟨⟨by decide +kernel, by decide +kernel⟩, List.mem_of_getElem? (i := 1083) (by decide +kernel), List.mem_of_getElem? (i := 1534) (by decide +kernel), List.mem_of_getElem? (i := 1535) (by decide +kernel)⟩
theorem lw_p75 : lw_okq (⟨"CommandByTurnsModel", "issuesBy", "(III)I"⟩, 40) := ⟨⟨by decide +kernel, by decide +kernel⟩, List.mem_of_getElem? (i := 1083) (by decide +kernel), List.mem_of_getElem? (i := 1546) (by decide +kernel), List.mem_of_getElem? (i := 1547) (by decide +kernel)⟩
theorem lw_p76 : lw_okq (⟨"CommandByTurnsModel", "partBy", "(II)I"⟩, 40) := ⟨⟨by decide +kernel, by decide +kernel⟩, List.mem_of_getElem? (i := 1083) (by decide +kernel), List.mem_of_getElem? (i := 1555) (by decide +kernel), List.mem_of_getElem? (i := 1556) (by decide +kernel)⟩
theorem lw_p77 : lw_okq (⟨"CommandByTurnsModel", "waysIf", "(IIII)I"⟩, 40) := ⟨⟨by decide +kernel, by decide +kernel⟩, List.mem_of_getElem? (i := 1083) (by decide +kernel), List.mem_of_getElem? (i := 1574) (by decide +kernel), List.mem_of_getElem? (i := 1575) (by decide +kernel)⟩
theorem lw_p78 : lw_okq (⟨"CommandByTurnsModel", "layWays", "(II)V"⟩, 40) := ⟨⟨by decide +kernel, by decide +kernel⟩, List.mem_of_getElem? (i := 1083) (by decide +kernel), List.mem_of_getElem? (i := 1578) (by decide +kernel), List.mem_of_getElem? (i := 1579) (by decide +kernel)⟩
theorem lw_p79 : lw_okq (⟨"CommandByTurnsModel", "canBe", "(II)Z"⟩, 40) := ⟨⟨by decide +kernel, by decide +kernel⟩, List.mem_of_getElem? (i := 1083) (by decide +kernel), List.mem_of_getElem? (i := 1582) (by decide +kernel), List.mem_of_getElem? (i := 1583) (by decide +kernel)⟩
def lw_privs_5 : List (MethodName × Nat) := [(⟨"CommandByTurnsModel", "readAct", "(I)V"⟩, 40), (⟨"CommandByTurnsModel", "act", "(II)Z"⟩, 40), (⟨"CommandByTurnsModel", "reachable", "(III)I"⟩, 40), (⟨"CommandByTurnsModel", "canArrive", "(II)Z"⟩, 40), (⟨"CommandByTurnsModel", "moves", "(II)I"⟩, 40), (⟨"CommandByTurnsModel", "layKeeps", "(I)V"⟩, 40), (⟨"CommandByTurnsModel", "cell", "(II)I"⟩, 40), (⟨"CommandByTurnsModel", "playsOn", "(I)I"⟩, 40), (⟨"CommandByTurnsModel", "nearest", "(I)I"⟩, 40), (⟨"CommandByTurnsModel", "behind", "(II)I"⟩, 40), (⟨"CommandByTurnsModel", "wishOn", "(II)I"⟩, 40), (⟨"CommandByTurnsModel", "issuesBy", "(III)I"⟩, 40), (⟨"CommandByTurnsModel", "partBy", "(II)I"⟩, 40), (⟨"CommandByTurnsModel", "waysIf", "(IIII)I"⟩, 40), (⟨"CommandByTurnsModel", "layWays", "(II)V"⟩, 40), (⟨"CommandByTurnsModel", "canBe", "(II)Z"⟩, 40)]
theorem lw_r5 : ∀ q ∈ lw_privs_5, lw_okq q := List.forall_mem_cons.mpr ⟨lw_p64, List.forall_mem_cons.mpr ⟨lw_p65, List.forall_mem_cons.mpr ⟨lw_p66, List.forall_mem_cons.mpr ⟨lw_p67, List.forall_mem_cons.mpr ⟨lw_p68, List.forall_mem_cons.mpr ⟨lw_p69, List.forall_mem_cons.mpr ⟨lw_p70, List.forall_mem_cons.mpr ⟨lw_p71, List.forall_mem_cons.mpr ⟨lw_p72, List.forall_mem_cons.mpr ⟨lw_p73, List.forall_mem_cons.mpr ⟨lw_p74, List.forall_mem_cons.mpr ⟨lw_p75, List.forall_mem_cons.mpr ⟨lw_p76, List.forall_mem_cons.mpr ⟨lw_p77, List.forall_mem_cons.mpr ⟨lw_p78, List.forall_mem_cons.mpr ⟨lw_p79, fun _ h => absurd h List.not_mem_nil⟩⟩⟩⟩⟩⟩⟩⟩⟩⟩⟩⟩⟩⟩⟩⟩
theorem lw_p80 : lw_okq (⟨"CommandByTurnsModel", "fits", "(II)Z"⟩, 40) := ⟨⟨by decide +kernel, by decide +kernel⟩, List.mem_of_getElem? (i := 1083) (by decide +kernel), List.mem_of_getElem? (i := 1586) (by decide +kernel), List.mem_of_getElem? (i := 1587) (by decide +kernel)⟩
def lw_privs_6 : List (MethodName × Nat) := [(⟨"CommandByTurnsModel", "fits", "(II)Z"⟩, 40)]
theorem lw_r6 : ∀ q ∈ lw_privs_6, lw_okq q := List.forall_mem_cons.mpr ⟨lw_p80, fun _ h => absurd h List.not_mem_nil⟩
def lw_privs : List (MethodName × Nat) := lw_privs_1 ++ (lw_privs_2 ++ (lw_privs_3 ++ (lw_privs_4 ++ (lw_privs_5 ++ (lw_privs_6)))))
def lw_tbl : List Cond := k2_sels lw_privs ++ tables_1
theorem lw_privs_ok : ∀ q ∈ lw_privs, lw_okq q := by
  show ∀ q ∈ lw_privs_1 ++ (lw_privs_2 ++ (lw_privs_3 ++ (lw_privs_4 ++ (lw_privs_5 ++ (lw_privs_6))))), lw_okq q
  exact List.forall_mem_append.mpr ⟨lw_r1, List.forall_mem_append.mpr ⟨lw_r2, List.forall_mem_append.mpr ⟨lw_r3, List.forall_mem_append.mpr ⟨lw_r4, List.forall_mem_append.mpr ⟨lw_r5, lw_r6⟩⟩⟩⟩⟩
/-! The claim's names for the small machine: written by program (wip/whole/gen_tables.py). -/
def gt_own : List String := ["CommandByTurns$Formula", "CommandByTurns$Land", "CommandByTurns$Leader", "CommandByTurns$OldWar", "CommandByTurns$Past", "CommandByTurns$Row", "CommandByTurns$Standing", "CommandByTurns$Text", "CommandByTurns$Walk", "CommandByTurns", "CommandByTurnsModel", "CommandByTurnsLaw", "java/lang/Integer", "java/lang/Math"]
def gt_fs : List (List (String × String × String × Bool)) := [
  [("CommandByTurns$Formula", "code", "[I", true), ("CommandByTurns$Formula", "codeLength", "I", false), ("CommandByTurns$Formula", "waiting", "[I", true), ("CommandByTurns$Formula", "waitingLength", "I", false)],
  [("CommandByTurns$Land", "heights", "[I", true), ("CommandByTurns$Land", "rivers", "I", false), ("CommandByTurns$Land", "size", "I", false)],
  [("CommandByTurns$Leader", "bold", "I", false), ("CommandByTurns$Leader", "liked", "I", false), ("CommandByTurns$Leader", "wishDigits", "[I", true), ("CommandByTurns$Leader", "wishCount", "I", false), ("CommandByTurns$Leader", "wishDay", "I", false)],
  [("CommandByTurns$OldWar", "marches", "[I", true), ("CommandByTurns$OldWar", "notedBits", "I", false), ("CommandByTurns$OldWar", "canBe", "[I", true), ("CommandByTurns$OldWar", "table", "[I", true)],
  [("CommandByTurns$Past", "standings", "[LCommandByTurns$Standing;", true), ("CommandByTurns$Past", "next", "I", false), ("CommandByTurns$Past", "size", "I", false)],
  [("CommandByTurns$Row", "numbers", "[J", true), ("CommandByTurns$Row", "size", "I", false)],
  [("CommandByTurns$Standing", "day", "I", false), ("CommandByTurns$Standing", "armyAt", "I", false), ("CommandByTurns$Standing", "foeAt", "I", false), ("CommandByTurns$Standing", "men", "I", false), ("CommandByTurns$Standing", "foeMen", "I", false), ("CommandByTurns$Standing", "food", "I", false), ("CommandByTurns$Standing", "lentEarly", "J", false), ("CommandByTurns$Standing", "lentLate", "J", false), ("CommandByTurns$Standing", "rashSickTill", "I", false), ("CommandByTurns$Standing", "slowSickTill", "I", false)],
  [("CommandByTurns$Text", "signs", "[C", true), ("CommandByTurns$Text", "length", "I", false)],
  [("CommandByTurns$Walk", "rashMoves", "[I", true), ("CommandByTurns$Walk", "slowMoves", "[I", true), ("CommandByTurns$Walk", "owners", "[I", true), ("CommandByTurns$Walk", "open", "[I", true), ("CommandByTurns$Walk", "fewest", "I", false), ("CommandByTurns$Walk", "fewestBits", "I", false)],
  [("CommandByTurns", "text", "LCommandByTurns$Text;", true), ("CommandByTurns", "land", "LCommandByTurns$Land;", true), ("CommandByTurns", "formula", "LCommandByTurns$Formula;", true), ("CommandByTurns", "rash", "LCommandByTurns$Leader;", true), ("CommandByTurns", "slow", "LCommandByTurns$Leader;", true), ("CommandByTurns", "now", "LCommandByTurns$Standing;", true), ("CommandByTurns", "before", "LCommandByTurns$Standing;", true), ("CommandByTurns", "trial", "LCommandByTurns$Standing;", true), ("CommandByTurns", "past", "LCommandByTurns$Past;", true), ("CommandByTurns", "kept", "[LCommandByTurns$Standing;", true), ("CommandByTurns", "keptBits", "I", false), ("CommandByTurns", "told", "LCommandByTurns$Row;", true), ("CommandByTurns", "walk", "LCommandByTurns$Walk;", true), ("CommandByTurns", "oldWar", "LCommandByTurns$OldWar;", true), ("CommandByTurns", "things", "[I", true), ("CommandByTurns", "rashIssues", "[I", true), ("CommandByTurns", "slowIssues", "[I", true)],
  [("CommandByTurnsModel", "now", "[I", true), ("CommandByTurnsModel", "fields", "I", false), ("CommandByTurnsModel", "height", "[I", true), ("CommandByTurnsModel", "river", "[Z", true), ("CommandByTurnsModel", "bold", "[I", true), ("CommandByTurnsModel", "liked", "[I", true), ("CommandByTurnsModel", "wish", "[I", true), ("CommandByTurnsModel", "toldOn", "[I", true), ("CommandByTurnsModel", "toldMany", "[I", true), ("CommandByTurnsModel", "text", "[B", true), ("CommandByTurnsModel", "typed", "I", false), ("CommandByTurnsModel", "row", "[J", true), ("CommandByTurnsModel", "rowMany", "I", false), ("CommandByTurnsModel", "thrown", "I", false), ("CommandByTurnsModel", "read", "[B", false), ("CommandByTurnsModel", "length", "I", false), ("CommandByTurnsModel", "top", "I", false), ("CommandByTurnsModel", "at", "I", false), ("CommandByTurnsModel", "wrong", "I", false), ("CommandByTurnsModel", "newHeight", "[I", true), ("CommandByTurnsModel", "newRiver", "[Z", true), ("CommandByTurnsModel", "rule", "[B", true), ("CommandByTurnsModel", "ruleSize", "I", false), ("CommandByTurnsModel", "isAsked", "Z", false), ("CommandByTurnsModel", "asked", "[I", true), ("CommandByTurnsModel", "undos", "[I", true), ("CommandByTurnsModel", "undoMany", "I", false), ("CommandByTurnsModel", "aside", "[I", true), ("CommandByTurnsModel", "then", "[I", true), ("CommandByTurnsModel", "acts", "[I", true), ("CommandByTurnsModel", "good", "[I", true), ("CommandByTurnsModel", "keeps", "[I", true), ("CommandByTurnsModel", "given", "I", false), ("CommandByTurnsModel", "seenBy", "[I", true), ("CommandByTurnsModel", "seenBits", "I", false), ("CommandByTurnsModel", "ways", "[I", true), ("CommandByTurnsModel", "fixedDay", "I", false), ("CommandByTurnsModel", "fixedTo", "I", false), ("CommandByTurnsModel", "kept", "[I", true), ("CommandByTurnsModel", "isKept", "[Z", true)]]
def gt_TT (ci : Nat) : u_T := fun k => (gt_fs.getD ci []).getD k ("", "", "", false)
def gt_tys : List (List FieldType) := [
  [.array .int, .int, .array .int, .int],
  [.array .int, .int, .int],
  [.int, .int, .array .int, .int, .int],
  [.array .int, .int, .array .int, .array .int],
  [.array (.object "CommandByTurns$Standing"), .int, .int],
  [.array .long, .int],
  [.int, .int, .int, .int, .int, .int, .long, .long, .int, .int],
  [.array .char, .int],
  [.array .int, .array .int, .array .int, .array .int, .int, .int],
  [.object "CommandByTurns$Text", .object "CommandByTurns$Land", .object "CommandByTurns$Formula", .object "CommandByTurns$Leader", .object "CommandByTurns$Leader", .object "CommandByTurns$Standing", .object "CommandByTurns$Standing", .object "CommandByTurns$Standing", .object "CommandByTurns$Past", .array (.object "CommandByTurns$Standing"), .int, .object "CommandByTurns$Row", .object "CommandByTurns$Walk", .object "CommandByTurns$OldWar", .array .int, .array .int, .array .int],
  [.array .int, .int, .array .int, .array .boolean, .array .int, .array .int, .array .int, .array .int, .array .int, .array .byte, .int, .array .long, .int, .int, .array .byte, .int, .int, .int, .int, .array .int, .array .boolean, .array .byte, .int, .boolean, .array .int, .array .int, .int, .array .int, .array .int, .array .int, .array .int, .array .int, .int, .array .int, .int, .array .int, .int, .int, .array .int, .array .boolean]]
def gt_ty (ci k : Nat) : FieldType := (gt_tys.getD ci []).getD k .int
def gt_cl : List vw_C := [("CommandByTurns$Formula", gt_TT 0, 4), ("CommandByTurns$Land", gt_TT 1, 3), ("CommandByTurns$Leader", gt_TT 2, 5), ("CommandByTurns$OldWar", gt_TT 3, 4), ("CommandByTurns$Past", gt_TT 4, 3), ("CommandByTurns$Row", gt_TT 5, 2), ("CommandByTurns$Standing", gt_TT 6, 10), ("CommandByTurns$Text", gt_TT 7, 2), ("CommandByTurns$Walk", gt_TT 8, 6), ("CommandByTurns", gt_TT 9, 17), ("CommandByTurnsModel", gt_TT 10, 40)]
def gt_dfl : List (List Value) := [
  [.null, .int 0, .null, .int 0],
  [.null, .int 0, .int 0],
  [.int 0, .int 0, .null, .int 0, .int 0],
  [.null, .int 0, .null, .null],
  [.null, .int 0, .int 0],
  [.null, .int 0],
  [.int 0, .int 0, .int 0, .int 0, .int 0, .int 0, .long 0, .long 0, .int 0, .int 0],
  [.null, .int 0],
  [.null, .null, .null, .null, .int 0, .int 0],
  [.null, .null, .null, .null, .null, .null, .null, .null, .null, .null, .int 0, .null, .null, .null, .null, .null, .null],
  [.null, .int 0, .null, .null, .null, .null, .null, .null, .null, .null, .int 0, .null, .int 0, .int 0, .null, .int 0, .int 0, .int 0, .int 0, .null, .null, .null, .int 0, .int 0, .null, .null, .int 0, .null, .null, .null, .null, .null, .int 0, .null, .int 0, .null, .int 0, .int 0, .null, .null]]
def gt_yl : List MethodName := [
  ⟨"CommandByTurns$Formula", "<init>", "()V"⟩,
  ⟨"CommandByTurns$Formula", "misreadAt", "(LCommandByTurns$Text;)I"⟩,
  ⟨"CommandByTurns$Formula", "isOperand", "(C)Z"⟩,
  ⟨"CommandByTurns$Formula", "rank", "(I)I"⟩,
  ⟨"CommandByTurns$Formula", "read", "(LCommandByTurns$Text;)V"⟩,
  ⟨"CommandByTurns$Formula", "readSign", "(CZ)Z"⟩,
  ⟨"CommandByTurns$Formula", "readDigit", "(IZ)V"⟩,
  ⟨"CommandByTurns$Formula", "writeWaiting", "(I)V"⟩,
  ⟨"CommandByTurns$Formula", "write", "(I)V"⟩,
  ⟨"CommandByTurns$Formula", "push", "(I)V"⟩,
  ⟨"CommandByTurns$Formula", "take", "()I"⟩,
  ⟨"CommandByTurns$Formula", "valueOf", "([I)I"⟩,
  ⟨"CommandByTurns$Formula", "joined", "(III)I"⟩,
  ⟨"CommandByTurns$Land", "<init>", "()V"⟩,
  ⟨"CommandByTurns$Land", "has", "(I)Z"⟩,
  ⟨"CommandByTurns$Land", "heightOf", "(I)I"⟩,
  ⟨"CommandByTurns$Land", "isNear", "(II)Z"⟩,
  ⟨"CommandByTurns$Land", "isPast", "(III)Z"⟩,
  ⟨"CommandByTurns$Land", "riverBetween", "(II)I"⟩,
  ⟨"CommandByTurns$Land", "wayBetween", "(II)I"⟩,
  ⟨"CommandByTurns$Land", "allFields", "()I"⟩,
  ⟨"CommandByTurns$Land", "goals", "(III)I"⟩,
  ⟨"CommandByTurns$Land", "nearestGoal", "(II)I"⟩,
  ⟨"CommandByTurns$Land", "misreadAt", "(LCommandByTurns$Text;)I"⟩,
  ⟨"CommandByTurns$Land", "read", "(LCommandByTurns$Text;)V"⟩,
  ⟨"CommandByTurns$Land", "raise", "(IIII)I"⟩,
  ⟨"CommandByTurns$Land", "asHeight", "(II)I"⟩,
  ⟨"CommandByTurns$Leader", "<init>", "(I)V"⟩,
  ⟨"CommandByTurns$Leader", "wishMisreadAt", "(LCommandByTurns$Text;)I"⟩,
  ⟨"CommandByTurns$Leader", "readWishes", "(LCommandByTurns$Text;I)V"⟩,
  ⟨"CommandByTurns$Leader", "wishFor", "(I)I"⟩,
  ⟨"CommandByTurns$Leader", "stride", "()I"⟩,
  ⟨"CommandByTurns$OldWar", "<init>", "()V"⟩,
  ⟨"CommandByTurns$OldWar", "note", "(II)I"⟩,
  ⟨"CommandByTurns$OldWar", "weigh", "(II)V"⟩,
  ⟨"CommandByTurns$OldWar", "waysIf", "(III)I"⟩,
  ⟨"CommandByTurns$OldWar", "ways", "(II)I"⟩,
  ⟨"CommandByTurns$OldWar", "waysAhead", "(IIII)I"⟩,
  ⟨"CommandByTurns$OldWar", "waysUpTo", "(III)I"⟩,
  ⟨"CommandByTurns$OldWar", "leastWay", "(II)I"⟩,
  ⟨"CommandByTurns$Past", "<init>", "()V"⟩,
  ⟨"CommandByTurns$Past", "push", "(LCommandByTurns$Standing;)V"⟩,
  ⟨"CommandByTurns$Past", "pop", "(LCommandByTurns$Standing;)Z"⟩,
  ⟨"CommandByTurns$Row", "<init>", "()V"⟩,
  ⟨"CommandByTurns$Row", "add", "(J)V"⟩,
  ⟨"CommandByTurns$Row", "tellOne", "(J)V"⟩,
  ⟨"CommandByTurns$Row", "tellTwo", "(JJ)V"⟩,
  ⟨"CommandByTurns$Standing", "<init>", "()V"⟩,
  ⟨"CommandByTurns$Standing", "copy", "(LCommandByTurns$Standing;)V"⟩,
  ⟨"CommandByTurns$Standing", "sickTill", "(I)I"⟩,
  ⟨"CommandByTurns$Standing", "fallSick", "(II)I"⟩,
  ⟨"CommandByTurns$Standing", "commanderOn", "(I)I"⟩,
  ⟨"CommandByTurns$Standing", "isLent", "(I)Z"⟩,
  ⟨"CommandByTurns$Standing", "turnLent", "(I)V"⟩,
  ⟨"CommandByTurns$Standing", "lentFrom", "(I)I"⟩,
  ⟨"CommandByTurns$Standing", "provide", "(II)I"⟩,
  ⟨"CommandByTurns$Standing", "suffer", "(I)V"⟩,
  ⟨"CommandByTurns$Standing", "nightTakes", "()I"⟩,
  ⟨"CommandByTurns$Standing", "night", "()V"⟩,
  ⟨"CommandByTurns$Text", "<init>", "()V"⟩,
  ⟨"CommandByTurns$Text", "isDigit", "(C)Z"⟩,
  ⟨"CommandByTurns$Text", "at", "(I)C"⟩,
  ⟨"CommandByTurns$Text", "addFour", "(I)Z"⟩,
  ⟨"CommandByTurns$Text", "add", "(C)V"⟩,
  ⟨"CommandByTurns$Walk", "<init>", "()V"⟩,
  ⟨"CommandByTurns$Walk", "movesFrom", "(II)I"⟩,
  ⟨"CommandByTurns$Walk", "movesFromAny", "(II)I"⟩,
  ⟨"CommandByTurns$Walk", "daysTill", "(II)I"⟩,
  ⟨"CommandByTurns$Walk", "daysKeptOff", "(II)I"⟩,
  ⟨"CommandByTurns$Walk", "lookBack", "(II)I"⟩,
  ⟨"CommandByTurns$Walk", "sourcesOf", "(II)I"⟩,
  ⟨"CommandByTurns$Walk", "leastStep", "(II)I"⟩,
  ⟨"CommandByTurns$Walk", "findFewest", "(II)Z"⟩,
  ⟨"CommandByTurns$Walk", "give", "(IIII)V"⟩,
  ⟨"CommandByTurns", "<init>", "()V"⟩,
  ⟨"CommandByTurns", "sign", "(I)I"⟩,
  ⟨"CommandByTurns", "end", "(I)Z"⟩,
  ⟨"CommandByTurns", "ground", "()I"⟩,
  ⟨"CommandByTurns", "wishes", "(I)I"⟩,
  ⟨"CommandByTurns", "rule", "()I"⟩,
  ⟨"CommandByTurns", "field", "(II)I"⟩,
  ⟨"CommandByTurns", "consul", "(II)I"⟩,
  ⟨"CommandByTurns", "set", "(III)I"⟩,
  ⟨"CommandByTurns", "sheet", "(IIII)I"⟩,
  ⟨"CommandByTurns", "whose", "()I"⟩,
  ⟨"CommandByTurns", "march", "(I)I"⟩,
  ⟨"CommandByTurns", "halt", "()I"⟩,
  ⟨"CommandByTurns", "fight", "()I"⟩,
  ⟨"CommandByTurns", "foe", "(I)I"⟩,
  ⟨"CommandByTurns", "send", "(II)I"⟩,
  ⟨"CommandByTurns", "lend", "(I)I"⟩,
  ⟨"CommandByTurns", "sick", "(II)I"⟩,
  ⟨"CommandByTurns", "war", "()I"⟩,
  ⟨"CommandByTurns", "undo", "()I"⟩,
  ⟨"CommandByTurns", "remembered", "(I)I"⟩,
  ⟨"CommandByTurns", "marchBy", "(I)I"⟩,
  ⟨"CommandByTurns", "stay", "()I"⟩,
  ⟨"CommandByTurns", "doBattle", "()I"⟩,
  ⟨"CommandByTurns", "moveFoe", "(I)I"⟩,
  ⟨"CommandByTurns", "turnDay", "(I)I"⟩,
  ⟨"CommandByTurns", "isActOfTwo", "(C)Z"⟩,
  ⟨"CommandByTurns", "act", "(CC)I"⟩,
  ⟨"CommandByTurns", "warMisreadAt", "()I"⟩,
  ⟨"CommandByTurns", "comes", "(II)I"⟩,
  ⟨"CommandByTurns", "issue", "(II)I"⟩,
  ⟨"CommandByTurns", "reach", "(I)I"⟩,
  ⟨"CommandByTurns", "evening", "()I"⟩,
  ⟨"CommandByTurns", "lasts", "()I"⟩,
  ⟨"CommandByTurns", "feeds", "(I)I"⟩,
  ⟨"CommandByTurns", "boldness", "(I)I"⟩,
  ⟨"CommandByTurns", "arrives", "(I)I"⟩,
  ⟨"CommandByTurns", "tomorrowFrom", "(I)I"⟩,
  ⟨"CommandByTurns", "goals", "(II)I"⟩,
  ⟨"CommandByTurns", "tellLeastWay", "(I)V"⟩,
  ⟨"CommandByTurns", "avoids", "(I)I"⟩,
  ⟨"CommandByTurns", "safe", "(I)I"⟩,
  ⟨"CommandByTurns", "forces", "(I)I"⟩,
  ⟨"CommandByTurns", "offers", "(I)I"⟩,
  ⟨"CommandByTurns", "prepareWalk", "()V"⟩,
  ⟨"CommandByTurns", "prepareGame", "()V"⟩,
  ⟨"CommandByTurns", "bargain", "()I"⟩,
  ⟨"CommandByTurns", "share", "(I)I"⟩,
  ⟨"CommandByTurns", "bestToGive", "(II)I"⟩,
  ⟨"CommandByTurns", "gainByGiving", "(I)I"⟩,
  ⟨"CommandByTurns", "command", "(I)I"⟩,
  ⟨"CommandByTurns", "sumByTurns", "(III)I"⟩,
  ⟨"CommandByTurns", "halves", "()I"⟩,
  ⟨"CommandByTurns", "seen", "(II)I"⟩,
  ⟨"CommandByTurns", "forget", "()I"⟩,
  ⟨"CommandByTurns", "was", "(II)I"⟩,
  ⟨"CommandByTurns", "sure", "(II)I"⟩,
  ⟨"CommandByTurns", "ask", "(II)I"⟩,
  ⟨"CommandByTurns", "isOldWar", "(II)Z"⟩,
  ⟨"CommandByTurns", "waysThatFit", "(II)I"⟩,
  ⟨"CommandByTurns", "rain", "(II)I"⟩,
  ⟨"CommandByTurns", "commonDivisor", "(JJ)J"⟩,
  ⟨"CommandByTurns", "stops", "(II)I"⟩,
  ⟨"CommandByTurns", "power", "(II)J"⟩,
  ⟨"CommandByTurns", "rests", "()I"⟩,
  ⟨"CommandByTurns", "isBestAgainst", "(II)Z"⟩,
  ⟨"CommandByTurns", "legions", "(II)I"⟩,
  ⟨"CommandByTurns", "years", "(II)I"⟩,
  ⟨"CommandByTurns", "liveDay", "(II)I"⟩,
  ⟨"CommandByTurns", "keep", "(I)Z"⟩,
  ⟨"CommandByTurns", "again", "(I)Z"⟩,
  ⟨"CommandByTurns", "count", "(I)I"⟩,
  ⟨"CommandByTurns", "row", "(I)J"⟩,
  ⟨"CommandByTurns", "isConsul", "(I)Z"⟩,
  ⟨"CommandByTurns", "leader", "(I)LCommandByTurns$Leader;"⟩,
  ⟨"CommandByTurns", "gap", "(II)I"⟩,
  ⟨"CommandByTurns", "issueFrom", "(LCommandByTurns$Standing;III)I"⟩,
  ⟨"CommandByTurns", "issueOf", "(LCommandByTurns$Leader;IIIIII)I"⟩,
  ⟨"CommandByTurnsModel", "<init>", "()V"⟩,
  ⟨"CommandByTurnsModel", "thrown", "()I"⟩,
  ⟨"CommandByTurnsModel", "in", "(III)Z"⟩,
  ⟨"CommandByTurnsModel", "has", "(II)Z"⟩,
  ⟨"CommandByTurnsModel", "lost", "()I"⟩,
  ⟨"CommandByTurnsModel", "tell", "(J)V"⟩,
  ⟨"CommandByTurnsModel", "isField", "(I)Z"⟩,
  ⟨"CommandByTurnsModel", "isConsul", "(I)Z"⟩,
  ⟨"CommandByTurnsModel", "sign", "(I)I"⟩,
  ⟨"CommandByTurnsModel", "end", "(I)Z"⟩,
  ⟨"CommandByTurnsModel", "begin", "([BII)V"⟩,
  ⟨"CommandByTurnsModel", "beginText", "(I)V"⟩,
  ⟨"CommandByTurnsModel", "here", "()I"⟩,
  ⟨"CommandByTurnsModel", "fine", "()Z"⟩,
  ⟨"CommandByTurnsModel", "fault", "(I)V"⟩,
  ⟨"CommandByTurnsModel", "passes", "(C)Z"⟩,
  ⟨"CommandByTurnsModel", "need", "(C)V"⟩,
  ⟨"CommandByTurnsModel", "oneOf", "(CI)I"⟩,
  ⟨"CommandByTurnsModel", "number", "(I)I"⟩,
  ⟨"CommandByTurnsModel", "wasRight", "()Z"⟩,
  ⟨"CommandByTurnsModel", "ground", "()I"⟩,
  ⟨"CommandByTurnsModel", "wishes", "(I)I"⟩,
  ⟨"CommandByTurnsModel", "wishOf", "(II)I"⟩,
  ⟨"CommandByTurnsModel", "held", "(I)I"⟩,
  ⟨"CommandByTurnsModel", "sum", "(I)I"⟩,
  ⟨"CommandByTurnsModel", "product", "(I)I"⟩,
  ⟨"CommandByTurnsModel", "letterOf", "(I)I"⟩,
  ⟨"CommandByTurnsModel", "thing", "(I)I"⟩,
  ⟨"CommandByTurnsModel", "rule", "()I"⟩,
  ⟨"CommandByTurnsModel", "issueBy", "(IIIIIII)I"⟩,
  ⟨"CommandByTurnsModel", "issueAt", "([IIII)I"⟩,
  ⟨"CommandByTurnsModel", "isSick", "([III)Z"⟩,
  ⟨"CommandByTurnsModel", "whoseDay", "([II)I"⟩,
  ⟨"CommandByTurnsModel", "isNear", "(II)Z"⟩,
  ⟨"CommandByTurnsModel", "reachOf", "(I)I"⟩,
  ⟨"CommandByTurnsModel", "costOf", "(II)I"⟩,
  ⟨"CommandByTurnsModel", "isPast", "(III)Z"⟩,
  ⟨"CommandByTurnsModel", "reachable", "(III)I"⟩,
  ⟨"CommandByTurnsModel", "field", "(II)I"⟩,
  ⟨"CommandByTurnsModel", "consul", "(II)I"⟩,
  ⟨"CommandByTurnsModel", "set", "(III)I"⟩,
  ⟨"CommandByTurnsModel", "sheet", "(IIII)I"⟩,
  ⟨"CommandByTurnsModel", "lay", "([I[II)V"⟩,
  ⟨"CommandByTurnsModel", "remember", "([I)V"⟩,
  ⟨"CommandByTurnsModel", "takes", "([I)I"⟩,
  ⟨"CommandByTurnsModel", "goNight", "([I)V"⟩,
  ⟨"CommandByTurnsModel", "whose", "()I"⟩,
  ⟨"CommandByTurnsModel", "refusesMarch", "(I)I"⟩,
  ⟨"CommandByTurnsModel", "goMarch", "(I)V"⟩,
  ⟨"CommandByTurnsModel", "march", "(I)I"⟩,
  ⟨"CommandByTurnsModel", "halt", "()I"⟩,
  ⟨"CommandByTurnsModel", "refusesFight", "([I)I"⟩,
  ⟨"CommandByTurnsModel", "goBattle", "([I)I"⟩,
  ⟨"CommandByTurnsModel", "fight", "()I"⟩,
  ⟨"CommandByTurnsModel", "foe", "(I)I"⟩,
  ⟨"CommandByTurnsModel", "send", "(II)I"⟩,
  ⟨"CommandByTurnsModel", "lentFrom", "()I"⟩,
  ⟨"CommandByTurnsModel", "lend", "(I)I"⟩,
  ⟨"CommandByTurnsModel", "sick", "(II)I"⟩,
  ⟨"CommandByTurnsModel", "war", "()I"⟩,
  ⟨"CommandByTurnsModel", "readAct", "(I)V"⟩,
  ⟨"CommandByTurnsModel", "act", "(II)Z"⟩,
  ⟨"CommandByTurnsModel", "undo", "()I"⟩,
  ⟨"CommandByTurnsModel", "comes", "(II)I"⟩,
  ⟨"CommandByTurnsModel", "issue", "(II)I"⟩,
  ⟨"CommandByTurnsModel", "reach", "(I)I"⟩,
  ⟨"CommandByTurnsModel", "evening", "()I"⟩,
  ⟨"CommandByTurnsModel", "lasts", "()I"⟩,
  ⟨"CommandByTurnsModel", "feeds", "(I)I"⟩,
  ⟨"CommandByTurnsModel", "boldness", "(I)I"⟩,
  ⟨"CommandByTurnsModel", "moves", "(II)I"⟩,
  ⟨"CommandByTurnsModel", "canArrive", "(II)Z"⟩,
  ⟨"CommandByTurnsModel", "arrives", "(I)I"⟩,
  ⟨"CommandByTurnsModel", "playsOn", "(I)I"⟩,
  ⟨"CommandByTurnsModel", "nearest", "(I)I"⟩,
  ⟨"CommandByTurnsModel", "cell", "(II)I"⟩,
  ⟨"CommandByTurnsModel", "behind", "(II)I"⟩,
  ⟨"CommandByTurnsModel", "layKeeps", "(I)V"⟩,
  ⟨"CommandByTurnsModel", "avoids", "(I)I"⟩,
  ⟨"CommandByTurnsModel", "safe", "(I)I"⟩,
  ⟨"CommandByTurnsModel", "forces", "(I)I"⟩,
  ⟨"CommandByTurnsModel", "offers", "(I)I"⟩,
  ⟨"CommandByTurnsModel", "wishOn", "(II)I"⟩,
  ⟨"CommandByTurnsModel", "bargain", "()I"⟩,
  ⟨"CommandByTurnsModel", "share", "(I)I"⟩,
  ⟨"CommandByTurnsModel", "issuesBy", "(III)I"⟩,
  ⟨"CommandByTurnsModel", "command", "(I)I"⟩,
  ⟨"CommandByTurnsModel", "partBy", "(II)I"⟩,
  ⟨"CommandByTurnsModel", "halves", "()I"⟩,
  ⟨"CommandByTurnsModel", "seen", "(II)I"⟩,
  ⟨"CommandByTurnsModel", "forget", "()I"⟩,
  ⟨"CommandByTurnsModel", "fits", "(II)Z"⟩,
  ⟨"CommandByTurnsModel", "spot", "(III)I"⟩,
  ⟨"CommandByTurnsModel", "layWays", "(II)V"⟩,
  ⟨"CommandByTurnsModel", "canBe", "(II)Z"⟩,
  ⟨"CommandByTurnsModel", "waysIf", "(IIII)I"⟩,
  ⟨"CommandByTurnsModel", "isOld", "(II)Z"⟩,
  ⟨"CommandByTurnsModel", "was", "(II)I"⟩,
  ⟨"CommandByTurnsModel", "sure", "(II)I"⟩,
  ⟨"CommandByTurnsModel", "ask", "(II)I"⟩,
  ⟨"CommandByTurnsModel", "common", "(JJ)J"⟩,
  ⟨"CommandByTurnsModel", "rain", "(II)I"⟩,
  ⟨"CommandByTurnsModel", "power", "(JI)J"⟩,
  ⟨"CommandByTurnsModel", "stops", "(II)I"⟩,
  ⟨"CommandByTurnsModel", "gets", "(II)I"⟩,
  ⟨"CommandByTurnsModel", "isBest", "(II)Z"⟩,
  ⟨"CommandByTurnsModel", "rests", "()I"⟩,
  ⟨"CommandByTurnsModel", "years", "(II)I"⟩,
  ⟨"CommandByTurnsModel", "keep", "(I)Z"⟩,
  ⟨"CommandByTurnsModel", "again", "(I)Z"⟩,
  ⟨"CommandByTurnsModel", "count", "(I)I"⟩,
  ⟨"CommandByTurnsModel", "row", "(I)J"⟩,
  ⟨"java/lang/Integer", "compare", "(II)I"⟩,
  ⟨"java/lang/Integer", "numberOfTrailingZeros", "(I)I"⟩,
  ⟨"java/lang/Integer", "bitCount", "(I)I"⟩,
  ⟨"java/lang/Math", "abs", "(I)I"⟩,
  ⟨"java/lang/Math", "max", "(II)I"⟩,
  ⟨"java/lang/Math", "max", "(JJ)J"⟩,
  ⟨"java/lang/Math", "min", "(II)I"⟩]
def gt_tabs : List (List Cond) := [k2_sels lw_privs, tables_1_1, tables_1_2, tables_1_3, tables_1_4, tables_1_5, tables_1_6, tables_1_7]
def gt_at (q : Nat × Nat) : Option Cond := (gt_tabs[q.1]?).bind (fun l => l[q.2]?)
def gt_cb : Option Cond → ByteArray
  | some (.code _ b _ _) => b
  | _ => ⟨#[]⟩
def gt_pl : List (Nat × Nat) := [(1, 71), (3, 19), (3, 22), (1, 213), (1, 78), (1, 135), (1, 142), (1, 210), (1, 146), (1, 221), (1, 217), (3, 165), (3, 168), (1, 53), (3, 73), (3, 157), (3, 140), (3, 90), (3, 148), (3, 77), (4, 110), (4, 24), (4, 101), (2, 225), (2, 231), (3, 35), (3, 38), (2, 0), (3, 1), (3, 11), (4, 139), (3, 87), (2, 133), (4, 171), (4, 191), (4, 215), (4, 195), (4, 199), (4, 203), (4, 207), (2, 67), (3, 115), (4, 3), (2, 87), (3, 107), (3, 129), (3, 103), (2, 24), (3, 64), (3, 56), (3, 218), (3, 48), (3, 52), (3, 206), (3, 210), (3, 193), (3, 174), (3, 98), (3, 94), (1, 35), (1, 138), (1, 131), (2, 210), (2, 214), (2, 103), (4, 67), (4, 63), (4, 59), (4, 106), (4, 71), (4, 76), (4, 84), (4, 122), (4, 126), (1, 27), (2, 206), (2, 218), (2, 222), (2, 235), (3, 16), (5, 37), (5, 110), (3, 27), (3, 31), (3, 44), (3, 60), (3, 121), (3, 133), (3, 181), (3, 189), (3, 198), (3, 214), (3, 222), (3, 239), (3, 111), (3, 68), (3, 125), (3, 137), (3, 185), (3, 202), (3, 230), (3, 235), (3, 226), (4, 7), (4, 12), (4, 16), (4, 30), (4, 38), (4, 43), (4, 47), (4, 51), (4, 34), (4, 20), (4, 80), (4, 93), (4, 114), (4, 118), (4, 131), (4, 55), (4, 97), (4, 135), (4, 143), (4, 147), (4, 151), (4, 155), (4, 159), (4, 163), (4, 167), (4, 176), (4, 180), (4, 211), (4, 220), (4, 183), (4, 187), (4, 224), (4, 228), (4, 232), (4, 235), (5, 2), (5, 5), (5, 8), (5, 12), (5, 17), (5, 21), (5, 25), (5, 29), (5, 120), (2, 238), (3, 7), (3, 153), (3, 144), (3, 161), (5, 126), (6, 13), (6, 24), (7, 26), (6, 110), (6, 179), (6, 106), (6, 67), (6, 17), (6, 21), (6, 36), (6, 32), (6, 52), (6, 40), (6, 44), (6, 56), (6, 91), (6, 48), (6, 95), (6, 60), (6, 28), (6, 64), (6, 122), (6, 75), (6, 79), (6, 83), (6, 98), (6, 87), (6, 71), (6, 206), (6, 202), (6, 142), (6, 139), (6, 194), (6, 118), (6, 154), (6, 158), (7, 19), (6, 102), (6, 114), (6, 126), (6, 130), (6, 165), (6, 162), (6, 175), (6, 172), (6, 136), (6, 150), (6, 169), (6, 146), (6, 183), (6, 191), (6, 198), (6, 187), (6, 210), (6, 214), (6, 222), (6, 218), (6, 226), (6, 230), (6, 234), (6, 238), (7, 2), (7, 6), (7, 11), (7, 15), (7, 23), (7, 30), (7, 34), (7, 38), (7, 50), (7, 46), (7, 42), (7, 67), (7, 71), (7, 63), (7, 75), (7, 59), (7, 55), (7, 79), (7, 83), (7, 87), (7, 96), (7, 92), (7, 100), (7, 108), (7, 104), (7, 117), (7, 112), (7, 121), (7, 125), (7, 148), (7, 151), (7, 140), (7, 144), (7, 136), (7, 132), (7, 129), (7, 156), (7, 160), (7, 169), (7, 165), (7, 176), (7, 173), (7, 186), (7, 183), (7, 180), (7, 190), (7, 198), (7, 202), (7, 206), (7, 210), (7, 194), (4, 87), (3, 80), (3, 177), (1, 165), (4, 238), (1, 168)]
def gt_yp : List MethodName := [
  ⟨"java/lang/String", "length", "()I"⟩,
  ⟨"java/lang/String", "charAt", "(I)C"⟩,
  ⟨"java/lang/String", "indexOf", "(I)I"⟩]
def gt_pp : List (Nat × Nat) := [(1, 83), (1, 93), (1, 151)]
def gt_p (j : Nat) : Nat × Nat := if j < 900 then gt_pl.getD j (99, 0) else gt_pp.getD (j - 1000) (99, 0)
def gt_y (j : Nat) : MethodName := if j < 900 then gt_yl.getD j ⟨"", "", ""⟩ else if j = 900 then x else gt_yp.getD (j - 1000) ⟨"", "", ""⟩
def gt_b (j : Nat) : ByteArray := if j = 900 then code else gt_cb (gt_at (gt_p j))
