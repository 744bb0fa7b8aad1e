section
-- ===== PART A: goes FIRST, ahead of the names: the tables' words, and 'selects' of the private methods out of them =====
/-- a private method of a class that the tables say can be made, by its rows of tables_1 -/
def lw_okq (q : MethodName × Nat) : Prop := (q.1.cls ≠ "java/lang/invoke/MethodHandle" ∧ q.1.cls ≠ "java/lang/invoke/VarHandle") ∧ Cond.instantiable q.1.cls q.2 ∈ tables_1 ∧ Cond.privateMethod q.1 ∈ tables_1 ∧ Cond.instanceMethod q.1 ∈ tables_1
theorem lw_p0 : lw_okq (⟨"NineHouses", "startAnew", "()V"⟩, 17) := ⟨⟨by decide +kernel, by decide +kernel⟩, List.mem_of_getElem? (i := 20) (by decide +kernel), List.mem_of_getElem? (i := 282) (by decide +kernel), List.mem_of_getElem? (i := 283) (by decide +kernel)⟩
theorem lw_p1 : lw_okq (⟨"NineHouses$Parish", "forget", "()V"⟩, 10) := ⟨⟨by decide +kernel, by decide +kernel⟩, List.mem_of_getElem? (i := 182) (by decide +kernel), List.mem_of_getElem? (i := 368) (by decide +kernel), List.mem_of_getElem? (i := 369) (by decide +kernel)⟩
theorem lw_p2 : lw_okq (⟨"NineHouses$Text", "skipBlanks", "()V"⟩, 6) := ⟨⟨by decide +kernel, by decide +kernel⟩, List.mem_of_getElem? (i := 28) (by decide +kernel), List.mem_of_getElem? (i := 377) (by decide +kernel), List.mem_of_getElem? (i := 378) (by decide +kernel)⟩
theorem lw_p3 : lw_okq (⟨"NineHouses$Parish", "learnHouse", "(LNineHouses$Text;)V"⟩, 10) := ⟨⟨by decide +kernel, by decide +kernel⟩, List.mem_of_getElem? (i := 182) (by decide +kernel), List.mem_of_getElem? (i := 441) (by decide +kernel), List.mem_of_getElem? (i := 442) (by decide +kernel)⟩
theorem lw_p4 : lw_okq (⟨"NineHouses$Parish", "learnWay", "(LNineHouses$Text;)V"⟩, 10) := ⟨⟨by decide +kernel, by decide +kernel⟩, List.mem_of_getElem? (i := 182) (by decide +kernel), List.mem_of_getElem? (i := 470) (by decide +kernel), List.mem_of_getElem? (i := 471) (by decide +kernel)⟩
theorem lw_p5 : lw_okq (⟨"NineHouses$Parish", "learnPart", "(LNineHouses$Text;)V"⟩, 10) := ⟨⟨by decide +kernel, by decide +kernel⟩, List.mem_of_getElem? (i := 182) (by decide +kernel), List.mem_of_getElem? (i := 476) (by decide +kernel), List.mem_of_getElem? (i := 477) (by decide +kernel)⟩
theorem lw_p6 : lw_okq (⟨"NineHouses$Parish", "learnBehind", "(LNineHouses$Text;)I"⟩, 10) := ⟨⟨by decide +kernel, by decide +kernel⟩, List.mem_of_getElem? (i := 182) (by decide +kernel), List.mem_of_getElem? (i := 481) (by decide +kernel), List.mem_of_getElem? (i := 482) (by decide +kernel)⟩
theorem lw_p7 : lw_okq (⟨"NineHouses$Parish", "shortenWays", "()V"⟩, 10) := ⟨⟨by decide +kernel, by decide +kernel⟩, List.mem_of_getElem? (i := 182) (by decide +kernel), List.mem_of_getElem? (i := 490) (by decide +kernel), List.mem_of_getElem? (i := 491) (by decide +kernel)⟩
theorem lw_p8 : lw_okq (⟨"NineHouses$Plan", "learnWake", "(LNineHouses$Text;I)V"⟩, 3) := ⟨⟨by decide +kernel, by decide +kernel⟩, List.mem_of_getElem? (i := 143) (by decide +kernel), List.mem_of_getElem? (i := 511) (by decide +kernel), List.mem_of_getElem? (i := 512) (by decide +kernel)⟩
theorem lw_p9 : lw_okq (⟨"NineHouses$Plan", "isWoken", "(I)Z"⟩, 3) := ⟨⟨by decide +kernel, by decide +kernel⟩, List.mem_of_getElem? (i := 143) (by decide +kernel), List.mem_of_getElem? (i := 518) (by decide +kernel), List.mem_of_getElem? (i := 519) (by decide +kernel)⟩
theorem lw_p10 : lw_okq (⟨"NineHouses", "countLogged", "()I"⟩, 17) := ⟨⟨by decide +kernel, by decide +kernel⟩, List.mem_of_getElem? (i := 20) (by decide +kernel), List.mem_of_getElem? (i := 532) (by decide +kernel), List.mem_of_getElem? (i := 533) (by decide +kernel)⟩
theorem lw_p11 : lw_okq (⟨"NineHouses", "noHouse", "(I)Z"⟩, 17) := ⟨⟨by decide +kernel, by decide +kernel⟩, List.mem_of_getElem? (i := 20) (by decide +kernel), List.mem_of_getElem? (i := 540) (by decide +kernel), List.mem_of_getElem? (i := 541) (by decide +kernel)⟩
theorem lw_p12 : lw_okq (⟨"NineHouses", "noPart", "(I)Z"⟩, 17) := ⟨⟨by decide +kernel, by decide +kernel⟩, List.mem_of_getElem? (i := 20) (by decide +kernel), List.mem_of_getElem? (i := 557) (by decide +kernel), List.mem_of_getElem? (i := 558) (by decide +kernel)⟩
theorem lw_p13 : lw_okq (⟨"NineHouses", "wakeAll", "(I)V"⟩, 17) := ⟨⟨by decide +kernel, by decide +kernel⟩, List.mem_of_getElem? (i := 20) (by decide +kernel), List.mem_of_getElem? (i := 575) (by decide +kernel), List.mem_of_getElem? (i := 576) (by decide +kernel)⟩
theorem lw_p14 : lw_okq (⟨"NineHouses$Waking", "rouse", "(II)V"⟩, 5) := ⟨⟨by decide +kernel, by decide +kernel⟩, List.mem_of_getElem? (i := 88) (by decide +kernel), List.mem_of_getElem? (i := 584) (by decide +kernel), List.mem_of_getElem? (i := 585) (by decide +kernel)⟩
theorem lw_p15 : lw_okq (⟨"NineHouses$Waking", "goRound", "(LNineHouses$Parish;LNineHouses$Plan;III)V"⟩, 5) := ⟨⟨by decide +kernel, by decide +kernel⟩, List.mem_of_getElem? (i := 88) (by decide +kernel), List.mem_of_getElem? (i := 588) (by decide +kernel), List.mem_of_getElem? (i := 589) (by decide +kernel)⟩
def lw_privs_1 : List (MethodName × Nat) := [(⟨"NineHouses", "startAnew", "()V"⟩, 17), (⟨"NineHouses$Parish", "forget", "()V"⟩, 10), (⟨"NineHouses$Text", "skipBlanks", "()V"⟩, 6), (⟨"NineHouses$Parish", "learnHouse", "(LNineHouses$Text;)V"⟩, 10), (⟨"NineHouses$Parish", "learnWay", "(LNineHouses$Text;)V"⟩, 10), (⟨"NineHouses$Parish", "learnPart", "(LNineHouses$Text;)V"⟩, 10), (⟨"NineHouses$Parish", "learnBehind", "(LNineHouses$Text;)I"⟩, 10), (⟨"NineHouses$Parish", "shortenWays", "()V"⟩, 10), (⟨"NineHouses$Plan", "learnWake", "(LNineHouses$Text;I)V"⟩, 3), (⟨"NineHouses$Plan", "isWoken", "(I)Z"⟩, 3), (⟨"NineHouses", "countLogged", "()I"⟩, 17), (⟨"NineHouses", "noHouse", "(I)Z"⟩, 17), (⟨"NineHouses", "noPart", "(I)Z"⟩, 17), (⟨"NineHouses", "wakeAll", "(I)V"⟩, 17), (⟨"NineHouses$Waking", "rouse", "(II)V"⟩, 5), (⟨"NineHouses$Waking", "goRound", "(LNineHouses$Parish;LNineHouses$Plan;III)V"⟩, 5)]
theorem lw_r1 : ∀ q ∈ lw_privs_1, lw_okq q := List.forall_mem_cons.mpr ⟨lw_p0, List.forall_mem_cons.mpr ⟨lw_p1, List.forall_mem_cons.mpr ⟨lw_p2, List.forall_mem_cons.mpr ⟨lw_p3, List.forall_mem_cons.mpr ⟨lw_p4, List.forall_mem_cons.mpr ⟨lw_p5, List.forall_mem_cons.mpr ⟨lw_p6, List.forall_mem_cons.mpr ⟨lw_p7, List.forall_mem_cons.mpr ⟨lw_p8, List.forall_mem_cons.mpr ⟨lw_p9, List.forall_mem_cons.mpr ⟨lw_p10, List.forall_mem_cons.mpr ⟨lw_p11, List.forall_mem_cons.mpr ⟨lw_p12, List.forall_mem_cons.mpr ⟨lw_p13, List.forall_mem_cons.mpr ⟨lw_p14, List.forall_mem_cons.mpr ⟨lw_p15, fun _ h => absurd h List.not_mem_nil⟩⟩⟩⟩⟩⟩⟩⟩⟩⟩⟩⟩⟩⟩⟩⟩
theorem lw_p16 : lw_okq (⟨"NineHouses", "raiseAll", "(II)I"⟩, 17) := ⟨⟨by decide +kernel, by decide +kernel⟩, List.mem_of_getElem? (i := 20) (by decide +kernel), List.mem_of_getElem? (i := 605) (by decide +kernel), List.mem_of_getElem? (i := 606) (by decide +kernel)⟩
theorem lw_p17 : lw_okq (⟨"NineHouses$Raising", "makeReady", "(LNineHouses$Parish;I)V"⟩, 5) := ⟨⟨by decide +kernel, by decide +kernel⟩, List.mem_of_getElem? (i := 111) (by decide +kernel), List.mem_of_getElem? (i := 624) (by decide +kernel), List.mem_of_getElem? (i := 625) (by decide +kernel)⟩
theorem lw_p18 : lw_okq (⟨"NineHouses$Raising", "queueUp", "(I)V"⟩, 5) := ⟨⟨by decide +kernel, by decide +kernel⟩, List.mem_of_getElem? (i := 111) (by decide +kernel), List.mem_of_getElem? (i := 631) (by decide +kernel), List.mem_of_getElem? (i := 632) (by decide +kernel)⟩
theorem lw_p19 : lw_okq (⟨"NineHouses$Raising", "putAll", "(LNineHouses$Parish;)I"⟩, 5) := ⟨⟨by decide +kernel, by decide +kernel⟩, List.mem_of_getElem? (i := 111) (by decide +kernel), List.mem_of_getElem? (i := 635) (by decide +kernel), List.mem_of_getElem? (i := 636) (by decide +kernel)⟩
theorem lw_p20 : lw_okq (⟨"NineHouses$Crier", "turnToNext", "()Z"⟩, 4) := ⟨⟨by decide +kernel, by decide +kernel⟩, List.mem_of_getElem? (i := 137) (by decide +kernel), List.mem_of_getElem? (i := 697) (by decide +kernel), List.mem_of_getElem? (i := 698) (by decide +kernel)⟩
theorem lw_p21 : lw_okq (⟨"NineHouses$Moves", "isInTime", "()Z"⟩, 9) := ⟨⟨by decide +kernel, by decide +kernel⟩, List.mem_of_getElem? (i := 245) (by decide +kernel), List.mem_of_getElem? (i := 717) (by decide +kernel), List.mem_of_getElem? (i := 718) (by decide +kernel)⟩
theorem lw_p22 : lw_okq (⟨"NineHouses$Moves", "isInTimeAt", "(I)Z"⟩, 9) := ⟨⟨by decide +kernel, by decide +kernel⟩, List.mem_of_getElem? (i := 245) (by decide +kernel), List.mem_of_getElem? (i := 721) (by decide +kernel), List.mem_of_getElem? (i := 722) (by decide +kernel)⟩
theorem lw_p23 : lw_okq (⟨"NineHouses$Moves", "moveOne", "(II)Z"⟩, 9) := ⟨⟨by decide +kernel, by decide +kernel⟩, List.mem_of_getElem? (i := 245) (by decide +kernel), List.mem_of_getElem? (i := 728) (by decide +kernel), List.mem_of_getElem? (i := 729) (by decide +kernel)⟩
theorem lw_p24 : lw_okq (⟨"NineHouses$Moves", "hold", "(III)V"⟩, 9) := ⟨⟨by decide +kernel, by decide +kernel⟩, List.mem_of_getElem? (i := 245) (by decide +kernel), List.mem_of_getElem? (i := 732) (by decide +kernel), List.mem_of_getElem? (i := 733) (by decide +kernel)⟩
theorem lw_p25 : lw_okq (⟨"NineHouses$Moves", "moveTwo", "()Z"⟩, 9) := ⟨⟨by decide +kernel, by decide +kernel⟩, List.mem_of_getElem? (i := 245) (by decide +kernel), List.mem_of_getElem? (i := 736) (by decide +kernel), List.mem_of_getElem? (i := 737) (by decide +kernel)⟩
theorem lw_p26 : lw_okq (⟨"NineHouses", "countWays", "(I)V"⟩, 17) := ⟨⟨by decide +kernel, by decide +kernel⟩, List.mem_of_getElem? (i := 20) (by decide +kernel), List.mem_of_getElem? (i := 770) (by decide +kernel), List.mem_of_getElem? (i := 771) (by decide +kernel)⟩
theorem lw_p27 : lw_okq (⟨"NineHouses", "standsWith", "(II)I"⟩, 17) := ⟨⟨by decide +kernel, by decide +kernel⟩, List.mem_of_getElem? (i := 20) (by decide +kernel), List.mem_of_getElem? (i := 794) (by decide +kernel), List.mem_of_getElem? (i := 795) (by decide +kernel)⟩
theorem lw_p28 : lw_okq (⟨"NineHouses", "costOf", "(I)I"⟩, 17) := ⟨⟨by decide +kernel, by decide +kernel⟩, List.mem_of_getElem? (i := 20) (by decide +kernel), List.mem_of_getElem? (i := 798) (by decide +kernel), List.mem_of_getElem? (i := 799) (by decide +kernel)⟩
theorem lw_p29 : lw_okq (⟨"NineHouses", "lateBy", "(II)I"⟩, 17) := ⟨⟨by decide +kernel, by decide +kernel⟩, List.mem_of_getElem? (i := 20) (by decide +kernel), List.mem_of_getElem? (i := 824) (by decide +kernel), List.mem_of_getElem? (i := 825) (by decide +kernel)⟩
theorem lw_p30 : lw_okq (⟨"NineHouses", "findLatest", "()I"⟩, 17) := ⟨⟨by decide +kernel, by decide +kernel⟩, List.mem_of_getElem? (i := 20) (by decide +kernel), List.mem_of_getElem? (i := 832) (by decide +kernel), List.mem_of_getElem? (i := 833) (by decide +kernel)⟩
theorem lw_p31 : lw_okq (⟨"NineHouses", "standsByLog", "()I"⟩, 17) := ⟨⟨by decide +kernel, by decide +kernel⟩, List.mem_of_getElem? (i := 20) (by decide +kernel), List.mem_of_getElem? (i := 836) (by decide +kernel), List.mem_of_getElem? (i := 837) (by decide +kernel)⟩
def lw_privs_2 : List (MethodName × Nat) := [(⟨"NineHouses", "raiseAll", "(II)I"⟩, 17), (⟨"NineHouses$Raising", "makeReady", "(LNineHouses$Parish;I)V"⟩, 5), (⟨"NineHouses$Raising", "queueUp", "(I)V"⟩, 5), (⟨"NineHouses$Raising", "putAll", "(LNineHouses$Parish;)I"⟩, 5), (⟨"NineHouses$Crier", "turnToNext", "()Z"⟩, 4), (⟨"NineHouses$Moves", "isInTime", "()Z"⟩, 9), (⟨"NineHouses$Moves", "isInTimeAt", "(I)Z"⟩, 9), (⟨"NineHouses$Moves", "moveOne", "(II)Z"⟩, 9), (⟨"NineHouses$Moves", "hold", "(III)V"⟩, 9), (⟨"NineHouses$Moves", "moveTwo", "()Z"⟩, 9), (⟨"NineHouses", "countWays", "(I)V"⟩, 17), (⟨"NineHouses", "standsWith", "(II)I"⟩, 17), (⟨"NineHouses", "costOf", "(I)I"⟩, 17), (⟨"NineHouses", "lateBy", "(II)I"⟩, 17), (⟨"NineHouses", "findLatest", "()I"⟩, 17), (⟨"NineHouses", "standsByLog", "()I"⟩, 17)]
theorem lw_r2 : ∀ q ∈ lw_privs_2, lw_okq q := List.forall_mem_cons.mpr ⟨lw_p16, List.forall_mem_cons.mpr ⟨lw_p17, List.forall_mem_cons.mpr ⟨lw_p18, List.forall_mem_cons.mpr ⟨lw_p19, List.forall_mem_cons.mpr ⟨lw_p20, List.forall_mem_cons.mpr ⟨lw_p21, List.forall_mem_cons.mpr ⟨lw_p22, List.forall_mem_cons.mpr ⟨lw_p23, List.forall_mem_cons.mpr ⟨lw_p24, List.forall_mem_cons.mpr ⟨lw_p25, List.forall_mem_cons.mpr ⟨lw_p26, List.forall_mem_cons.mpr ⟨lw_p27, List.forall_mem_cons.mpr ⟨lw_p28, List.forall_mem_cons.mpr ⟨lw_p29, List.forall_mem_cons.mpr ⟨lw_p30, List.forall_mem_cons.mpr ⟨lw_p31, fun _ h => absurd h List.not_mem_nil⟩⟩⟩⟩⟩⟩⟩⟩⟩⟩⟩⟩⟩⟩⟩⟩
theorem lw_p32 : lw_okq (⟨"NineHousesModel", "beginReading", "()V"⟩, 39) := ⟨⟨by decide +kernel, by decide +kernel⟩, List.mem_of_getElem? (i := 857) (by decide +kernel), List.mem_of_getElem? (i := 997) (by decide +kernel), List.mem_of_getElem? (i := 998) (by decide +kernel)⟩
theorem lw_p33 : lw_okq (⟨"NineHousesModel", "here", "()I"⟩, 39) := ⟨⟨by decide +kernel, by decide +kernel⟩, List.mem_of_getElem? (i := 857) (by decide +kernel), List.mem_of_getElem? (i := 1001) (by decide +kernel), List.mem_of_getElem? (i := 1002) (by decide +kernel)⟩
theorem lw_p34 : lw_okq (⟨"NineHousesModel", "takeClause", "()V"⟩, 39) := ⟨⟨by decide +kernel, by decide +kernel⟩, List.mem_of_getElem? (i := 857) (by decide +kernel), List.mem_of_getElem? (i := 1005) (by decide +kernel), List.mem_of_getElem? (i := 1006) (by decide +kernel)⟩
theorem lw_p35 : lw_okq (⟨"NineHousesModel", "takeWord", "()V"⟩, 39) := ⟨⟨by decide +kernel, by decide +kernel⟩, List.mem_of_getElem? (i := 857) (by decide +kernel), List.mem_of_getElem? (i := 1009) (by decide +kernel), List.mem_of_getElem? (i := 1010) (by decide +kernel)⟩
theorem lw_p36 : lw_okq (⟨"NineHousesModel", "isWord", "(IIIIII)Z"⟩, 39) := ⟨⟨by decide +kernel, by decide +kernel⟩, List.mem_of_getElem? (i := 857) (by decide +kernel), List.mem_of_getElem? (i := 1015) (by decide +kernel), List.mem_of_getElem? (i := 1016) (by decide +kernel)⟩
theorem lw_p37 : lw_okq (⟨"NineHousesModel", "takeHouse", "(I)V"⟩, 39) := ⟨⟨by decide +kernel, by decide +kernel⟩, List.mem_of_getElem? (i := 857) (by decide +kernel), List.mem_of_getElem? (i := 1019) (by decide +kernel), List.mem_of_getElem? (i := 1020) (by decide +kernel)⟩
theorem lw_p38 : lw_okq (⟨"NineHousesModel", "want", "(ZII)Z"⟩, 39) := ⟨⟨by decide +kernel, by decide +kernel⟩, List.mem_of_getElem? (i := 857) (by decide +kernel), List.mem_of_getElem? (i := 1023) (by decide +kernel), List.mem_of_getElem? (i := 1024) (by decide +kernel)⟩
theorem lw_p39 : lw_okq (⟨"NineHousesModel", "takeNumber", "(II)I"⟩, 39) := ⟨⟨by decide +kernel, by decide +kernel⟩, List.mem_of_getElem? (i := 857) (by decide +kernel), List.mem_of_getElem? (i := 1027) (by decide +kernel), List.mem_of_getElem? (i := 1028) (by decide +kernel)⟩
theorem lw_p40 : lw_okq (⟨"NineHousesModel", "takeWay", "()V"⟩, 39) := ⟨⟨by decide +kernel, by decide +kernel⟩, List.mem_of_getElem? (i := 857) (by decide +kernel), List.mem_of_getElem? (i := 1034) (by decide +kernel), List.mem_of_getElem? (i := 1035) (by decide +kernel)⟩
theorem lw_p41 : lw_okq (⟨"NineHousesModel", "takePart", "(I)V"⟩, 39) := ⟨⟨by decide +kernel, by decide +kernel⟩, List.mem_of_getElem? (i := 857) (by decide +kernel), List.mem_of_getElem? (i := 1038) (by decide +kernel), List.mem_of_getElem? (i := 1039) (by decide +kernel)⟩
theorem lw_p42 : lw_okq (⟨"NineHousesModel", "takeEnd", "()V"⟩, 39) := ⟨⟨by decide +kernel, by decide +kernel⟩, List.mem_of_getElem? (i := 857) (by decide +kernel), List.mem_of_getElem? (i := 1048) (by decide +kernel), List.mem_of_getElem? (i := 1049) (by decide +kernel)⟩
theorem lw_p43 : lw_okq (⟨"NineHousesModel", "findFar", "()V"⟩, 39) := ⟨⟨by decide +kernel, by decide +kernel⟩, List.mem_of_getElem? (i := 857) (by decide +kernel), List.mem_of_getElem? (i := 1052) (by decide +kernel), List.mem_of_getElem? (i := 1053) (by decide +kernel)⟩
theorem lw_p44 : lw_okq (⟨"NineHousesModel", "isHouse", "(I)Z"⟩, 39) := ⟨⟨by decide +kernel, by decide +kernel⟩, List.mem_of_getElem? (i := 857) (by decide +kernel), List.mem_of_getElem? (i := 1076) (by decide +kernel), List.mem_of_getElem? (i := 1077) (by decide +kernel)⟩
theorem lw_p45 : lw_okq (⟨"NineHousesModel", "partsAt", "(I)I"⟩, 39) := ⟨⟨by decide +kernel, by decide +kernel⟩, List.mem_of_getElem? (i := 857) (by decide +kernel), List.mem_of_getElem? (i := 1082) (by decide +kernel), List.mem_of_getElem? (i := 1083) (by decide +kernel)⟩
theorem lw_p46 : lw_okq (⟨"NineHousesModel", "farOf", "(II)I"⟩, 39) := ⟨⟨by decide +kernel, by decide +kernel⟩, List.mem_of_getElem? (i := 857) (by decide +kernel), List.mem_of_getElem? (i := 1090) (by decide +kernel), List.mem_of_getElem? (i := 1091) (by decide +kernel)⟩
theorem lw_p47 : lw_okq (⟨"NineHousesModel", "isPart", "(I)Z"⟩, 39) := ⟨⟨by decide +kernel, by decide +kernel⟩, List.mem_of_getElem? (i := 857) (by decide +kernel), List.mem_of_getElem? (i := 1098) (by decide +kernel), List.mem_of_getElem? (i := 1099) (by decide +kernel)⟩
def lw_privs_3 : List (MethodName × Nat) := [(⟨"NineHousesModel", "beginReading", "()V"⟩, 39), (⟨"NineHousesModel", "here", "()I"⟩, 39), (⟨"NineHousesModel", "takeClause", "()V"⟩, 39), (⟨"NineHousesModel", "takeWord", "()V"⟩, 39), (⟨"NineHousesModel", "isWord", "(IIIIII)Z"⟩, 39), (⟨"NineHousesModel", "takeHouse", "(I)V"⟩, 39), (⟨"NineHousesModel", "want", "(ZII)Z"⟩, 39), (⟨"NineHousesModel", "takeNumber", "(II)I"⟩, 39), (⟨"NineHousesModel", "takeWay", "()V"⟩, 39), (⟨"NineHousesModel", "takePart", "(I)V"⟩, 39), (⟨"NineHousesModel", "takeEnd", "()V"⟩, 39), (⟨"NineHousesModel", "findFar", "()V"⟩, 39), (⟨"NineHousesModel", "isHouse", "(I)Z"⟩, 39), (⟨"NineHousesModel", "partsAt", "(I)I"⟩, 39), (⟨"NineHousesModel", "farOf", "(II)I"⟩, 39), (⟨"NineHousesModel", "isPart", "(I)Z"⟩, 39)]
theorem lw_r3 : ∀ q ∈ lw_privs_3, lw_okq q := List.forall_mem_cons.mpr ⟨lw_p32, List.forall_mem_cons.mpr ⟨lw_p33, List.forall_mem_cons.mpr ⟨lw_p34, List.forall_mem_cons.mpr ⟨lw_p35, List.forall_mem_cons.mpr ⟨lw_p36, List.forall_mem_cons.mpr ⟨lw_p37, List.forall_mem_cons.mpr ⟨lw_p38, List.forall_mem_cons.mpr ⟨lw_p39, List.forall_mem_cons.mpr ⟨lw_p40, List.forall_mem_cons.mpr ⟨lw_p41, List.forall_mem_cons.mpr ⟨lw_p42, List.forall_mem_cons.mpr ⟨lw_p43, List.forall_mem_cons.mpr ⟨lw_p44, List.forall_mem_cons.mpr ⟨lw_p45, List.forall_mem_cons.mpr ⟨lw_p46, List.forall_mem_cons.mpr ⟨lw_p47, fun _ h => absurd h List.not_mem_nil⟩⟩⟩⟩⟩⟩⟩⟩⟩⟩⟩⟩⟩⟩⟩⟩
theorem lw_p48 : lw_okq (⟨"NineHousesModel", "burn", "(III)V"⟩, 39) := ⟨⟨by decide +kernel, by decide +kernel⟩, List.mem_of_getElem? (i := 857) (by decide +kernel), List.mem_of_getElem? (i := 1110) (by decide +kernel), List.mem_of_getElem? (i := 1111) (by decide +kernel)⟩
theorem lw_p49 : lw_okq (⟨"NineHousesModel", "begin", "(I)V"⟩, 39) := ⟨⟨by decide +kernel, by decide +kernel⟩, List.mem_of_getElem? (i := 857) (by decide +kernel), List.mem_of_getElem? (i := 1114) (by decide +kernel), List.mem_of_getElem? (i := 1115) (by decide +kernel)⟩
theorem lw_p50 : lw_okq (⟨"NineHousesModel", "goRound", "(IIIII)V"⟩, 39) := ⟨⟨by decide +kernel, by decide +kernel⟩, List.mem_of_getElem? (i := 857) (by decide +kernel), List.mem_of_getElem? (i := 1118) (by decide +kernel), List.mem_of_getElem? (i := 1119) (by decide +kernel)⟩
theorem lw_p51 : lw_okq (⟨"NineHousesModel", "arriveAwake", "(I)V"⟩, 39) := ⟨⟨by decide +kernel, by decide +kernel⟩, List.mem_of_getElem? (i := 857) (by decide +kernel), List.mem_of_getElem? (i := 1125) (by decide +kernel), List.mem_of_getElem? (i := 1126) (by decide +kernel)⟩
theorem lw_p52 : lw_okq (⟨"NineHousesModel", "comeAll", "()V"⟩, 39) := ⟨⟨by decide +kernel, by decide +kernel⟩, List.mem_of_getElem? (i := 857) (by decide +kernel), List.mem_of_getElem? (i := 1133) (by decide +kernel), List.mem_of_getElem? (i := 1134) (by decide +kernel)⟩
theorem lw_p53 : lw_okq (⟨"NineHousesModel", "standsBy", "(III)I"⟩, 39) := ⟨⟨by decide +kernel, by decide +kernel⟩, List.mem_of_getElem? (i := 857) (by decide +kernel), List.mem_of_getElem? (i := 1141) (by decide +kernel), List.mem_of_getElem? (i := 1142) (by decide +kernel)⟩
theorem lw_p54 : lw_okq (⟨"NineHousesModel", "allParts", "()I"⟩, 39) := ⟨⟨by decide +kernel, by decide +kernel⟩, List.mem_of_getElem? (i := 857) (by decide +kernel), List.mem_of_getElem? (i := 1145) (by decide +kernel), List.mem_of_getElem? (i := 1146) (by decide +kernel)⟩
theorem lw_p55 : lw_okq (⟨"NineHousesModel", "putIn", "(I)I"⟩, 39) := ⟨⟨by decide +kernel, by decide +kernel⟩, List.mem_of_getElem? (i := 857) (by decide +kernel), List.mem_of_getElem? (i := 1149) (by decide +kernel), List.mem_of_getElem? (i := 1150) (by decide +kernel)⟩
theorem lw_p56 : lw_okq (⟨"NineHousesModel", "oddsOf", "(III)J"⟩, 39) := ⟨⟨by decide +kernel, by decide +kernel⟩, List.mem_of_getElem? (i := 857) (by decide +kernel), List.mem_of_getElem? (i := 1166) (by decide +kernel), List.mem_of_getElem? (i := 1167) (by decide +kernel)⟩
theorem lw_p57 : lw_okq (⟨"NineHousesModel", "draw", "(I)I"⟩, 39) := ⟨⟨by decide +kernel, by decide +kernel⟩, List.mem_of_getElem? (i := 857) (by decide +kernel), List.mem_of_getElem? (i := 1180) (by decide +kernel), List.mem_of_getElem? (i := 1181) (by decide +kernel)⟩
theorem lw_p58 : lw_okq (⟨"NineHousesModel", "cried", "(II)I"⟩, 39) := ⟨⟨by decide +kernel, by decide +kernel⟩, List.mem_of_getElem? (i := 857) (by decide +kernel), List.mem_of_getElem? (i := 1192) (by decide +kernel), List.mem_of_getElem? (i := 1193) (by decide +kernel)⟩
theorem lw_p59 : lw_okq (⟨"NineHousesModel", "nextRound", "()Z"⟩, 39) := ⟨⟨by decide +kernel, by decide +kernel⟩, List.mem_of_getElem? (i := 857) (by decide +kernel), List.mem_of_getElem? (i := 1196) (by decide +kernel), List.mem_of_getElem? (i := 1197) (by decide +kernel)⟩
theorem lw_p60 : lw_okq (⟨"NineHousesModel", "findMoved", "(II)I"⟩, 39) := ⟨⟨by decide +kernel, by decide +kernel⟩, List.mem_of_getElem? (i := 857) (by decide +kernel), List.mem_of_getElem? (i := 1210) (by decide +kernel), List.mem_of_getElem? (i := 1211) (by decide +kernel)⟩
theorem lw_p61 : lw_okq (⟨"NineHousesModel", "holds", "(II)Z"⟩, 39) := ⟨⟨by decide +kernel, by decide +kernel⟩, List.mem_of_getElem? (i := 857) (by decide +kernel), List.mem_of_getElem? (i := 1214) (by decide +kernel), List.mem_of_getElem? (i := 1215) (by decide +kernel)⟩
theorem lw_p62 : lw_okq (⟨"NineHousesModel", "movesTwo", "(III)Z"⟩, 39) := ⟨⟨by decide +kernel, by decide +kernel⟩, List.mem_of_getElem? (i := 857) (by decide +kernel), List.mem_of_getElem? (i := 1218) (by decide +kernel), List.mem_of_getElem? (i := 1219) (by decide +kernel)⟩
theorem lw_p63 : lw_okq (⟨"NineHousesModel", "isParts", "(I)Z"⟩, 39) := ⟨⟨by decide +kernel, by decide +kernel⟩, List.mem_of_getElem? (i := 857) (by decide +kernel), List.mem_of_getElem? (i := 1226) (by decide +kernel), List.mem_of_getElem? (i := 1227) (by decide +kernel)⟩
def lw_privs_4 : List (MethodName × Nat) := [(⟨"NineHousesModel", "burn", "(III)V"⟩, 39), (⟨"NineHousesModel", "begin", "(I)V"⟩, 39), (⟨"NineHousesModel", "goRound", "(IIIII)V"⟩, 39), (⟨"NineHousesModel", "arriveAwake", "(I)V"⟩, 39), (⟨"NineHousesModel", "comeAll", "()V"⟩, 39), (⟨"NineHousesModel", "standsBy", "(III)I"⟩, 39), (⟨"NineHousesModel", "allParts", "()I"⟩, 39), (⟨"NineHousesModel", "putIn", "(I)I"⟩, 39), (⟨"NineHousesModel", "oddsOf", "(III)J"⟩, 39), (⟨"NineHousesModel", "draw", "(I)I"⟩, 39), (⟨"NineHousesModel", "cried", "(II)I"⟩, 39), (⟨"NineHousesModel", "nextRound", "()Z"⟩, 39), (⟨"NineHousesModel", "findMoved", "(II)I"⟩, 39), (⟨"NineHousesModel", "holds", "(II)Z"⟩, 39), (⟨"NineHousesModel", "movesTwo", "(III)Z"⟩, 39), (⟨"NineHousesModel", "isParts", "(I)Z"⟩, 39)]
theorem lw_r4 : ∀ q ∈ lw_privs_4, lw_okq q := List.forall_mem_cons.mpr ⟨lw_p48, List.forall_mem_cons.mpr ⟨lw_p49, List.forall_mem_cons.mpr ⟨lw_p50, List.forall_mem_cons.mpr ⟨lw_p51, List.forall_mem_cons.mpr ⟨lw_p52, List.forall_mem_cons.mpr ⟨lw_p53, List.forall_mem_cons.mpr ⟨lw_p54, List.forall_mem_cons.mpr ⟨lw_p55, List.forall_mem_cons.mpr ⟨lw_p56, List.forall_mem_cons.mpr ⟨lw_p57, List.forall_mem_cons.mpr ⟨lw_p58, List.forall_mem_cons.mpr ⟨lw_p59, List.forall_mem_cons.mpr ⟨lw_p60, List.forall_mem_cons.mpr ⟨lw_p61, List.forall_mem_cons.mpr ⟨lw_p62, List.forall_mem_cons.mpr ⟨lw_p63, fun _ h => absurd h List.not_mem_nil⟩⟩⟩⟩⟩⟩⟩⟩⟩⟩⟩⟩⟩⟩⟩⟩
theorem lw_p64 : lw_okq (⟨"NineHousesModel", "reachOf", "(I)I"⟩, 39) := ⟨⟨by decide +kernel, by decide +kernel⟩, List.mem_of_getElem? (i := 857) (by decide +kernel), List.mem_of_getElem? (i := 1230) (by decide +kernel), List.mem_of_getElem? (i := 1231) (by decide +kernel)⟩
theorem lw_p65 : lw_okq (⟨"NineHousesModel", "canBeIn", "(I)I"⟩, 39) := ⟨⟨by decide +kernel, by decide +kernel⟩, List.mem_of_getElem? (i := 857) (by decide +kernel), List.mem_of_getElem? (i := 1234) (by decide +kernel), List.mem_of_getElem? (i := 1235) (by decide +kernel)⟩
theorem lw_p66 : lw_okq (⟨"NineHousesModel", "laddersOf", "(II)I"⟩, 39) := ⟨⟨by decide +kernel, by decide +kernel⟩, List.mem_of_getElem? (i := 857) (by decide +kernel), List.mem_of_getElem? (i := 1251) (by decide +kernel), List.mem_of_getElem? (i := 1252) (by decide +kernel)⟩
theorem lw_p67 : lw_okq (⟨"NineHousesModel", "endAt", "(III)I"⟩, 39) := ⟨⟨by decide +kernel, by decide +kernel⟩, List.mem_of_getElem? (i := 857) (by decide +kernel), List.mem_of_getElem? (i := 1276) (by decide +kernel), List.mem_of_getElem? (i := 1277) (by decide +kernel)⟩
theorem lw_p68 : lw_okq (⟨"NineHousesModel", "lateOf", "(I)I"⟩, 39) := ⟨⟨by decide +kernel, by decide +kernel⟩, List.mem_of_getElem? (i := 857) (by decide +kernel), List.mem_of_getElem? (i := 1292) (by decide +kernel), List.mem_of_getElem? (i := 1293) (by decide +kernel)⟩
theorem lw_p69 : lw_okq (⟨"NineHousesModel", "copy", "(II)V"⟩, 39) := ⟨⟨by decide +kernel, by decide +kernel⟩, List.mem_of_getElem? (i := 857) (by decide +kernel), List.mem_of_getElem? (i := 1308) (by decide +kernel), List.mem_of_getElem? (i := 1309) (by decide +kernel)⟩
def lw_privs_5 : List (MethodName × Nat) := [(⟨"NineHousesModel", "reachOf", "(I)I"⟩, 39), (⟨"NineHousesModel", "canBeIn", "(I)I"⟩, 39), (⟨"NineHousesModel", "laddersOf", "(II)I"⟩, 39), (⟨"NineHousesModel", "endAt", "(III)I"⟩, 39), (⟨"NineHousesModel", "lateOf", "(I)I"⟩, 39), (⟨"NineHousesModel", "copy", "(II)V"⟩, 39)]
theorem lw_r5 : ∀ q ∈ lw_privs_5, lw_okq q := List.forall_mem_cons.mpr ⟨lw_p64, List.forall_mem_cons.mpr ⟨lw_p65, List.forall_mem_cons.mpr ⟨lw_p66, List.forall_mem_cons.mpr ⟨lw_p67, List.forall_mem_cons.mpr ⟨lw_p68, List.forall_mem_cons.mpr ⟨lw_p69, fun _ h => absurd h List.not_mem_nil⟩⟩⟩⟩⟩⟩
def lw_privs : List (MethodName × Nat) := lw_privs_1 ++ (lw_privs_2 ++ (lw_privs_3 ++ (lw_privs_4 ++ (lw_privs_5))))
def lw_tbl : List Cond := k2_sels lw_privs ++ tables_1
theorem lw_privs_ok : ∀ q ∈ lw_privs, lw_okq q := by
  show ∀ q ∈ lw_privs_1 ++ (lw_privs_2 ++ (lw_privs_3 ++ (lw_privs_4 ++ (lw_privs_5)))), lw_okq q
  exact List.forall_mem_append.mpr ⟨lw_r1, List.forall_mem_append.mpr ⟨lw_r2, List.forall_mem_append.mpr ⟨lw_r3, List.forall_mem_append.mpr ⟨lw_r4, lw_r5⟩⟩⟩⟩
end
section
/-! ===== BEGIN words of one list among another's, by their places ===== -/
theorem goodIn_r {big : List Cond} (ws : List Cond) (ps : List Nat) (hp : ws = ps.filterMap (fun i => big[i]?)) (h : ws.all goodWord = true) : GoodIn big ws := by
  intro w hw
  have h1 := List.all_eq_true.mp h w hw
  rw [hp] at hw
  obtain ⟨i, -, hi⟩ := List.mem_filterMap.mp hw
  have hm : w ∈ big := by first | exact List.mem_of_getElem? hi | exact List.getElem?_mem hi
  exact ⟨hm, good_of_word h1⟩
theorem goodIn_app {big a b : List Cond} (ha : GoodIn big a) (hb : GoodIn big b) : GoodIn big (a ++ b) := fun w h => (List.mem_append.mp h).elim (ha w) (hb w)
theorem goodIn_ca {big a b : List Cond} {c : Cond} (ha : GoodIn big (c :: a)) (hb : GoodIn big b) : GoodIn big (c :: (a ++ b)) := fun w h => (List.mem_cons.mp h).elim (fun e => ha w (List.mem_cons.mpr (Or.inl e))) (fun h => (List.mem_append.mp h).elim (fun h => ha w (List.mem_cons.mpr (Or.inr h))) (hb w))
theorem goodIn_sub {big ws : List Cond} (hm : ∀ w ∈ ws, w ∈ big) (h : ws.all goodWord = true) : GoodIn big ws := fun w hw => ⟨hm w hw, good_of_word (List.all_eq_true.mp h w hw)⟩
/-! ===== END ===== -/

def RX0 : String := "NineHouses$Crier"
def TX0 : u_T := fun k => match k with
  | 0 => ("NineHouses$Crier", "plan", "LNineHouses$Plan;", true)
  | 1 => ("NineHouses$Crier", "best", "[I", true)
  | 2 => ("NineHouses$Crier", "stands", "I", false)
  | _ => ("NineHouses$Crier", "first", "I", false)
def tyX0 : Nat → FieldType := fun k => match k with
  | 0 => .object "NineHouses$Plan"
  | 1 => .array .int
  | 2 => .int
  | _ => .int
abbrev wsX00 : List Cond := u_ws RX0 TX0 4
theorem nmX0 : ∀ a, a < 4 → ∀ b, b < 4 → a ≠ b → (TX0 a).2.1 ≠ (TX0 b).2.1 := by decide +kernel
theorem tyX0_ok : ∀ k, k < 4 → parseFieldDescriptor (TX0 k).2.2.1 = some (tyX0 k) := by decide +kernel
abbrev cX0_init : ByteArray := prog_2_method_1_code
def yX0_init : MethodName := ⟨RX0, "<init>", "()V"⟩
abbrev cX0_sendOut : ByteArray := prog_2_method_2_code
def yX0_sendOut : MethodName := ⟨RX0, "sendOut", "(LNineHouses$Parish;LNineHouses$Now;I)Z"⟩
abbrev cX0_search : ByteArray := prog_2_method_3_code
def yX0_search : MethodName := ⟨RX0, "search", "(LNineHouses$Parish;LNineHouses$Now;LNineHouses$Waking;LNineHouses$Raising;I)V"⟩
abbrev cX0_turnToNext : ByteArray := prog_2_method_4_code
def yX0_turnToNext : MethodName := ⟨RX0, "turnToNext", "()Z"⟩
abbrev cX0_swap : ByteArray := prog_2_method_5_code
def yX0_swap : MethodName := ⟨RX0, "swap", "([III)V"⟩
def RX1 : String := "NineHouses$Moves"
def TX1 : u_T := fun k => match k with
  | 0 => ("NineHouses$Moves", "count", "I", false)
  | 1 => ("NineHouses$Moves", "part", "[I", true)
  | 2 => ("NineHouses$Moves", "to", "[I", true)
  | 3 => ("NineHouses$Moves", "keptAt", "[I", true)
  | 4 => ("NineHouses$Moves", "waking", "LNineHouses$Waking;", true)
  | 5 => ("NineHouses$Moves", "raising", "LNineHouses$Raising;", true)
  | 6 => ("NineHouses$Moves", "parish", "LNineHouses$Parish;", false)
  | 7 => ("NineHouses$Moves", "minutes", "I", false)
  | _ => ("NineHouses$Moves", "doubtful", "I", false)
def tyX1 : Nat → FieldType := fun k => match k with
  | 0 => .int
  | 1 => .array .int
  | 2 => .array .int
  | 3 => .array .int
  | 4 => .object "NineHouses$Waking"
  | 5 => .object "NineHouses$Raising"
  | 6 => .object "NineHouses$Parish"
  | 7 => .int
  | _ => .int
abbrev wsX10 : List Cond := u_ws RX1 TX1 9
theorem nmX1 : ∀ a, a < 9 → ∀ b, b < 9 → a ≠ b → (TX1 a).2.1 ≠ (TX1 b).2.1 := by decide +kernel
theorem tyX1_ok : ∀ k, k < 9 → parseFieldDescriptor (TX1 k).2.2.1 = some (tyX1 k) := by decide +kernel
abbrev cX1_init : ByteArray := prog_3_method_1_code
def yX1_init : MethodName := ⟨RX1, "<init>", "(LNineHouses$Waking;LNineHouses$Raising;LNineHouses$Parish;)V"⟩
abbrev cX1_find : ByteArray := prog_3_method_2_code
def yX1_find : MethodName := ⟨RX1, "find", "(LNineHouses$Parish;[II)V"⟩
abbrev cX1_moveOne : ByteArray := prog_3_method_3_code
def yX1_moveOne : MethodName := ⟨RX1, "moveOne", "(II)Z"⟩
abbrev cX1_moveTwo : ByteArray := prog_3_method_4_code
def yX1_moveTwo : MethodName := ⟨RX1, "moveTwo", "()Z"⟩
abbrev cX1_hold : ByteArray := prog_3_method_5_code
def yX1_hold : MethodName := ⟨RX1, "hold", "(III)V"⟩
abbrev cX1_isInTime : ByteArray := prog_3_method_6_code
def yX1_isInTime : MethodName := ⟨RX1, "isInTime", "()Z"⟩
abbrev cX1_isInTimeAt : ByteArray := prog_3_method_7_code
def yX1_isInTimeAt : MethodName := ⟨RX1, "isInTimeAt", "(I)Z"⟩
def RX2 : String := "NineHouses$Now"
def TX2 : u_T := fun k => match k with
  | 0 => ("NineHouses$Now", "keptAt", "[I", true)
  | 1 => ("NineHouses$Now", "fits", "[I", true)
  | 2 => ("NineHouses$Now", "away", "I", false)
  | 3 => ("NineHouses$Now", "seed", "I", false)
  | _ => ("NineHouses$Now", "isThere", "Z", false)
def tyX2 : Nat → FieldType := fun k => match k with
  | 0 => .array .int
  | 1 => .array .int
  | 2 => .int
  | 3 => .int
  | _ => .boolean
abbrev wsX20 : List Cond := u_ws RX2 TX2 5
theorem nmX2 : ∀ a, a < 5 → ∀ b, b < 5 → a ≠ b → (TX2 a).2.1 ≠ (TX2 b).2.1 := by decide +kernel
theorem tyX2_ok : ∀ k, k < 5 → parseFieldDescriptor (TX2 k).2.2.1 = some (tyX2 k) := by decide +kernel
abbrev cX2_init : ByteArray := prog_4_method_1_code
def yX2_init : MethodName := ⟨RX2, "<init>", "()V"⟩
abbrev cX2_begin : ByteArray := prog_4_method_2_code
def yX2_begin : MethodName := ⟨RX2, "begin", "(LNineHouses$Parish;)V"⟩
abbrev cX2_becomes : ByteArray := prog_4_method_3_code
def yX2_becomes : MethodName := ⟨RX2, "becomes", "(LNineHouses$Now;)V"⟩
abbrev cX2_partsAt : ByteArray := prog_4_method_4_code
def yX2_partsAt : MethodName := ⟨RX2, "partsAt", "(II)I"⟩
abbrev cX2_draw : ByteArray := prog_4_method_5_code
def yX2_draw : MethodName := ⟨RX2, "draw", "(I)I"⟩
def RX3 : String := "NineHouses$Parish"
def TX3 : u_T := fun k => match k with
  | 0 => ("NineHouses$Parish", "houses", "I", false)
  | 1 => ("NineHouses$Parish", "parts", "I", false)
  | 2 => ("NineHouses$Parish", "wake", "[I", true)
  | 3 => ("NineHouses$Parish", "key", "[I", true)
  | 4 => ("NineHouses$Parish", "odds", "[[I", true)
  | 5 => ("NineHouses$Parish", "far", "[[I", true)
  | 6 => ("NineHouses$Parish", "home", "[I", true)
  | 7 => ("NineHouses$Parish", "minutes", "[I", true)
  | 8 => ("NineHouses$Parish", "gain", "[I", true)
  | _ => ("NineHouses$Parish", "behind", "[I", true)
def tyX3 : Nat → FieldType := fun k => match k with
  | 0 => .int
  | 1 => .int
  | 2 => .array .int
  | 3 => .array .int
  | 4 => .array (.array .int)
  | 5 => .array (.array .int)
  | 6 => .array .int
  | 7 => .array .int
  | 8 => .array .int
  | _ => .array .int
abbrev wsX30 : List Cond := u_ws RX3 TX3 10
theorem nmX3 : ∀ a, a < 10 → ∀ b, b < 10 → a ≠ b → (TX3 a).2.1 ≠ (TX3 b).2.1 := by decide +kernel
theorem tyX3_ok : ∀ k, k < 10 → parseFieldDescriptor (TX3 k).2.2.1 = some (tyX3 k) := by decide +kernel
abbrev cX3_init : ByteArray := prog_5_method_1_code
def yX3_init : MethodName := ⟨RX3, "<init>", "()V"⟩
abbrev cX3_learn : ByteArray := prog_5_method_2_code
def yX3_learn : MethodName := ⟨RX3, "learn", "(LNineHouses$Text;)V"⟩
abbrev cX3_allParts : ByteArray := prog_5_method_3_code
def yX3_allParts : MethodName := ⟨RX3, "allParts", "()I"⟩
abbrev cX3_canBeIn : ByteArray := prog_5_method_4_code
def yX3_canBeIn : MethodName := ⟨RX3, "canBeIn", "(I)I"⟩
abbrev cX3_gainOf : ByteArray := prog_5_method_5_code
def yX3_gainOf : MethodName := ⟨RX3, "gainOf", "(I)I"⟩
abbrev cX3_shareOf : ByteArray := prog_5_method_6_code
def yX3_shareOf : MethodName := ⟨RX3, "shareOf", "(III)J"⟩
abbrev cX3_forget : ByteArray := prog_5_method_7_code
def yX3_forget : MethodName := ⟨RX3, "forget", "()V"⟩
abbrev cX3_learnHouse : ByteArray := prog_5_method_8_code
def yX3_learnHouse : MethodName := ⟨RX3, "learnHouse", "(LNineHouses$Text;)V"⟩
abbrev cX3_learnWay : ByteArray := prog_5_method_9_code
def yX3_learnWay : MethodName := ⟨RX3, "learnWay", "(LNineHouses$Text;)V"⟩
abbrev cX3_learnPart : ByteArray := prog_5_method_10_code
def yX3_learnPart : MethodName := ⟨RX3, "learnPart", "(LNineHouses$Text;)V"⟩
abbrev cX3_learnBehind : ByteArray := prog_5_method_11_code
def yX3_learnBehind : MethodName := ⟨RX3, "learnBehind", "(LNineHouses$Text;)I"⟩
abbrev cX3_shortenWays : ByteArray := prog_5_method_12_code
def yX3_shortenWays : MethodName := ⟨RX3, "shortenWays", "()V"⟩
def RX4 : String := "NineHouses$Plan"
def TX4 : u_T := fun k => match k with
  | 0 => ("NineHouses$Plan", "count", "I", false)
  | 1 => ("NineHouses$Plan", "waker", "[I", true)
  | _ => ("NineHouses$Plan", "woken", "[I", true)
def tyX4 : Nat → FieldType := fun k => match k with
  | 0 => .int
  | 1 => .array .int
  | _ => .array .int
abbrev wsX40 : List Cond := u_ws RX4 TX4 3
theorem nmX4 : ∀ a, a < 3 → ∀ b, b < 3 → a ≠ b → (TX4 a).2.1 ≠ (TX4 b).2.1 := by decide +kernel
theorem tyX4_ok : ∀ k, k < 3 → parseFieldDescriptor (TX4 k).2.2.1 = some (tyX4 k) := by decide +kernel
abbrev cX4_init : ByteArray := prog_6_method_1_code
def yX4_init : MethodName := ⟨RX4, "<init>", "()V"⟩
abbrev cX4_learn : ByteArray := prog_6_method_2_code
def yX4_learn : MethodName := ⟨RX4, "learn", "(LNineHouses$Text;I)V"⟩
abbrev cX4_learnWake : ByteArray := prog_6_method_3_code
def yX4_learnWake : MethodName := ⟨RX4, "learnWake", "(LNineHouses$Text;I)V"⟩
abbrev cX4_isWoken : ByteArray := prog_6_method_4_code
def yX4_isWoken : MethodName := ⟨RX4, "isWoken", "(I)Z"⟩
def RX5 : String := "NineHouses$Raising"
def TX5 : u_T := fun k => match k with
  | 0 => ("NineHouses$Raising", "coming", "[I", true)
  | 1 => ("NineHouses$Raising", "order", "[I", true)
  | 2 => ("NineHouses$Raising", "count", "I", false)
  | 3 => ("NineHouses$Raising", "waitedFor", "I", false)
  | _ => ("NineHouses$Raising", "ready", "[I", true)
def tyX5 : Nat → FieldType := fun k => match k with
  | 0 => .array .int
  | 1 => .array .int
  | 2 => .int
  | 3 => .int
  | _ => .array .int
abbrev wsX50 : List Cond := u_ws RX5 TX5 5
theorem nmX5 : ∀ a, a < 5 → ∀ b, b < 5 → a ≠ b → (TX5 a).2.1 ≠ (TX5 b).2.1 := by decide +kernel
theorem tyX5_ok : ∀ k, k < 5 → parseFieldDescriptor (TX5 k).2.2.1 = some (tyX5 k) := by decide +kernel
abbrev cX5_init : ByteArray := prog_7_method_1_code
def yX5_init : MethodName := ⟨RX5, "<init>", "()V"⟩
abbrev cX5_gather : ByteArray := prog_7_method_2_code
def yX5_gather : MethodName := ⟨RX5, "gather", "(LNineHouses$Parish;LNineHouses$Waking;[II)V"⟩
abbrev cX5_countNever : ByteArray := prog_7_method_3_code
def yX5_countNever : MethodName := ⟨RX5, "countNever", "(I)V"⟩
abbrev cX5_laterThan : ByteArray := prog_7_method_4_code
def yX5_laterThan : MethodName := ⟨RX5, "laterThan", "(II)I"⟩
abbrev cX5_run : ByteArray := prog_7_method_5_code
def yX5_run : MethodName := ⟨RX5, "run", "(LNineHouses$Parish;I)I"⟩
abbrev cX5_makeReady : ByteArray := prog_7_method_6_code
def yX5_makeReady : MethodName := ⟨RX5, "makeReady", "(LNineHouses$Parish;I)V"⟩
abbrev cX5_queueUp : ByteArray := prog_7_method_7_code
def yX5_queueUp : MethodName := ⟨RX5, "queueUp", "(I)V"⟩
abbrev cX5_putAll : ByteArray := prog_7_method_8_code
def yX5_putAll : MethodName := ⟨RX5, "putAll", "(LNineHouses$Parish;)I"⟩
def RX6 : String := "NineHouses$Text"
def TX6 : u_T := fun k => match k with
  | 0 => ("NineHouses$Text", "signs", "[C", true)
  | 1 => ("NineHouses$Text", "length", "I", false)
  | 2 => ("NineHouses$Text", "start", "I", false)
  | 3 => ("NineHouses$Text", "fault", "I", false)
  | 4 => ("NineHouses$Text", "faultAt", "I", false)
  | _ => ("NineHouses$Text", "at", "I", false)
def tyX6 : Nat → FieldType := fun k => match k with
  | 0 => .array .char
  | 1 => .int
  | 2 => .int
  | 3 => .int
  | 4 => .int
  | _ => .int
abbrev wsX60 : List Cond := u_ws RX6 TX6 6
theorem nmX6 : ∀ a, a < 6 → ∀ b, b < 6 → a ≠ b → (TX6 a).2.1 ≠ (TX6 b).2.1 := by decide +kernel
theorem tyX6_ok : ∀ k, k < 6 → parseFieldDescriptor (TX6 k).2.2.1 = some (tyX6 k) := by decide +kernel
abbrev cX6_init : ByteArray := prog_8_method_1_code
def yX6_init : MethodName := ⟨RX6, "<init>", "()V"⟩
abbrev cX6_append : ByteArray := prog_8_method_2_code
def yX6_append : MethodName := ⟨RX6, "append", "(IJ)V"⟩
abbrev cX6_begin : ByteArray := prog_8_method_3_code
def yX6_begin : MethodName := ⟨RX6, "begin", "()V"⟩
abbrev cX6_isSound : ByteArray := prog_8_method_4_code
def yX6_isSound : MethodName := ⟨RX6, "isSound", "()Z"⟩
abbrev cX6_blame : ByteArray := prog_8_method_5_code
def yX6_blame : MethodName := ⟨RX6, "blame", "(II)V"⟩
abbrev cX6_blameHere : ByteArray := prog_8_method_6_code
def yX6_blameHere : MethodName := ⟨RX6, "blameHere", "()V"⟩
abbrev cX6_goesOn : ByteArray := prog_8_method_7_code
def yX6_goesOn : MethodName := ⟨RX6, "goesOn", "()Z"⟩
abbrev cX6_takesWord : ByteArray := prog_8_method_8_code
def yX6_takesWord : MethodName := ⟨RX6, "takesWord", "(Ljava/lang/String;)Z"⟩
abbrev cX6_takesSign : ByteArray := prog_8_method_9_code
def yX6_takesSign : MethodName := ⟨RX6, "takesSign", "(C)Z"⟩
abbrev cX6_endClause : ByteArray := prog_8_method_10_code
def yX6_endClause : MethodName := ⟨RX6, "endClause", "()V"⟩
abbrev cX6_takeNumber : ByteArray := prog_8_method_11_code
def yX6_takeNumber : MethodName := ⟨RX6, "takeNumber", "(II)I"⟩
abbrev cX6_skipBlanks : ByteArray := prog_8_method_12_code
def yX6_skipBlanks : MethodName := ⟨RX6, "skipBlanks", "()V"⟩
abbrev cX6_isLetter : ByteArray := prog_8_method_13_code
def yX6_isLetter : MethodName := ⟨RX6, "isLetter", "(C)Z"⟩
abbrev cX6_isFigure : ByteArray := prog_8_method_14_code
def yX6_isFigure : MethodName := ⟨RX6, "isFigure", "(C)Z"⟩
def RX7 : String := "NineHouses$Waking"
def TX7 : u_T := fun k => match k with
  | 0 => ("NineHouses$Waking", "awake", "[I", true)
  | 1 => ("NineHouses$Waking", "setsOut", "[I", true)
  | 2 => ("NineHouses$Waking", "whence", "[I", true)
  | 3 => ("NineHouses$Waking", "wakers", "[I", true)
  | _ => ("NineHouses$Waking", "count", "I", false)
def tyX7 : Nat → FieldType := fun k => match k with
  | 0 => .array .int
  | 1 => .array .int
  | 2 => .array .int
  | 3 => .array .int
  | _ => .int
abbrev wsX70 : List Cond := u_ws RX7 TX7 5
theorem nmX7 : ∀ a, a < 5 → ∀ b, b < 5 → a ≠ b → (TX7 a).2.1 ≠ (TX7 b).2.1 := by decide +kernel
theorem tyX7_ok : ∀ k, k < 5 → parseFieldDescriptor (TX7 k).2.2.1 = some (tyX7 k) := by decide +kernel
abbrev cX7_init : ByteArray := prog_9_method_1_code
def yX7_init : MethodName := ⟨RX7, "<init>", "()V"⟩
abbrev cX7_run : ByteArray := prog_9_method_2_code
def yX7_run : MethodName := ⟨RX7, "run", "(LNineHouses$Parish;LNineHouses$Plan;II)V"⟩
abbrev cX7_arrival : ByteArray := prog_9_method_3_code
def yX7_arrival : MethodName := ⟨RX7, "arrival", "(LNineHouses$Parish;II)I"⟩
abbrev cX7_rouse : ByteArray := prog_9_method_4_code
def yX7_rouse : MethodName := ⟨RX7, "rouse", "(II)V"⟩
abbrev cX7_goRound : ByteArray := prog_9_method_5_code
def yX7_goRound : MethodName := ⟨RX7, "goRound", "(LNineHouses$Parish;LNineHouses$Plan;III)V"⟩
def RX8 : String := "NineHouses"
def TX8 : u_T := fun k => match k with
  | 0 => ("NineHouses", "text", "LNineHouses$Text;", true)
  | 1 => ("NineHouses", "now", "LNineHouses$Now;", true)
  | 2 => ("NineHouses", "image0", "LNineHouses$Now;", true)
  | 3 => ("NineHouses", "image1", "LNineHouses$Now;", true)
  | 4 => ("NineHouses", "waking", "LNineHouses$Waking;", true)
  | 5 => ("NineHouses", "raising", "LNineHouses$Raising;", true)
  | 6 => ("NineHouses", "beside", "LNineHouses$Raising;", true)
  | 7 => ("NineHouses", "crier", "LNineHouses$Crier;", true)
  | 8 => ("NineHouses", "cost", "[I", true)
  | 9 => ("NineHouses", "logged", "[I", true)
  | 10 => ("NineHouses", "ways", "[I", true)
  | 11 => ("NineHouses", "parish", "LNineHouses$Parish;", false)
  | 12 => ("NineHouses", "unusedParish", "LNineHouses$Parish;", false)
  | 13 => ("NineHouses", "plan", "LNineHouses$Plan;", false)
  | 14 => ("NineHouses", "unusedPlan", "LNineHouses$Plan;", false)
  | 15 => ("NineHouses", "moves", "LNineHouses$Moves;", true)
  | _ => ("NineHouses", "store", "I", false)
def tyX8 : Nat → FieldType := fun k => match k with
  | 0 => .object "NineHouses$Text"
  | 1 => .object "NineHouses$Now"
  | 2 => .object "NineHouses$Now"
  | 3 => .object "NineHouses$Now"
  | 4 => .object "NineHouses$Waking"
  | 5 => .object "NineHouses$Raising"
  | 6 => .object "NineHouses$Raising"
  | 7 => .object "NineHouses$Crier"
  | 8 => .array .int
  | 9 => .array .int
  | 10 => .array .int
  | 11 => .object "NineHouses$Parish"
  | 12 => .object "NineHouses$Parish"
  | 13 => .object "NineHouses$Plan"
  | 14 => .object "NineHouses$Plan"
  | 15 => .object "NineHouses$Moves"
  | _ => .int
abbrev wsX80 : List Cond := u_ws RX8 TX8 17
theorem nmX8 : ∀ a, a < 17 → ∀ b, b < 17 → a ≠ b → (TX8 a).2.1 ≠ (TX8 b).2.1 := by decide +kernel
theorem tyX8_ok : ∀ k, k < 17 → parseFieldDescriptor (TX8 k).2.2.1 = some (tyX8 k) := by decide +kernel
abbrev cX8_init : ByteArray := prog_1_method_1_code
def yX8_init : MethodName := ⟨RX8, "<init>", "()V"⟩
abbrev cX8_feed : ByteArray := prog_1_method_2_code
def yX8_feed : MethodName := ⟨RX8, "feed", "(IJ)I"⟩
abbrev cX8_parish : ByteArray := prog_1_method_3_code
def yX8_parish : MethodName := ⟨RX8, "parish", "()I"⟩
abbrev cX8_plan : ByteArray := prog_1_method_4_code
def yX8_plan : MethodName := ⟨RX8, "plan", "()I"⟩
abbrev cX8_fault : ByteArray := prog_1_method_5_code
def yX8_fault : MethodName := ⟨RX8, "fault", "()I"⟩
abbrev cX8_told : ByteArray := prog_1_method_6_code
def yX8_told : MethodName := ⟨RX8, "told", "(I)I"⟩
abbrev cX8_house : ByteArray := prog_1_method_7_code
def yX8_house : MethodName := ⟨RX8, "house", "(II)I"⟩
abbrev cX8_far : ByteArray := prog_1_method_8_code
def yX8_far : MethodName := ⟨RX8, "far", "(II)I"⟩
abbrev cX8_part : ByteArray := prog_1_method_9_code
def yX8_part : MethodName := ⟨RX8, "part", "(II)I"⟩
abbrev cX8_away : ByteArray := prog_1_method_10_code
def yX8_away : MethodName := ⟨RX8, "away", "(I)I"⟩
abbrev cX8_awake : ByteArray := prog_1_method_11_code
def yX8_awake : MethodName := ⟨RX8, "awake", "(II)I"⟩
abbrev cX8_comes : ByteArray := prog_1_method_12_code
def yX8_comes : MethodName := ⟨RX8, "comes", "(III)I"⟩
abbrev cX8_stands : ByteArray := prog_1_method_13_code
def yX8_stands : MethodName := ⟨RX8, "stands", "(II)I"⟩
abbrev cX8_put : ByteArray := prog_1_method_14_code
def yX8_put : MethodName := ⟨RX8, "put", "(III)I"⟩
abbrev cX8_waited : ByteArray := prog_1_method_15_code
def yX8_waited : MethodName := ⟨RX8, "waited", "(II)I"⟩
abbrev cX8_odds : ByteArray := prog_1_method_16_code
def yX8_odds : MethodName := ⟨RX8, "odds", "(IIII)I"⟩
abbrev cX8_night : ByteArray := prog_1_method_17_code
def yX8_night : MethodName := ⟨RX8, "night", "(I)I"⟩
abbrev cX8_crier : ByteArray := prog_1_method_18_code
def yX8_crier : MethodName := ⟨RX8, "crier", "(III)I"⟩
abbrev cX8_keepAt : ByteArray := prog_1_method_19_code
def yX8_keepAt : MethodName := ⟨RX8, "keepAt", "(II)I"⟩
abbrev cX8_kept : ByteArray := prog_1_method_20_code
def yX8_kept : MethodName := ⟨RX8, "kept", "(III)I"⟩
abbrev cX8_reach : ByteArray := prog_1_method_21_code
def yX8_reach : MethodName := ⟨RX8, "reach", "(I)I"⟩
abbrev cX8_needed : ByteArray := prog_1_method_22_code
def yX8_needed : MethodName := ⟨RX8, "needed", "(I)I"⟩
abbrev cX8_fit : ByteArray := prog_1_method_23_code
def yX8_fit : MethodName := ⟨RX8, "fit", "(II)I"⟩
abbrev cX8_ladders : ByteArray := prog_1_method_24_code
def yX8_ladders : MethodName := ⟨RX8, "ladders", "(II)I"⟩
abbrev cX8_longest : ByteArray := prog_1_method_25_code
def yX8_longest : MethodName := ⟨RX8, "longest", "(I)I"⟩
abbrev cX8_cost : ByteArray := prog_1_method_26_code
def yX8_cost : MethodName := ⟨RX8, "cost", "(II)I"⟩
abbrev cX8_store : ByteArray := prog_1_method_27_code
def yX8_store : MethodName := ⟨RX8, "store", "(I)I"⟩
abbrev cX8_spares : ByteArray := prog_1_method_28_code
def yX8_spares : MethodName := ⟨RX8, "spares", "(IIII)I"⟩
abbrev cX8_two : ByteArray := prog_1_method_29_code
def yX8_two : MethodName := ⟨RX8, "two", "(IIII)I"⟩
abbrev cX8_log : ByteArray := prog_1_method_30_code
def yX8_log : MethodName := ⟨RX8, "log", "(II)I"⟩
abbrev cX8_clear : ByteArray := prog_1_method_31_code
def yX8_clear : MethodName := ⟨RX8, "clear", "()I"⟩
abbrev cX8_late : ByteArray := prog_1_method_32_code
def yX8_late : MethodName := ⟨RX8, "late", "(III)I"⟩
abbrev cX8_judge : ByteArray := prog_1_method_33_code
def yX8_judge : MethodName := ⟨RX8, "judge", "(III)I"⟩
abbrev cX8_seed : ByteArray := prog_1_method_34_code
def yX8_seed : MethodName := ⟨RX8, "seed", "(I)I"⟩
abbrev cX8_keep : ByteArray := prog_1_method_35_code
def yX8_keep : MethodName := ⟨RX8, "keep", "(I)I"⟩
abbrev cX8_goBack : ByteArray := prog_1_method_36_code
def yX8_goBack : MethodName := ⟨RX8, "goBack", "(I)I"⟩
abbrev cX8_startAnew : ByteArray := prog_1_method_37_code
def yX8_startAnew : MethodName := ⟨RX8, "startAnew", "()V"⟩
abbrev cX8_noHouse : ByteArray := prog_1_method_38_code
def yX8_noHouse : MethodName := ⟨RX8, "noHouse", "(I)Z"⟩
abbrev cX8_noPart : ByteArray := prog_1_method_39_code
def yX8_noPart : MethodName := ⟨RX8, "noPart", "(I)Z"⟩
abbrev cX8_beyond : ByteArray := prog_1_method_40_code
def yX8_beyond : MethodName := ⟨RX8, "beyond", "(II)Z"⟩
abbrev cX8_fullSet : ByteArray := prog_1_method_41_code
def yX8_fullSet : MethodName := ⟨RX8, "fullSet", "(I)I"⟩
abbrev cX8_has : ByteArray := prog_1_method_42_code
def yX8_has : MethodName := ⟨RX8, "has", "(II)Z"⟩
abbrev cX8_counted : ByteArray := prog_1_method_43_code
def yX8_counted : MethodName := ⟨RX8, "counted", "(I)I"⟩
abbrev cX8_wakeAll : ByteArray := prog_1_method_44_code
def yX8_wakeAll : MethodName := ⟨RX8, "wakeAll", "(I)V"⟩
abbrev cX8_raiseAll : ByteArray := prog_1_method_45_code
def yX8_raiseAll : MethodName := ⟨RX8, "raiseAll", "(II)I"⟩
abbrev cX8_countWays : ByteArray := prog_1_method_46_code
def yX8_countWays : MethodName := ⟨RX8, "countWays", "(I)V"⟩
abbrev cX8_costOf : ByteArray := prog_1_method_47_code
def yX8_costOf : MethodName := ⟨RX8, "costOf", "(I)I"⟩
abbrev cX8_standsWith : ByteArray := prog_1_method_48_code
def yX8_standsWith : MethodName := ⟨RX8, "standsWith", "(II)I"⟩
abbrev cX8_countLogged : ByteArray := prog_1_method_49_code
def yX8_countLogged : MethodName := ⟨RX8, "countLogged", "()I"⟩
abbrev cX8_lateBy : ByteArray := prog_1_method_50_code
def yX8_lateBy : MethodName := ⟨RX8, "lateBy", "(II)I"⟩
abbrev cX8_findLatest : ByteArray := prog_1_method_51_code
def yX8_findLatest : MethodName := ⟨RX8, "findLatest", "()I"⟩
abbrev cX8_standsByLog : ByteArray := prog_1_method_52_code
def yX8_standsByLog : MethodName := ⟨RX8, "standsByLog", "()I"⟩
def RX9 : String := "NineHousesModel"
def TX9 : u_T := fun k => match k with
  | 0 => ("NineHousesModel", "w", "[I", true)
  | 1 => ("NineHousesModel", "isKept", "[Z", true)
  | 2 => ("NineHousesModel", "house", "[I", true)
  | 3 => ("NineHousesModel", "ways", "[I", true)
  | 4 => ("NineHousesModel", "keptAt", "[I", true)
  | 5 => ("NineHousesModel", "minutes", "[I", true)
  | 6 => ("NineHousesModel", "gains", "[I", true)
  | 7 => ("NineHousesModel", "behind", "[I", true)
  | 8 => ("NineHousesModel", "many", "[I", true)
  | 9 => ("NineHousesModel", "wakeA", "[I", true)
  | 10 => ("NineHousesModel", "wakeB", "[I", true)
  | 11 => ("NineHousesModel", "wakes", "I", false)
  | 12 => ("NineHousesModel", "newWakes", "I", false)
  | 13 => ("NineHousesModel", "costs", "[I", true)
  | 14 => ("NineHousesModel", "store", "I", false)
  | 15 => ("NineHousesModel", "text", "[I", true)
  | 16 => ("NineHousesModel", "textSize", "I", false)
  | 17 => ("NineHousesModel", "at", "I", false)
  | 18 => ("NineHousesModel", "first", "I", false)
  | 19 => ("NineHousesModel", "length", "I", false)
  | 20 => ("NineHousesModel", "faultOf", "I", false)
  | 21 => ("NineHousesModel", "fault", "I", false)
  | 22 => ("NineHousesModel", "fars", "[I", true)
  | 23 => ("NineHousesModel", "wakeAt", "[I", true)
  | 24 => ("NineHousesModel", "arrives", "[I", true)
  | 25 => ("NineHousesModel", "round", "[I", true)
  | 26 => ("NineHousesModel", "rounds", "I", false)
  | 27 => ("NineHousesModel", "come", "[I", true)
  | 28 => ("NineHousesModel", "ready", "[I", true)
  | 29 => ("NineHousesModel", "order", "[I", true)
  | 30 => ("NineHousesModel", "begun", "[I", true)
  | 31 => ("NineHousesModel", "orderMany", "I", false)
  | 32 => ("NineHousesModel", "criers", "[I", true)
  | 33 => ("NineHousesModel", "bestRound", "[I", true)
  | 34 => ("NineHousesModel", "crierMany", "I", false)
  | 35 => ("NineHousesModel", "moved", "[I", true)
  | 36 => ("NineHousesModel", "counts", "[I", true)
  | 37 => ("NineHousesModel", "logged", "I", false)
  | _ => ("NineHousesModel", "logAt", "[I", true)
def tyX9 : Nat → FieldType := fun k => match k with
  | 0 => .array .int
  | 1 => .array .boolean
  | 2 => .array .int
  | 3 => .array .int
  | 4 => .array .int
  | 5 => .array .int
  | 6 => .array .int
  | 7 => .array .int
  | 8 => .array .int
  | 9 => .array .int
  | 10 => .array .int
  | 11 => .int
  | 12 => .int
  | 13 => .array .int
  | 14 => .int
  | 15 => .array .int
  | 16 => .int
  | 17 => .int
  | 18 => .int
  | 19 => .int
  | 20 => .int
  | 21 => .int
  | 22 => .array .int
  | 23 => .array .int
  | 24 => .array .int
  | 25 => .array .int
  | 26 => .int
  | 27 => .array .int
  | 28 => .array .int
  | 29 => .array .int
  | 30 => .array .int
  | 31 => .int
  | 32 => .array .int
  | 33 => .array .int
  | 34 => .int
  | 35 => .array .int
  | 36 => .array .int
  | 37 => .int
  | _ => .array .int
abbrev wsX90 : List Cond := u_ws RX9 TX9 39
theorem nmX9 : ∀ a, a < 39 → ∀ b, b < 39 → a ≠ b → (TX9 a).2.1 ≠ (TX9 b).2.1 := by decide +kernel
theorem tyX9_ok : ∀ k, k < 39 → parseFieldDescriptor (TX9 k).2.2.1 = some (tyX9 k) := by decide +kernel
abbrev cX9_init : ByteArray := prog_11_method_1_code
def yX9_init : MethodName := ⟨RX9, "<init>", "()V"⟩
abbrev cX9_in : ByteArray := prog_11_method_3_code
def yX9_in : MethodName := ⟨RX9, "in", "(JJJ)Z"⟩
abbrev cX9_one : ByteArray := prog_11_method_4_code
def yX9_one : MethodName := ⟨RX9, "one", "(Z)I"⟩
abbrev cX9_has : ByteArray := prog_11_method_5_code
def yX9_has : MethodName := ⟨RX9, "has", "(II)Z"⟩
abbrev cX9_ones : ByteArray := prog_11_method_6_code
def yX9_ones : MethodName := ⟨RX9, "ones", "(I)I"⟩
abbrev cX9_feed : ByteArray := prog_11_method_7_code
def yX9_feed : MethodName := ⟨RX9, "feed", "(IJ)I"⟩
abbrev cX9_here : ByteArray := prog_11_method_8_code
def yX9_here : MethodName := ⟨RX9, "here", "()I"⟩
abbrev cX9_want : ByteArray := prog_11_method_9_code
def yX9_want : MethodName := ⟨RX9, "want", "(ZII)Z"⟩
abbrev cX9_takeWord : ByteArray := prog_11_method_10_code
def yX9_takeWord : MethodName := ⟨RX9, "takeWord", "()V"⟩
abbrev cX9_isWord : ByteArray := prog_11_method_11_code
def yX9_isWord : MethodName := ⟨RX9, "isWord", "(IIIIII)Z"⟩
abbrev cX9_takeNumber : ByteArray := prog_11_method_12_code
def yX9_takeNumber : MethodName := ⟨RX9, "takeNumber", "(II)I"⟩
abbrev cX9_takeEnd : ByteArray := prog_11_method_13_code
def yX9_takeEnd : MethodName := ⟨RX9, "takeEnd", "()V"⟩
abbrev cX9_beginReading : ByteArray := prog_11_method_14_code
def yX9_beginReading : MethodName := ⟨RX9, "beginReading", "()V"⟩
abbrev cX9_takeHouse : ByteArray := prog_11_method_15_code
def yX9_takeHouse : MethodName := ⟨RX9, "takeHouse", "(I)V"⟩
abbrev cX9_takeWay : ByteArray := prog_11_method_16_code
def yX9_takeWay : MethodName := ⟨RX9, "takeWay", "()V"⟩
abbrev cX9_takePart : ByteArray := prog_11_method_17_code
def yX9_takePart : MethodName := ⟨RX9, "takePart", "(I)V"⟩
abbrev cX9_takeClause : ByteArray := prog_11_method_18_code
def yX9_takeClause : MethodName := ⟨RX9, "takeClause", "()V"⟩
abbrev cX9_parish : ByteArray := prog_11_method_19_code
def yX9_parish : MethodName := ⟨RX9, "parish", "()I"⟩
abbrev cX9_plan : ByteArray := prog_11_method_20_code
def yX9_plan : MethodName := ⟨RX9, "plan", "()I"⟩
abbrev cX9_fault : ByteArray := prog_11_method_21_code
def yX9_fault : MethodName := ⟨RX9, "fault", "()I"⟩
abbrev cX9_findFar : ByteArray := prog_11_method_22_code
def yX9_findFar : MethodName := ⟨RX9, "findFar", "()V"⟩
abbrev cX9_farOf : ByteArray := prog_11_method_23_code
def yX9_farOf : MethodName := ⟨RX9, "farOf", "(II)I"⟩
abbrev cX9_isHouse : ByteArray := prog_11_method_24_code
def yX9_isHouse : MethodName := ⟨RX9, "isHouse", "(I)Z"⟩
abbrev cX9_isPart : ByteArray := prog_11_method_25_code
def yX9_isPart : MethodName := ⟨RX9, "isPart", "(I)Z"⟩
abbrev cX9_isParts : ByteArray := prog_11_method_26_code
def yX9_isParts : MethodName := ⟨RX9, "isParts", "(I)Z"⟩
abbrev cX9_told : ByteArray := prog_11_method_27_code
def yX9_told : MethodName := ⟨RX9, "told", "(I)I"⟩
abbrev cX9_partsAt : ByteArray := prog_11_method_28_code
def yX9_partsAt : MethodName := ⟨RX9, "partsAt", "(I)I"⟩
abbrev cX9_house : ByteArray := prog_11_method_29_code
def yX9_house : MethodName := ⟨RX9, "house", "(II)I"⟩
abbrev cX9_far : ByteArray := prog_11_method_30_code
def yX9_far : MethodName := ⟨RX9, "far", "(II)I"⟩
abbrev cX9_part : ByteArray := prog_11_method_31_code
def yX9_part : MethodName := ⟨RX9, "part", "(II)I"⟩
abbrev cX9_isAway : ByteArray := prog_11_method_32_code
def yX9_isAway : MethodName := ⟨RX9, "isAway", "(III)Z"⟩
abbrev cX9_goRound : ByteArray := prog_11_method_33_code
def yX9_goRound : MethodName := ⟨RX9, "goRound", "(IIIII)V"⟩
abbrev cX9_begin : ByteArray := prog_11_method_34_code
def yX9_begin : MethodName := ⟨RX9, "begin", "(I)V"⟩
abbrev cX9_arriveAwake : ByteArray := prog_11_method_35_code
def yX9_arriveAwake : MethodName := ⟨RX9, "arriveAwake", "(I)V"⟩
abbrev cX9_burn : ByteArray := prog_11_method_36_code
def yX9_burn : MethodName := ⟨RX9, "burn", "(III)V"⟩
abbrev cX9_comeAll : ByteArray := prog_11_method_37_code
def yX9_comeAll : MethodName := ⟨RX9, "comeAll", "()V"⟩
abbrev cX9_putIn : ByteArray := prog_11_method_38_code
def yX9_putIn : MethodName := ⟨RX9, "putIn", "(I)I"⟩
abbrev cX9_allParts : ByteArray := prog_11_method_39_code
def yX9_allParts : MethodName := ⟨RX9, "allParts", "()I"⟩
abbrev cX9_standsBy : ByteArray := prog_11_method_40_code
def yX9_standsBy : MethodName := ⟨RX9, "standsBy", "(III)I"⟩
abbrev cX9_held : ByteArray := prog_11_method_41_code
def yX9_held : MethodName := ⟨RX9, "held", "(I)I"⟩
abbrev cX9_away : ByteArray := prog_11_method_42_code
def yX9_away : MethodName := ⟨RX9, "away", "(I)I"⟩
abbrev cX9_awake : ByteArray := prog_11_method_43_code
def yX9_awake : MethodName := ⟨RX9, "awake", "(II)I"⟩
abbrev cX9_comes : ByteArray := prog_11_method_44_code
def yX9_comes : MethodName := ⟨RX9, "comes", "(III)I"⟩
abbrev cX9_stands : ByteArray := prog_11_method_45_code
def yX9_stands : MethodName := ⟨RX9, "stands", "(II)I"⟩
abbrev cX9_put : ByteArray := prog_11_method_46_code
def yX9_put : MethodName := ⟨RX9, "put", "(III)I"⟩
abbrev cX9_waited : ByteArray := prog_11_method_47_code
def yX9_waited : MethodName := ⟨RX9, "waited", "(II)I"⟩
abbrev cX9_oddsOf : ByteArray := prog_11_method_48_code
def yX9_oddsOf : MethodName := ⟨RX9, "oddsOf", "(III)J"⟩
abbrev cX9_odds : ByteArray := prog_11_method_49_code
def yX9_odds : MethodName := ⟨RX9, "odds", "(IIII)I"⟩
abbrev cX9_draw : ByteArray := prog_11_method_50_code
def yX9_draw : MethodName := ⟨RX9, "draw", "(I)I"⟩
abbrev cX9_night : ByteArray := prog_11_method_51_code
def yX9_night : MethodName := ⟨RX9, "night", "(I)I"⟩
abbrev cX9_nextRound : ByteArray := prog_11_method_52_code
def yX9_nextRound : MethodName := ⟨RX9, "nextRound", "()Z"⟩
abbrev cX9_cried : ByteArray := prog_11_method_53_code
def yX9_cried : MethodName := ⟨RX9, "cried", "(II)I"⟩
abbrev cX9_crier : ByteArray := prog_11_method_54_code
def yX9_crier : MethodName := ⟨RX9, "crier", "(III)I"⟩
abbrev cX9_keepAt : ByteArray := prog_11_method_55_code
def yX9_keepAt : MethodName := ⟨RX9, "keepAt", "(II)I"⟩
abbrev cX9_holds : ByteArray := prog_11_method_56_code
def yX9_holds : MethodName := ⟨RX9, "holds", "(II)Z"⟩
abbrev cX9_movesTwo : ByteArray := prog_11_method_57_code
def yX9_movesTwo : MethodName := ⟨RX9, "movesTwo", "(III)Z"⟩
abbrev cX9_findMoved : ByteArray := prog_11_method_58_code
def yX9_findMoved : MethodName := ⟨RX9, "findMoved", "(II)I"⟩
abbrev cX9_kept : ByteArray := prog_11_method_59_code
def yX9_kept : MethodName := ⟨RX9, "kept", "(III)I"⟩
abbrev cX9_canBeIn : ByteArray := prog_11_method_60_code
def yX9_canBeIn : MethodName := ⟨RX9, "canBeIn", "(I)I"⟩
abbrev cX9_reachOf : ByteArray := prog_11_method_61_code
def yX9_reachOf : MethodName := ⟨RX9, "reachOf", "(I)I"⟩
abbrev cX9_reach : ByteArray := prog_11_method_62_code
def yX9_reach : MethodName := ⟨RX9, "reach", "(I)I"⟩
abbrev cX9_needed : ByteArray := prog_11_method_63_code
def yX9_needed : MethodName := ⟨RX9, "needed", "(I)I"⟩
abbrev cX9_fit : ByteArray := prog_11_method_64_code
def yX9_fit : MethodName := ⟨RX9, "fit", "(II)I"⟩
abbrev cX9_laddersOf : ByteArray := prog_11_method_65_code
def yX9_laddersOf : MethodName := ⟨RX9, "laddersOf", "(II)I"⟩
abbrev cX9_ladders : ByteArray := prog_11_method_66_code
def yX9_ladders : MethodName := ⟨RX9, "ladders", "(II)I"⟩
abbrev cX9_longest : ByteArray := prog_11_method_67_code
def yX9_longest : MethodName := ⟨RX9, "longest", "(I)I"⟩
abbrev cX9_cost : ByteArray := prog_11_method_68_code
def yX9_cost : MethodName := ⟨RX9, "cost", "(II)I"⟩
abbrev cX9_store : ByteArray := prog_11_method_69_code
def yX9_store : MethodName := ⟨RX9, "store", "(I)I"⟩
abbrev cX9_spares : ByteArray := prog_11_method_70_code
def yX9_spares : MethodName := ⟨RX9, "spares", "(IIII)I"⟩
abbrev cX9_endAt : ByteArray := prog_11_method_71_code
def yX9_endAt : MethodName := ⟨RX9, "endAt", "(III)I"⟩
abbrev cX9_two : ByteArray := prog_11_method_72_code
def yX9_two : MethodName := ⟨RX9, "two", "(IIII)I"⟩
abbrev cX9_log : ByteArray := prog_11_method_73_code
def yX9_log : MethodName := ⟨RX9, "log", "(II)I"⟩
abbrev cX9_clear : ByteArray := prog_11_method_74_code
def yX9_clear : MethodName := ⟨RX9, "clear", "()I"⟩
abbrev cX9_lateOf : ByteArray := prog_11_method_75_code
def yX9_lateOf : MethodName := ⟨RX9, "lateOf", "(I)I"⟩
abbrev cX9_late : ByteArray := prog_11_method_76_code
def yX9_late : MethodName := ⟨RX9, "late", "(III)I"⟩
abbrev cX9_judge : ByteArray := prog_11_method_77_code
def yX9_judge : MethodName := ⟨RX9, "judge", "(III)I"⟩
abbrev cX9_seed : ByteArray := prog_11_method_78_code
def yX9_seed : MethodName := ⟨RX9, "seed", "(I)I"⟩
abbrev cX9_copy : ByteArray := prog_11_method_79_code
def yX9_copy : MethodName := ⟨RX9, "copy", "(II)V"⟩
abbrev cX9_keep : ByteArray := prog_11_method_80_code
def yX9_keep : MethodName := ⟨RX9, "keep", "(I)I"⟩
abbrev cX9_goBack : ByteArray := prog_11_method_81_code
def yX9_goBack : MethodName := ⟨RX9, "goBack", "(I)I"⟩
def RJx145de : String := "java/io/Serializable"
def TJx145de : u_T := fun k => match k with
  | _ => ("", "", "", false)
def tyJx145de : Nat → FieldType := fun k => match k with
  | _ => .int
abbrev wsJx145de0 : List Cond := u_ws RJx145de TJx145de 0
theorem nmJx145de : ∀ a, a < 0 → ∀ b, b < 0 → a ≠ b → (TJx145de a).2.1 ≠ (TJx145de b).2.1 := by decide +kernel
theorem tyJx145de_ok : ∀ k, k < 0 → parseFieldDescriptor (TJx145de k).2.2.1 = some (tyJx145de k) := by decide +kernel
def RJx9f9b0 : String := "java/lang/CharSequence"
def TJx9f9b0 : u_T := fun k => match k with
  | _ => ("", "", "", false)
def tyJx9f9b0 : Nat → FieldType := fun k => match k with
  | _ => .int
abbrev wsJx9f9b00 : List Cond := u_ws RJx9f9b0 TJx9f9b0 0
theorem nmJx9f9b0 : ∀ a, a < 0 → ∀ b, b < 0 → a ≠ b → (TJx9f9b0 a).2.1 ≠ (TJx9f9b0 b).2.1 := by decide +kernel
theorem tyJx9f9b0_ok : ∀ k, k < 0 → parseFieldDescriptor (TJx9f9b0 k).2.2.1 = some (tyJx9f9b0 k) := by decide +kernel
def RJxb160c : String := "java/lang/Comparable"
def TJxb160c : u_T := fun k => match k with
  | _ => ("", "", "", false)
def tyJxb160c : Nat → FieldType := fun k => match k with
  | _ => .int
abbrev wsJxb160c0 : List Cond := u_ws RJxb160c TJxb160c 0
theorem nmJxb160c : ∀ a, a < 0 → ∀ b, b < 0 → a ≠ b → (TJxb160c a).2.1 ≠ (TJxb160c b).2.1 := by decide +kernel
theorem tyJxb160c_ok : ∀ k, k < 0 → parseFieldDescriptor (TJxb160c k).2.2.1 = some (tyJxb160c k) := by decide +kernel
def RJ6 : String := "java/lang/Integer"
def TJ6 : u_T := fun k => match k with
  | _ => ("", "", "", false)
def tyJ6 : Nat → FieldType := fun k => match k with
  | _ => .int
abbrev wsJ60 : List Cond := u_ws RJ6 TJ6 0
theorem nmJ6 : ∀ a, a < 0 → ∀ b, b < 0 → a ≠ b → (TJ6 a).2.1 ≠ (TJ6 b).2.1 := by decide +kernel
theorem tyJ6_ok : ∀ k, k < 0 → parseFieldDescriptor (TJ6 k).2.2.1 = some (tyJ6 k) := by decide +kernel
abbrev cJ6_bitCount_0f7a4 : ByteArray := prog_12_method_49_code
def yJ6_bitCount_0f7a4 : MethodName := ⟨RJ6, "bitCount", "(I)I"⟩
def RJ9 : String := "java/lang/Math"
def TJ9 : u_T := fun k => match k with
  | _ => ("", "", "", false)
def tyJ9 : Nat → FieldType := fun k => match k with
  | _ => .int
abbrev wsJ90 : List Cond := u_ws RJ9 TJ9 0
theorem nmJ9 : ∀ a, a < 0 → ∀ b, b < 0 → a ≠ b → (TJ9 a).2.1 ≠ (TJ9 b).2.1 := by decide +kernel
theorem tyJ9_ok : ∀ k, k < 0 → parseFieldDescriptor (TJ9 k).2.2.1 = some (tyJ9 k) := by decide +kernel
abbrev cJ9_max_7cf53 : ByteArray := prog_13_method_65_code
def yJ9_max_7cf53 : MethodName := ⟨RJ9, "max", "(II)I"⟩
abbrev cJ9_min_7cf53 : ByteArray := prog_13_method_69_code
def yJ9_min_7cf53 : MethodName := ⟨RJ9, "min", "(II)I"⟩
def RJ0 : String := "java/lang/String"
def TJ0 : u_T := fun k => match k with
  | _ => ("", "", "", false)
def tyJ0 : Nat → FieldType := fun k => match k with
  | _ => .int
abbrev wsJ00 : List Cond := u_ws RJ0 TJ0 0
theorem nmJ0 : ∀ a, a < 0 → ∀ b, b < 0 → a ≠ b → (TJ0 a).2.1 ≠ (TJ0 b).2.1 := by decide +kernel
theorem tyJ0_ok : ∀ k, k < 0 → parseFieldDescriptor (TJ0 k).2.2.1 = some (tyJ0 k) := by decide +kernel
abbrev cJ0_length_8abf5 : ByteArray := prog_14_method_54_code
def yJ0_length_8abf5 : MethodName := ⟨RJ0, "length", "()I"⟩
abbrev cJ0_charAt_5068e : ByteArray := prog_14_method_56_code
def yJ0_charAt_5068e : MethodName := ⟨RJ0, "charAt", "(I)C"⟩
abbrev cJ0_coder_7d493 : ByteArray := prog_14_method_152_code
def yJ0_coder_7d493 : MethodName := ⟨RJ0, "coder", "()B"⟩
abbrev cJ0_isLatin1_aae02 : ByteArray := prog_14_method_154_code
def yJ0_isLatin1_aae02 : MethodName := ⟨RJ0, "isLatin1", "()Z"⟩
abbrev cJ0_checkIndex_df160 : ByteArray := prog_14_method_155_code
def yJ0_checkIndex_df160 : MethodName := ⟨RJ0, "checkIndex", "(II)V"⟩
def RJ1 : String := "java/lang/StringLatin1"
def TJ1 : u_T := fun k => match k with
  | _ => ("", "", "", false)
def tyJ1 : Nat → FieldType := fun k => match k with
  | _ => .int
abbrev wsJ10 : List Cond := u_ws RJ1 TJ1 0
theorem nmJ1 : ∀ a, a < 0 → ∀ b, b < 0 → a ≠ b → (TJ1 a).2.1 ≠ (TJ1 b).2.1 := by decide +kernel
theorem tyJ1_ok : ∀ k, k < 0 → parseFieldDescriptor (TJ1 k).2.2.1 = some (tyJ1 k) := by decide +kernel
abbrev cJ1_charAt_3b067 : ByteArray := prog_15_method_2_code
def yJ1_charAt_3b067 : MethodName := ⟨RJ1, "charAt", "([BI)C"⟩
def RJ2 : String := "java/lang/StringUTF16"
def TJ2 : u_T := fun k => match k with
  | _ => ("", "", "", false)
def tyJ2 : Nat → FieldType := fun k => match k with
  | _ => .int
abbrev wsJ20 : List Cond := u_ws RJ2 TJ2 0
theorem nmJ2 : ∀ a, a < 0 → ∀ b, b < 0 → a ≠ b → (TJ2 a).2.1 ≠ (TJ2 b).2.1 := by decide +kernel
theorem tyJ2_ok : ∀ k, k < 0 → parseFieldDescriptor (TJ2 k).2.2.1 = some (tyJ2 k) := by decide +kernel
abbrev cJ2_getChar_3b067 : ByteArray := prog_16_method_5_code
def yJ2_getChar_3b067 : MethodName := ⟨RJ2, "getChar", "([BI)C"⟩
abbrev cJ2_length_9d52b : ByteArray := prog_16_method_6_code
def yJ2_length_9d52b : MethodName := ⟨RJ2, "length", "([B)I"⟩
abbrev cJ2_charAt_3b067 : ByteArray := prog_16_method_83_code
def yJ2_charAt_3b067 : MethodName := ⟨RJ2, "charAt", "([BI)C"⟩
abbrev cJ2_checkIndex_2214a : ByteArray := prog_16_method_91_code
def yJ2_checkIndex_2214a : MethodName := ⟨RJ2, "checkIndex", "(I[B)V"⟩
def RJ10 : String := "java/lang/System"
def TJ10 : u_T := fun k => match k with
  | _ => ("", "", "", false)
def tyJ10 : Nat → FieldType := fun k => match k with
  | _ => .int
abbrev wsJ100 : List Cond := u_ws RJ10 TJ10 0
theorem nmJ10 : ∀ a, a < 0 → ∀ b, b < 0 → a ≠ b → (TJ10 a).2.1 ≠ (TJ10 b).2.1 := by decide +kernel
theorem tyJ10_ok : ∀ k, k < 0 → parseFieldDescriptor (TJ10 k).2.2.1 = some (tyJ10 k) := by decide +kernel
def RJxfd54e : String := "java/lang/constant/Constable"
def TJxfd54e : u_T := fun k => match k with
  | _ => ("", "", "", false)
def tyJxfd54e : Nat → FieldType := fun k => match k with
  | _ => .int
abbrev wsJxfd54e0 : List Cond := u_ws RJxfd54e TJxfd54e 0
theorem nmJxfd54e : ∀ a, a < 0 → ∀ b, b < 0 → a ≠ b → (TJxfd54e a).2.1 ≠ (TJxfd54e b).2.1 := by decide +kernel
theorem tyJxfd54e_ok : ∀ k, k < 0 → parseFieldDescriptor (TJxfd54e k).2.2.1 = some (tyJxfd54e k) := by decide +kernel
def RJx3cf43 : String := "java/lang/constant/ConstantDesc"
def TJx3cf43 : u_T := fun k => match k with
  | _ => ("", "", "", false)
def tyJx3cf43 : Nat → FieldType := fun k => match k with
  | _ => .int
abbrev wsJx3cf430 : List Cond := u_ws RJx3cf43 TJx3cf43 0
theorem nmJx3cf43 : ∀ a, a < 0 → ∀ b, b < 0 → a ≠ b → (TJx3cf43 a).2.1 ≠ (TJx3cf43 b).2.1 := by decide +kernel
theorem tyJx3cf43_ok : ∀ k, k < 0 → parseFieldDescriptor (TJx3cf43 k).2.2.1 = some (tyJx3cf43 k) := by decide +kernel
def RJ7 : String := "java/util/Arrays"
def TJ7 : u_T := fun k => match k with
  | _ => ("", "", "", false)
def tyJ7 : Nat → FieldType := fun k => match k with
  | _ => .int
abbrev wsJ70 : List Cond := u_ws RJ7 TJ7 0
theorem nmJ7 : ∀ a, a < 0 → ∀ b, b < 0 → a ≠ b → (TJ7 a).2.1 ≠ (TJ7 b).2.1 := by decide +kernel
theorem tyJ7_ok : ∀ k, k < 0 → parseFieldDescriptor (TJ7 k).2.2.1 = some (tyJ7 k) := by decide +kernel
abbrev cJ7_fill_53178 : ByteArray := prog_18_method_103_code
def yJ7_fill_53178 : MethodName := ⟨RJ7, "fill", "([II)V"⟩
def RJ3 : String := "jdk/internal/util/Preconditions"
def TJ3 : u_T := fun k => match k with
  | _ => ("", "", "", false)
def tyJ3 : Nat → FieldType := fun k => match k with
  | _ => .int
abbrev wsJ30 : List Cond := u_ws RJ3 TJ3 0
theorem nmJ3 : ∀ a, a < 0 → ∀ b, b < 0 → a ≠ b → (TJ3 a).2.1 ≠ (TJ3 b).2.1 := by decide +kernel
theorem tyJ3_ok : ∀ k, k < 0 → parseFieldDescriptor (TJ3 k).2.2.1 = some (tyJ3 k) := by decide +kernel
abbrev cJ3_checkIndex_8e157 : ByteArray := prog_19_method_11_code
def yJ3_checkIndex_8e157 : MethodName := ⟨RJ3, "checkIndex", "(IILjava/util/function/BiFunction;)I"⟩
def RL : String := "NineHousesLaw"
abbrev cL_law : ByteArray := code
def yL_law : MethodName := ⟨RL, "law", "([I)Z"⟩
abbrev vwCl : List vw_C := [(RX0, TX0, 4), (RX1, TX1, 9), (RX2, TX2, 5), (RX3, TX3, 10), (RX4, TX4, 3), (RX5, TX5, 5), (RX6, TX6, 6), (RX7, TX7, 5), (RX8, TX8, 17), (RX9, TX9, 39)]
end
section
theorem dX0_init_0 : decode cX0_init 0 = .ok (.aload_n 0, 1) := by decide +kernel
theorem dX0_init_1 : decode cX0_init 1 = .ok (.invokespecial 3, 3) := by decide +kernel
theorem dX0_init_4 : decode cX0_init 4 = .ok (.aload_n 0, 1) := by decide +kernel
theorem dX0_init_5 : decode cX0_init 5 = .ok (.new 9, 3) := by decide +kernel
theorem dX0_init_8 : decode cX0_init 8 = .ok (.dup, 1) := by decide +kernel
theorem dX0_init_9 : decode cX0_init 9 = .ok (.invokespecial 11, 3) := by decide +kernel
theorem dX0_init_12 : decode cX0_init 12 = .ok (.putfield 12, 3) := by decide +kernel
theorem dX0_init_15 : decode cX0_init 15 = .ok (.aload_n 0, 1) := by decide +kernel
theorem dX0_init_16 : decode cX0_init 16 = .ok (.bipush 7, 2) := by decide +kernel
theorem dX0_init_18 : decode cX0_init 18 = .ok (.newarray .int, 2) := by decide +kernel
theorem dX0_init_20 : decode cX0_init 20 = .ok (.putfield 18, 3) := by decide +kernel
theorem dX0_init_23 : decode cX0_init 23 = .ok (.return_, 1) := by decide +kernel
theorem dX0_sendOut_0 : decode cX0_sendOut 0 = .ok (.aload_n 0, 1) := by decide +kernel
theorem dX0_sendOut_1 : decode cX0_sendOut 1 = .ok (.iload_n 3, 1) := by decide +kernel
theorem dX0_sendOut_2 : decode cX0_sendOut 2 = .ok (.putfield 22, 3) := by decide +kernel
theorem dX0_sendOut_5 : decode cX0_sendOut 5 = .ok (.aload_n 0, 1) := by decide +kernel
theorem dX0_sendOut_6 : decode cX0_sendOut 6 = .ok (.getfield 12, 3) := by decide +kernel
theorem dX0_sendOut_9 : decode cX0_sendOut 9 = .ok (.iconst 0, 1) := by decide +kernel
theorem dX0_sendOut_10 : decode cX0_sendOut 10 = .ok (.putfield 26, 3) := by decide +kernel
theorem dX0_sendOut_13 : decode cX0_sendOut 13 = .ok (.iconst 0, 1) := by decide +kernel
theorem dX0_sendOut_14 : decode cX0_sendOut 14 = .ok (.istore 4, 2) := by decide +kernel
theorem dX0_sendOut_16 : decode cX0_sendOut 16 = .ok (.iload 4, 2) := by decide +kernel
theorem dX0_sendOut_18 : decode cX0_sendOut 18 = .ok (.aload_n 1, 1) := by decide +kernel
theorem dX0_sendOut_19 : decode cX0_sendOut 19 = .ok (.getfield 29, 3) := by decide +kernel
theorem dX0_sendOut_22 : decode cX0_sendOut 22 = .ok (.if_icmp .ge 94, 3) := by decide +kernel
theorem dX0_sendOut_25 : decode cX0_sendOut 25 = .ok (.iload 4, 2) := by decide +kernel
theorem dX0_sendOut_27 : decode cX0_sendOut 27 = .ok (.aload_n 0, 1) := by decide +kernel
theorem dX0_sendOut_28 : decode cX0_sendOut 28 = .ok (.getfield 22, 3) := by decide +kernel
theorem dX0_sendOut_31 : decode cX0_sendOut 31 = .ok (.if_icmp .eq 79, 3) := by decide +kernel
theorem dX0_sendOut_34 : decode cX0_sendOut 34 = .ok (.aload_n 2, 1) := by decide +kernel
theorem dX0_sendOut_35 : decode cX0_sendOut 35 = .ok (.iload 4, 2) := by decide +kernel
theorem dX0_sendOut_37 : decode cX0_sendOut 37 = .ok (.aload_n 1, 1) := by decide +kernel
theorem dX0_sendOut_38 : decode cX0_sendOut 38 = .ok (.getfield 34, 3) := by decide +kernel
theorem dX0_sendOut_41 : decode cX0_sendOut 41 = .ok (.invokevirtual 37, 3) := by decide +kernel
theorem dX0_sendOut_44 : decode cX0_sendOut 44 = .ok (.ifCond .eq 66, 3) := by decide +kernel
theorem dX0_sendOut_47 : decode cX0_sendOut 47 = .ok (.aload_n 0, 1) := by decide +kernel
theorem dX0_sendOut_48 : decode cX0_sendOut 48 = .ok (.getfield 12, 3) := by decide +kernel
theorem dX0_sendOut_51 : decode cX0_sendOut 51 = .ok (.getfield 26, 3) := by decide +kernel
theorem dX0_sendOut_54 : decode cX0_sendOut 54 = .ok (.bipush 7, 2) := by decide +kernel
theorem dX0_sendOut_56 : decode cX0_sendOut 56 = .ok (.if_icmp .lt 5, 3) := by decide +kernel
theorem dX0_sendOut_59 : decode cX0_sendOut 59 = .ok (.iconst 0, 1) := by decide +kernel
theorem dX0_sendOut_60 : decode cX0_sendOut 60 = .ok (.ireturn, 1) := by decide +kernel
theorem dX0_sendOut_61 : decode cX0_sendOut 61 = .ok (.aload_n 0, 1) := by decide +kernel
theorem dX0_sendOut_62 : decode cX0_sendOut 62 = .ok (.getfield 12, 3) := by decide +kernel
theorem dX0_sendOut_65 : decode cX0_sendOut 65 = .ok (.getfield 43, 3) := by decide +kernel
theorem dX0_sendOut_68 : decode cX0_sendOut 68 = .ok (.aload_n 0, 1) := by decide +kernel
theorem dX0_sendOut_69 : decode cX0_sendOut 69 = .ok (.getfield 12, 3) := by decide +kernel
theorem dX0_sendOut_72 : decode cX0_sendOut 72 = .ok (.getfield 26, 3) := by decide +kernel
theorem dX0_sendOut_75 : decode cX0_sendOut 75 = .ok (.aload_n 0, 1) := by decide +kernel
theorem dX0_sendOut_76 : decode cX0_sendOut 76 = .ok (.getfield 22, 3) := by decide +kernel
theorem dX0_sendOut_79 : decode cX0_sendOut 79 = .ok (.iastore, 1) := by decide +kernel
theorem dX0_sendOut_80 : decode cX0_sendOut 80 = .ok (.aload_n 0, 1) := by decide +kernel
theorem dX0_sendOut_81 : decode cX0_sendOut 81 = .ok (.getfield 12, 3) := by decide +kernel
theorem dX0_sendOut_84 : decode cX0_sendOut 84 = .ok (.getfield 46, 3) := by decide +kernel
theorem dX0_sendOut_87 : decode cX0_sendOut 87 = .ok (.aload_n 0, 1) := by decide +kernel
theorem dX0_sendOut_88 : decode cX0_sendOut 88 = .ok (.getfield 12, 3) := by decide +kernel
theorem dX0_sendOut_91 : decode cX0_sendOut 91 = .ok (.getfield 26, 3) := by decide +kernel
theorem dX0_sendOut_94 : decode cX0_sendOut 94 = .ok (.iload 4, 2) := by decide +kernel
theorem dX0_sendOut_96 : decode cX0_sendOut 96 = .ok (.iastore, 1) := by decide +kernel
theorem dX0_sendOut_97 : decode cX0_sendOut 97 = .ok (.aload_n 0, 1) := by decide +kernel
theorem dX0_sendOut_98 : decode cX0_sendOut 98 = .ok (.getfield 12, 3) := by decide +kernel
theorem dX0_sendOut_101 : decode cX0_sendOut 101 = .ok (.dup, 1) := by decide +kernel
theorem dX0_sendOut_102 : decode cX0_sendOut 102 = .ok (.getfield 26, 3) := by decide +kernel
theorem dX0_sendOut_105 : decode cX0_sendOut 105 = .ok (.iconst 1, 1) := by decide +kernel
theorem dX0_sendOut_106 : decode cX0_sendOut 106 = .ok (.iadd, 1) := by decide +kernel
theorem dX0_sendOut_107 : decode cX0_sendOut 107 = .ok (.putfield 26, 3) := by decide +kernel
theorem dX0_sendOut_110 : decode cX0_sendOut 110 = .ok (.iinc 4 1, 3) := by decide +kernel
theorem dX0_sendOut_113 : decode cX0_sendOut 113 = .ok (.goto (-97), 3) := by decide +kernel
theorem dX0_sendOut_116 : decode cX0_sendOut 116 = .ok (.iconst 1, 1) := by decide +kernel
theorem dX0_sendOut_117 : decode cX0_sendOut 117 = .ok (.ireturn, 1) := by decide +kernel
theorem dX0_search_0 : decode cX0_search 0 = .ok (.aload_n 0, 1) := by decide +kernel
theorem dX0_search_1 : decode cX0_search 1 = .ok (.iconst (-1), 1) := by decide +kernel
theorem dX0_search_2 : decode cX0_search 2 = .ok (.putfield 49, 3) := by decide +kernel
theorem dX0_search_5 : decode cX0_search 5 = .ok (.iconst 0, 1) := by decide +kernel
theorem dX0_search_6 : decode cX0_search 6 = .ok (.istore 6, 2) := by decide +kernel
theorem dX0_search_8 : decode cX0_search 8 = .ok (.iload 6, 2) := by decide +kernel
theorem dX0_search_10 : decode cX0_search 10 = .ok (.sipush 5040, 3) := by decide +kernel
theorem dX0_search_13 : decode cX0_search 13 = .ok (.if_icmp .ge 110, 3) := by decide +kernel
theorem dX0_search_16 : decode cX0_search 16 = .ok (.aload_n 3, 1) := by decide +kernel
theorem dX0_search_17 : decode cX0_search 17 = .ok (.aload_n 1, 1) := by decide +kernel
theorem dX0_search_18 : decode cX0_search 18 = .ok (.aload_n 0, 1) := by decide +kernel
theorem dX0_search_19 : decode cX0_search 19 = .ok (.getfield 12, 3) := by decide +kernel
theorem dX0_search_22 : decode cX0_search 22 = .ok (.aload_n 0, 1) := by decide +kernel
theorem dX0_search_23 : decode cX0_search 23 = .ok (.getfield 22, 3) := by decide +kernel
theorem dX0_search_26 : decode cX0_search 26 = .ok (.aload_n 2, 1) := by decide +kernel
theorem dX0_search_27 : decode cX0_search 27 = .ok (.getfield 52, 3) := by decide +kernel
theorem dX0_search_30 : decode cX0_search 30 = .ok (.invokevirtual 55, 3) := by decide +kernel
theorem dX0_search_33 : decode cX0_search 33 = .ok (.aload 4, 2) := by decide +kernel
theorem dX0_search_35 : decode cX0_search 35 = .ok (.aload_n 1, 1) := by decide +kernel
theorem dX0_search_36 : decode cX0_search 36 = .ok (.aload_n 3, 1) := by decide +kernel
theorem dX0_search_37 : decode cX0_search 37 = .ok (.aload_n 2, 1) := by decide +kernel
theorem dX0_search_38 : decode cX0_search 38 = .ok (.getfield 61, 3) := by decide +kernel
theorem dX0_search_41 : decode cX0_search 41 = .ok (.iload 5, 2) := by decide +kernel
theorem dX0_search_43 : decode cX0_search 43 = .ok (.invokevirtual 64, 3) := by decide +kernel
theorem dX0_search_46 : decode cX0_search 46 = .ok (.aload 4, 2) := by decide +kernel
theorem dX0_search_48 : decode cX0_search 48 = .ok (.aload_n 1, 1) := by decide +kernel
theorem dX0_search_49 : decode cX0_search 49 = .ok (.aload_n 1, 1) := by decide +kernel
theorem dX0_search_50 : decode cX0_search 50 = .ok (.invokevirtual 70, 3) := by decide +kernel
theorem dX0_search_53 : decode cX0_search 53 = .ok (.invokevirtual 74, 3) := by decide +kernel
theorem dX0_search_56 : decode cX0_search 56 = .ok (.invokestatic 77, 3) := by decide +kernel
theorem dX0_search_59 : decode cX0_search 59 = .ok (.istore 7, 2) := by decide +kernel
theorem dX0_search_61 : decode cX0_search 61 = .ok (.aload_n 0, 1) := by decide +kernel
theorem dX0_search_62 : decode cX0_search 62 = .ok (.getfield 49, 3) := by decide +kernel
theorem dX0_search_65 : decode cX0_search 65 = .ok (.iconst (-1), 1) := by decide +kernel
theorem dX0_search_66 : decode cX0_search 66 = .ok (.if_icmp .eq 12, 3) := by decide +kernel
theorem dX0_search_69 : decode cX0_search 69 = .ok (.iload 7, 2) := by decide +kernel
theorem dX0_search_71 : decode cX0_search 71 = .ok (.aload_n 0, 1) := by decide +kernel
theorem dX0_search_72 : decode cX0_search 72 = .ok (.getfield 49, 3) := by decide +kernel
theorem dX0_search_75 : decode cX0_search 75 = .ok (.if_icmp .ge 32, 3) := by decide +kernel
theorem dX0_search_78 : decode cX0_search 78 = .ok (.aload_n 0, 1) := by decide +kernel
theorem dX0_search_79 : decode cX0_search 79 = .ok (.iload 7, 2) := by decide +kernel
theorem dX0_search_81 : decode cX0_search 81 = .ok (.putfield 49, 3) := by decide +kernel
theorem dX0_search_84 : decode cX0_search 84 = .ok (.aload_n 0, 1) := by decide +kernel
theorem dX0_search_85 : decode cX0_search 85 = .ok (.getfield 12, 3) := by decide +kernel
theorem dX0_search_88 : decode cX0_search 88 = .ok (.getfield 46, 3) := by decide +kernel
theorem dX0_search_91 : decode cX0_search 91 = .ok (.iconst 0, 1) := by decide +kernel
theorem dX0_search_92 : decode cX0_search 92 = .ok (.aload_n 0, 1) := by decide +kernel
theorem dX0_search_93 : decode cX0_search 93 = .ok (.getfield 18, 3) := by decide +kernel
theorem dX0_search_96 : decode cX0_search 96 = .ok (.iconst 0, 1) := by decide +kernel
theorem dX0_search_97 : decode cX0_search 97 = .ok (.aload_n 0, 1) := by decide +kernel
theorem dX0_search_98 : decode cX0_search 98 = .ok (.getfield 12, 3) := by decide +kernel
theorem dX0_search_101 : decode cX0_search 101 = .ok (.getfield 26, 3) := by decide +kernel
theorem dX0_search_104 : decode cX0_search 104 = .ok (.invokestatic 81, 3) := by decide +kernel
theorem dX0_search_107 : decode cX0_search 107 = .ok (.aload_n 0, 1) := by decide +kernel
theorem dX0_search_108 : decode cX0_search 108 = .ok (.invokevirtual 87, 3) := by decide +kernel
theorem dX0_search_111 : decode cX0_search 111 = .ok (.ifCond .ne 6, 3) := by decide +kernel
theorem dX0_search_114 : decode cX0_search 114 = .ok (.goto 9, 3) := by decide +kernel
theorem dX0_search_117 : decode cX0_search 117 = .ok (.iinc 6 1, 3) := by decide +kernel
theorem dX0_search_120 : decode cX0_search 120 = .ok (.goto (-112), 3) := by decide +kernel
theorem dX0_search_123 : decode cX0_search 123 = .ok (.return_, 1) := by decide +kernel
theorem dX0_turnToNext_0 : decode cX0_turnToNext 0 = .ok (.aload_n 0, 1) := by decide +kernel
theorem dX0_turnToNext_1 : decode cX0_turnToNext 1 = .ok (.getfield 12, 3) := by decide +kernel
theorem dX0_turnToNext_4 : decode cX0_turnToNext 4 = .ok (.getfield 46, 3) := by decide +kernel
theorem dX0_turnToNext_7 : decode cX0_turnToNext 7 = .ok (.astore_n 1, 1) := by decide +kernel
theorem dX0_turnToNext_8 : decode cX0_turnToNext 8 = .ok (.aload_n 0, 1) := by decide +kernel
theorem dX0_turnToNext_9 : decode cX0_turnToNext 9 = .ok (.getfield 12, 3) := by decide +kernel
theorem dX0_turnToNext_12 : decode cX0_turnToNext 12 = .ok (.getfield 26, 3) := by decide +kernel
theorem dX0_turnToNext_15 : decode cX0_turnToNext 15 = .ok (.iconst 1, 1) := by decide +kernel
theorem dX0_turnToNext_16 : decode cX0_turnToNext 16 = .ok (.isub, 1) := by decide +kernel
theorem dX0_turnToNext_17 : decode cX0_turnToNext 17 = .ok (.istore_n 2, 1) := by decide +kernel
theorem dX0_turnToNext_18 : decode cX0_turnToNext 18 = .ok (.iload_n 2, 1) := by decide +kernel
theorem dX0_turnToNext_19 : decode cX0_turnToNext 19 = .ok (.iconst 1, 1) := by decide +kernel
theorem dX0_turnToNext_20 : decode cX0_turnToNext 20 = .ok (.isub, 1) := by decide +kernel
theorem dX0_turnToNext_21 : decode cX0_turnToNext 21 = .ok (.istore_n 3, 1) := by decide +kernel
theorem dX0_turnToNext_22 : decode cX0_turnToNext 22 = .ok (.iload_n 3, 1) := by decide +kernel
theorem dX0_turnToNext_23 : decode cX0_turnToNext 23 = .ok (.ifCond .lt 20, 3) := by decide +kernel
theorem dX0_turnToNext_26 : decode cX0_turnToNext 26 = .ok (.aload_n 1, 1) := by decide +kernel
theorem dX0_turnToNext_27 : decode cX0_turnToNext 27 = .ok (.iload_n 3, 1) := by decide +kernel
theorem dX0_turnToNext_28 : decode cX0_turnToNext 28 = .ok (.iaload, 1) := by decide +kernel
theorem dX0_turnToNext_29 : decode cX0_turnToNext 29 = .ok (.aload_n 1, 1) := by decide +kernel
theorem dX0_turnToNext_30 : decode cX0_turnToNext 30 = .ok (.iload_n 3, 1) := by decide +kernel
theorem dX0_turnToNext_31 : decode cX0_turnToNext 31 = .ok (.iconst 1, 1) := by decide +kernel
theorem dX0_turnToNext_32 : decode cX0_turnToNext 32 = .ok (.iadd, 1) := by decide +kernel
theorem dX0_turnToNext_33 : decode cX0_turnToNext 33 = .ok (.iaload, 1) := by decide +kernel
theorem dX0_turnToNext_34 : decode cX0_turnToNext 34 = .ok (.if_icmp .le 9, 3) := by decide +kernel
theorem dX0_turnToNext_37 : decode cX0_turnToNext 37 = .ok (.iinc 3 (-1), 3) := by decide +kernel
theorem dX0_turnToNext_40 : decode cX0_turnToNext 40 = .ok (.goto (-18), 3) := by decide +kernel
theorem dX0_turnToNext_43 : decode cX0_turnToNext 43 = .ok (.iload_n 3, 1) := by decide +kernel
theorem dX0_turnToNext_44 : decode cX0_turnToNext 44 = .ok (.ifCond .ge 5, 3) := by decide +kernel
theorem dX0_turnToNext_47 : decode cX0_turnToNext 47 = .ok (.iconst 0, 1) := by decide +kernel
theorem dX0_turnToNext_48 : decode cX0_turnToNext 48 = .ok (.ireturn, 1) := by decide +kernel
theorem dX0_turnToNext_49 : decode cX0_turnToNext 49 = .ok (.iload_n 2, 1) := by decide +kernel
theorem dX0_turnToNext_50 : decode cX0_turnToNext 50 = .ok (.istore 4, 2) := by decide +kernel
theorem dX0_turnToNext_52 : decode cX0_turnToNext 52 = .ok (.iload 4, 2) := by decide +kernel
theorem dX0_turnToNext_54 : decode cX0_turnToNext 54 = .ok (.iload_n 3, 1) := by decide +kernel
theorem dX0_turnToNext_55 : decode cX0_turnToNext 55 = .ok (.if_icmp .le 19, 3) := by decide +kernel
theorem dX0_turnToNext_58 : decode cX0_turnToNext 58 = .ok (.aload_n 1, 1) := by decide +kernel
theorem dX0_turnToNext_59 : decode cX0_turnToNext 59 = .ok (.iload 4, 2) := by decide +kernel
theorem dX0_turnToNext_61 : decode cX0_turnToNext 61 = .ok (.iaload, 1) := by decide +kernel
theorem dX0_turnToNext_62 : decode cX0_turnToNext 62 = .ok (.aload_n 1, 1) := by decide +kernel
theorem dX0_turnToNext_63 : decode cX0_turnToNext 63 = .ok (.iload_n 3, 1) := by decide +kernel
theorem dX0_turnToNext_64 : decode cX0_turnToNext 64 = .ok (.iaload, 1) := by decide +kernel
theorem dX0_turnToNext_65 : decode cX0_turnToNext 65 = .ok (.if_icmp .ge 9, 3) := by decide +kernel
theorem dX0_turnToNext_68 : decode cX0_turnToNext 68 = .ok (.iinc 4 (-1), 3) := by decide +kernel
theorem dX0_turnToNext_71 : decode cX0_turnToNext 71 = .ok (.goto (-19), 3) := by decide +kernel
theorem dX0_turnToNext_74 : decode cX0_turnToNext 74 = .ok (.aload_n 1, 1) := by decide +kernel
theorem dX0_turnToNext_75 : decode cX0_turnToNext 75 = .ok (.iload_n 3, 1) := by decide +kernel
theorem dX0_turnToNext_76 : decode cX0_turnToNext 76 = .ok (.iload 4, 2) := by decide +kernel
theorem dX0_turnToNext_78 : decode cX0_turnToNext 78 = .ok (.invokestatic 91, 3) := by decide +kernel
theorem dX0_turnToNext_81 : decode cX0_turnToNext 81 = .ok (.iload_n 3, 1) := by decide +kernel
theorem dX0_turnToNext_82 : decode cX0_turnToNext 82 = .ok (.iconst 1, 1) := by decide +kernel
theorem dX0_turnToNext_83 : decode cX0_turnToNext 83 = .ok (.iadd, 1) := by decide +kernel
theorem dX0_turnToNext_84 : decode cX0_turnToNext 84 = .ok (.istore 5, 2) := by decide +kernel
theorem dX0_turnToNext_86 : decode cX0_turnToNext 86 = .ok (.iload_n 2, 1) := by decide +kernel
theorem dX0_turnToNext_87 : decode cX0_turnToNext 87 = .ok (.istore 6, 2) := by decide +kernel
theorem dX0_turnToNext_89 : decode cX0_turnToNext 89 = .ok (.iload 5, 2) := by decide +kernel
theorem dX0_turnToNext_91 : decode cX0_turnToNext 91 = .ok (.iload 6, 2) := by decide +kernel
theorem dX0_turnToNext_93 : decode cX0_turnToNext 93 = .ok (.if_icmp .ge 20, 3) := by decide +kernel
theorem dX0_turnToNext_96 : decode cX0_turnToNext 96 = .ok (.aload_n 1, 1) := by decide +kernel
theorem dX0_turnToNext_97 : decode cX0_turnToNext 97 = .ok (.iload 5, 2) := by decide +kernel
theorem dX0_turnToNext_99 : decode cX0_turnToNext 99 = .ok (.iload 6, 2) := by decide +kernel
theorem dX0_turnToNext_101 : decode cX0_turnToNext 101 = .ok (.invokestatic 91, 3) := by decide +kernel
theorem dX0_turnToNext_104 : decode cX0_turnToNext 104 = .ok (.iinc 5 1, 3) := by decide +kernel
theorem dX0_turnToNext_107 : decode cX0_turnToNext 107 = .ok (.iinc 6 (-1), 3) := by decide +kernel
theorem dX0_turnToNext_110 : decode cX0_turnToNext 110 = .ok (.goto (-21), 3) := by decide +kernel
theorem dX0_turnToNext_113 : decode cX0_turnToNext 113 = .ok (.iconst 1, 1) := by decide +kernel
theorem dX0_turnToNext_114 : decode cX0_turnToNext 114 = .ok (.ireturn, 1) := by decide +kernel
theorem dX0_swap_0 : decode cX0_swap 0 = .ok (.aload_n 0, 1) := by decide +kernel
theorem dX0_swap_1 : decode cX0_swap 1 = .ok (.iload_n 1, 1) := by decide +kernel
theorem dX0_swap_2 : decode cX0_swap 2 = .ok (.iaload, 1) := by decide +kernel
theorem dX0_swap_3 : decode cX0_swap 3 = .ok (.istore_n 3, 1) := by decide +kernel
theorem dX0_swap_4 : decode cX0_swap 4 = .ok (.aload_n 0, 1) := by decide +kernel
theorem dX0_swap_5 : decode cX0_swap 5 = .ok (.iload_n 1, 1) := by decide +kernel
theorem dX0_swap_6 : decode cX0_swap 6 = .ok (.aload_n 0, 1) := by decide +kernel
theorem dX0_swap_7 : decode cX0_swap 7 = .ok (.iload_n 2, 1) := by decide +kernel
theorem dX0_swap_8 : decode cX0_swap 8 = .ok (.iaload, 1) := by decide +kernel
theorem dX0_swap_9 : decode cX0_swap 9 = .ok (.iastore, 1) := by decide +kernel
theorem dX0_swap_10 : decode cX0_swap 10 = .ok (.aload_n 0, 1) := by decide +kernel
theorem dX0_swap_11 : decode cX0_swap 11 = .ok (.iload_n 2, 1) := by decide +kernel
theorem dX0_swap_12 : decode cX0_swap 12 = .ok (.iload_n 3, 1) := by decide +kernel
theorem dX0_swap_13 : decode cX0_swap 13 = .ok (.iastore, 1) := by decide +kernel
theorem dX0_swap_14 : decode cX0_swap 14 = .ok (.return_, 1) := by decide +kernel
theorem dX1_init_0 : decode cX1_init 0 = .ok (.aload_n 0, 1) := by decide +kernel
theorem dX1_init_1 : decode cX1_init 1 = .ok (.invokespecial 3, 3) := by decide +kernel
theorem dX1_init_4 : decode cX1_init 4 = .ok (.aload_n 0, 1) := by decide +kernel
theorem dX1_init_5 : decode cX1_init 5 = .ok (.iconst 2, 1) := by decide +kernel
theorem dX1_init_6 : decode cX1_init 6 = .ok (.newarray .int, 2) := by decide +kernel
theorem dX1_init_8 : decode cX1_init 8 = .ok (.putfield 9, 3) := by decide +kernel
theorem dX1_init_11 : decode cX1_init 11 = .ok (.aload_n 0, 1) := by decide +kernel
theorem dX1_init_12 : decode cX1_init 12 = .ok (.iconst 2, 1) := by decide +kernel
theorem dX1_init_13 : decode cX1_init 13 = .ok (.newarray .int, 2) := by decide +kernel
theorem dX1_init_15 : decode cX1_init 15 = .ok (.putfield 15, 3) := by decide +kernel
theorem dX1_init_18 : decode cX1_init 18 = .ok (.aload_n 0, 1) := by decide +kernel
theorem dX1_init_19 : decode cX1_init 19 = .ok (.bipush 12, 2) := by decide +kernel
theorem dX1_init_21 : decode cX1_init 21 = .ok (.newarray .int, 2) := by decide +kernel
theorem dX1_init_23 : decode cX1_init 23 = .ok (.putfield 18, 3) := by decide +kernel
theorem dX1_init_26 : decode cX1_init 26 = .ok (.aload_n 0, 1) := by decide +kernel
theorem dX1_init_27 : decode cX1_init 27 = .ok (.aload_n 1, 1) := by decide +kernel
theorem dX1_init_28 : decode cX1_init 28 = .ok (.putfield 21, 3) := by decide +kernel
theorem dX1_init_31 : decode cX1_init 31 = .ok (.aload_n 0, 1) := by decide +kernel
theorem dX1_init_32 : decode cX1_init 32 = .ok (.aload_n 2, 1) := by decide +kernel
theorem dX1_init_33 : decode cX1_init 33 = .ok (.putfield 25, 3) := by decide +kernel
theorem dX1_init_36 : decode cX1_init 36 = .ok (.aload_n 0, 1) := by decide +kernel
theorem dX1_init_37 : decode cX1_init 37 = .ok (.aload_n 3, 1) := by decide +kernel
theorem dX1_init_38 : decode cX1_init 38 = .ok (.putfield 29, 3) := by decide +kernel
theorem dX1_init_41 : decode cX1_init 41 = .ok (.return_, 1) := by decide +kernel
theorem dX1_find_0 : decode cX1_find 0 = .ok (.aload_n 0, 1) := by decide +kernel
theorem dX1_find_1 : decode cX1_find 1 = .ok (.aload_n 1, 1) := by decide +kernel
theorem dX1_find_2 : decode cX1_find 2 = .ok (.putfield 29, 3) := by decide +kernel
theorem dX1_find_5 : decode cX1_find 5 = .ok (.aload_n 0, 1) := by decide +kernel
theorem dX1_find_6 : decode cX1_find 6 = .ok (.iload_n 3, 1) := by decide +kernel
theorem dX1_find_7 : decode cX1_find 7 = .ok (.putfield 33, 3) := by decide +kernel
theorem dX1_find_10 : decode cX1_find 10 = .ok (.aload_n 0, 1) := by decide +kernel
theorem dX1_find_11 : decode cX1_find 11 = .ok (.iconst 0, 1) := by decide +kernel
theorem dX1_find_12 : decode cX1_find 12 = .ok (.putfield 37, 3) := by decide +kernel
theorem dX1_find_15 : decode cX1_find 15 = .ok (.aload_n 2, 1) := by decide +kernel
theorem dX1_find_16 : decode cX1_find 16 = .ok (.iconst 0, 1) := by decide +kernel
theorem dX1_find_17 : decode cX1_find 17 = .ok (.aload_n 0, 1) := by decide +kernel
theorem dX1_find_18 : decode cX1_find 18 = .ok (.getfield 18, 3) := by decide +kernel
theorem dX1_find_21 : decode cX1_find 21 = .ok (.iconst 0, 1) := by decide +kernel
theorem dX1_find_22 : decode cX1_find 22 = .ok (.bipush 12, 2) := by decide +kernel
theorem dX1_find_24 : decode cX1_find 24 = .ok (.invokestatic 40, 3) := by decide +kernel
theorem dX1_find_27 : decode cX1_find 27 = .ok (.aload_n 0, 1) := by decide +kernel
theorem dX1_find_28 : decode cX1_find 28 = .ok (.invokevirtual 46, 3) := by decide +kernel
theorem dX1_find_31 : decode cX1_find 31 = .ok (.ifCond .eq 11, 3) := by decide +kernel
theorem dX1_find_34 : decode cX1_find 34 = .ok (.aload_n 0, 1) := by decide +kernel
theorem dX1_find_35 : decode cX1_find 35 = .ok (.iconst 0, 1) := by decide +kernel
theorem dX1_find_36 : decode cX1_find 36 = .ok (.putfield 50, 3) := by decide +kernel
theorem dX1_find_39 : decode cX1_find 39 = .ok (.goto 36, 3) := by decide +kernel
theorem dX1_find_42 : decode cX1_find 42 = .ok (.aload_n 0, 1) := by decide +kernel
theorem dX1_find_43 : decode cX1_find 43 = .ok (.iconst 0, 1) := by decide +kernel
theorem dX1_find_44 : decode cX1_find 44 = .ok (.iconst 0, 1) := by decide +kernel
theorem dX1_find_45 : decode cX1_find 45 = .ok (.invokevirtual 53, 3) := by decide +kernel
theorem dX1_find_48 : decode cX1_find 48 = .ok (.ifCond .eq 11, 3) := by decide +kernel
theorem dX1_find_51 : decode cX1_find 51 = .ok (.aload_n 0, 1) := by decide +kernel
theorem dX1_find_52 : decode cX1_find 52 = .ok (.iconst 1, 1) := by decide +kernel
theorem dX1_find_53 : decode cX1_find 53 = .ok (.putfield 50, 3) := by decide +kernel
theorem dX1_find_56 : decode cX1_find 56 = .ok (.goto 19, 3) := by decide +kernel
theorem dX1_find_59 : decode cX1_find 59 = .ok (.aload_n 0, 1) := by decide +kernel
theorem dX1_find_60 : decode cX1_find 60 = .ok (.aload_n 0, 1) := by decide +kernel
theorem dX1_find_61 : decode cX1_find 61 = .ok (.invokevirtual 57, 3) := by decide +kernel
theorem dX1_find_64 : decode cX1_find 64 = .ok (.ifCond .eq 7, 3) := by decide +kernel
theorem dX1_find_67 : decode cX1_find 67 = .ok (.iconst 2, 1) := by decide +kernel
theorem dX1_find_68 : decode cX1_find 68 = .ok (.goto 4, 3) := by decide +kernel
theorem dX1_find_71 : decode cX1_find 71 = .ok (.iconst (-1), 1) := by decide +kernel
theorem dX1_find_72 : decode cX1_find 72 = .ok (.putfield 50, 3) := by decide +kernel
theorem dX1_find_75 : decode cX1_find 75 = .ok (.return_, 1) := by decide +kernel
theorem dX1_moveOne_0 : decode cX1_moveOne 0 = .ok (.iload_n 2, 1) := by decide +kernel
theorem dX1_moveOne_1 : decode cX1_moveOne 1 = .ok (.istore_n 3, 1) := by decide +kernel
theorem dX1_moveOne_2 : decode cX1_moveOne 2 = .ok (.iload_n 3, 1) := by decide +kernel
theorem dX1_moveOne_3 : decode cX1_moveOne 3 = .ok (.aload_n 0, 1) := by decide +kernel
theorem dX1_moveOne_4 : decode cX1_moveOne 4 = .ok (.getfield 29, 3) := by decide +kernel
theorem dX1_moveOne_7 : decode cX1_moveOne 7 = .ok (.getfield 60, 3) := by decide +kernel
theorem dX1_moveOne_10 : decode cX1_moveOne 10 = .ok (.if_icmp .ge 78, 3) := by decide +kernel
theorem dX1_moveOne_13 : decode cX1_moveOne 13 = .ok (.aload_n 0, 1) := by decide +kernel
theorem dX1_moveOne_14 : decode cX1_moveOne 14 = .ok (.getfield 18, 3) := by decide +kernel
theorem dX1_moveOne_17 : decode cX1_moveOne 17 = .ok (.iload_n 3, 1) := by decide +kernel
theorem dX1_moveOne_18 : decode cX1_moveOne 18 = .ok (.iaload, 1) := by decide +kernel
theorem dX1_moveOne_19 : decode cX1_moveOne 19 = .ok (.istore 4, 2) := by decide +kernel
theorem dX1_moveOne_21 : decode cX1_moveOne 21 = .ok (.iconst 0, 1) := by decide +kernel
theorem dX1_moveOne_22 : decode cX1_moveOne 22 = .ok (.istore 5, 2) := by decide +kernel
theorem dX1_moveOne_24 : decode cX1_moveOne 24 = .ok (.iload 5, 2) := by decide +kernel
theorem dX1_moveOne_26 : decode cX1_moveOne 26 = .ok (.aload_n 0, 1) := by decide +kernel
theorem dX1_moveOne_27 : decode cX1_moveOne 27 = .ok (.getfield 29, 3) := by decide +kernel
theorem dX1_moveOne_30 : decode cX1_moveOne 30 = .ok (.getfield 65, 3) := by decide +kernel
theorem dX1_moveOne_33 : decode cX1_moveOne 33 = .ok (.if_icmp .ge 41, 3) := by decide +kernel
theorem dX1_moveOne_36 : decode cX1_moveOne 36 = .ok (.aload_n 0, 1) := by decide +kernel
theorem dX1_moveOne_37 : decode cX1_moveOne 37 = .ok (.getfield 18, 3) := by decide +kernel
theorem dX1_moveOne_40 : decode cX1_moveOne 40 = .ok (.iload_n 3, 1) := by decide +kernel
theorem dX1_moveOne_41 : decode cX1_moveOne 41 = .ok (.iload 5, 2) := by decide +kernel
theorem dX1_moveOne_43 : decode cX1_moveOne 43 = .ok (.iastore, 1) := by decide +kernel
theorem dX1_moveOne_44 : decode cX1_moveOne 44 = .ok (.iload 5, 2) := by decide +kernel
theorem dX1_moveOne_46 : decode cX1_moveOne 46 = .ok (.iload 4, 2) := by decide +kernel
theorem dX1_moveOne_48 : decode cX1_moveOne 48 = .ok (.if_icmp .eq 20, 3) := by decide +kernel
theorem dX1_moveOne_51 : decode cX1_moveOne 51 = .ok (.aload_n 0, 1) := by decide +kernel
theorem dX1_moveOne_52 : decode cX1_moveOne 52 = .ok (.invokevirtual 46, 3) := by decide +kernel
theorem dX1_moveOne_55 : decode cX1_moveOne 55 = .ok (.ifCond .eq 13, 3) := by decide +kernel
theorem dX1_moveOne_58 : decode cX1_moveOne 58 = .ok (.aload_n 0, 1) := by decide +kernel
theorem dX1_moveOne_59 : decode cX1_moveOne 59 = .ok (.iload_n 1, 1) := by decide +kernel
theorem dX1_moveOne_60 : decode cX1_moveOne 60 = .ok (.iload_n 3, 1) := by decide +kernel
theorem dX1_moveOne_61 : decode cX1_moveOne 61 = .ok (.iload 5, 2) := by decide +kernel
theorem dX1_moveOne_63 : decode cX1_moveOne 63 = .ok (.invokevirtual 68, 3) := by decide +kernel
theorem dX1_moveOne_66 : decode cX1_moveOne 66 = .ok (.iconst 1, 1) := by decide +kernel
theorem dX1_moveOne_67 : decode cX1_moveOne 67 = .ok (.ireturn, 1) := by decide +kernel
theorem dX1_moveOne_68 : decode cX1_moveOne 68 = .ok (.iinc 5 1, 3) := by decide +kernel
theorem dX1_moveOne_71 : decode cX1_moveOne 71 = .ok (.goto (-47), 3) := by decide +kernel
theorem dX1_moveOne_74 : decode cX1_moveOne 74 = .ok (.aload_n 0, 1) := by decide +kernel
theorem dX1_moveOne_75 : decode cX1_moveOne 75 = .ok (.getfield 18, 3) := by decide +kernel
theorem dX1_moveOne_78 : decode cX1_moveOne 78 = .ok (.iload_n 3, 1) := by decide +kernel
theorem dX1_moveOne_79 : decode cX1_moveOne 79 = .ok (.iload 4, 2) := by decide +kernel
theorem dX1_moveOne_81 : decode cX1_moveOne 81 = .ok (.iastore, 1) := by decide +kernel
theorem dX1_moveOne_82 : decode cX1_moveOne 82 = .ok (.iinc 3 1, 3) := by decide +kernel
theorem dX1_moveOne_85 : decode cX1_moveOne 85 = .ok (.goto (-83), 3) := by decide +kernel
theorem dX1_moveOne_88 : decode cX1_moveOne 88 = .ok (.iconst 0, 1) := by decide +kernel
theorem dX1_moveOne_89 : decode cX1_moveOne 89 = .ok (.ireturn, 1) := by decide +kernel
theorem dX1_moveTwo_0 : decode cX1_moveTwo 0 = .ok (.iconst 0, 1) := by decide +kernel
theorem dX1_moveTwo_1 : decode cX1_moveTwo 1 = .ok (.istore_n 1, 1) := by decide +kernel
theorem dX1_moveTwo_2 : decode cX1_moveTwo 2 = .ok (.iload_n 1, 1) := by decide +kernel
theorem dX1_moveTwo_3 : decode cX1_moveTwo 3 = .ok (.aload_n 0, 1) := by decide +kernel
theorem dX1_moveTwo_4 : decode cX1_moveTwo 4 = .ok (.getfield 29, 3) := by decide +kernel
theorem dX1_moveTwo_7 : decode cX1_moveTwo 7 = .ok (.getfield 60, 3) := by decide +kernel
theorem dX1_moveTwo_10 : decode cX1_moveTwo 10 = .ok (.if_icmp .ge 74, 3) := by decide +kernel
theorem dX1_moveTwo_13 : decode cX1_moveTwo 13 = .ok (.aload_n 0, 1) := by decide +kernel
theorem dX1_moveTwo_14 : decode cX1_moveTwo 14 = .ok (.getfield 18, 3) := by decide +kernel
theorem dX1_moveTwo_17 : decode cX1_moveTwo 17 = .ok (.iload_n 1, 1) := by decide +kernel
theorem dX1_moveTwo_18 : decode cX1_moveTwo 18 = .ok (.iaload, 1) := by decide +kernel
theorem dX1_moveTwo_19 : decode cX1_moveTwo 19 = .ok (.istore_n 2, 1) := by decide +kernel
theorem dX1_moveTwo_20 : decode cX1_moveTwo 20 = .ok (.iconst 0, 1) := by decide +kernel
theorem dX1_moveTwo_21 : decode cX1_moveTwo 21 = .ok (.istore_n 3, 1) := by decide +kernel
theorem dX1_moveTwo_22 : decode cX1_moveTwo 22 = .ok (.iload_n 3, 1) := by decide +kernel
theorem dX1_moveTwo_23 : decode cX1_moveTwo 23 = .ok (.aload_n 0, 1) := by decide +kernel
theorem dX1_moveTwo_24 : decode cX1_moveTwo 24 = .ok (.getfield 29, 3) := by decide +kernel
theorem dX1_moveTwo_27 : decode cX1_moveTwo 27 = .ok (.getfield 65, 3) := by decide +kernel
theorem dX1_moveTwo_30 : decode cX1_moveTwo 30 = .ok (.if_icmp .ge 41, 3) := by decide +kernel
theorem dX1_moveTwo_33 : decode cX1_moveTwo 33 = .ok (.aload_n 0, 1) := by decide +kernel
theorem dX1_moveTwo_34 : decode cX1_moveTwo 34 = .ok (.getfield 18, 3) := by decide +kernel
theorem dX1_moveTwo_37 : decode cX1_moveTwo 37 = .ok (.iload_n 1, 1) := by decide +kernel
theorem dX1_moveTwo_38 : decode cX1_moveTwo 38 = .ok (.iload_n 3, 1) := by decide +kernel
theorem dX1_moveTwo_39 : decode cX1_moveTwo 39 = .ok (.iastore, 1) := by decide +kernel
theorem dX1_moveTwo_40 : decode cX1_moveTwo 40 = .ok (.iload_n 3, 1) := by decide +kernel
theorem dX1_moveTwo_41 : decode cX1_moveTwo 41 = .ok (.iload_n 2, 1) := by decide +kernel
theorem dX1_moveTwo_42 : decode cX1_moveTwo 42 = .ok (.if_icmp .eq 23, 3) := by decide +kernel
theorem dX1_moveTwo_45 : decode cX1_moveTwo 45 = .ok (.aload_n 0, 1) := by decide +kernel
theorem dX1_moveTwo_46 : decode cX1_moveTwo 46 = .ok (.iconst 1, 1) := by decide +kernel
theorem dX1_moveTwo_47 : decode cX1_moveTwo 47 = .ok (.iload_n 1, 1) := by decide +kernel
theorem dX1_moveTwo_48 : decode cX1_moveTwo 48 = .ok (.iconst 1, 1) := by decide +kernel
theorem dX1_moveTwo_49 : decode cX1_moveTwo 49 = .ok (.iadd, 1) := by decide +kernel
theorem dX1_moveTwo_50 : decode cX1_moveTwo 50 = .ok (.invokevirtual 53, 3) := by decide +kernel
theorem dX1_moveTwo_53 : decode cX1_moveTwo 53 = .ok (.ifCond .eq 12, 3) := by decide +kernel
theorem dX1_moveTwo_56 : decode cX1_moveTwo 56 = .ok (.aload_n 0, 1) := by decide +kernel
theorem dX1_moveTwo_57 : decode cX1_moveTwo 57 = .ok (.iconst 0, 1) := by decide +kernel
theorem dX1_moveTwo_58 : decode cX1_moveTwo 58 = .ok (.iload_n 1, 1) := by decide +kernel
theorem dX1_moveTwo_59 : decode cX1_moveTwo 59 = .ok (.iload_n 3, 1) := by decide +kernel
theorem dX1_moveTwo_60 : decode cX1_moveTwo 60 = .ok (.invokevirtual 68, 3) := by decide +kernel
theorem dX1_moveTwo_63 : decode cX1_moveTwo 63 = .ok (.iconst 1, 1) := by decide +kernel
theorem dX1_moveTwo_64 : decode cX1_moveTwo 64 = .ok (.ireturn, 1) := by decide +kernel
theorem dX1_moveTwo_65 : decode cX1_moveTwo 65 = .ok (.iinc 3 1, 3) := by decide +kernel
theorem dX1_moveTwo_68 : decode cX1_moveTwo 68 = .ok (.goto (-46), 3) := by decide +kernel
theorem dX1_moveTwo_71 : decode cX1_moveTwo 71 = .ok (.aload_n 0, 1) := by decide +kernel
theorem dX1_moveTwo_72 : decode cX1_moveTwo 72 = .ok (.getfield 18, 3) := by decide +kernel
theorem dX1_moveTwo_75 : decode cX1_moveTwo 75 = .ok (.iload_n 1, 1) := by decide +kernel
theorem dX1_moveTwo_76 : decode cX1_moveTwo 76 = .ok (.iload_n 2, 1) := by decide +kernel
theorem dX1_moveTwo_77 : decode cX1_moveTwo 77 = .ok (.iastore, 1) := by decide +kernel
theorem dX1_moveTwo_78 : decode cX1_moveTwo 78 = .ok (.iinc 1 1, 3) := by decide +kernel
theorem dX1_moveTwo_81 : decode cX1_moveTwo 81 = .ok (.goto (-79), 3) := by decide +kernel
theorem dX1_moveTwo_84 : decode cX1_moveTwo 84 = .ok (.iconst 0, 1) := by decide +kernel
theorem dX1_moveTwo_85 : decode cX1_moveTwo 85 = .ok (.ireturn, 1) := by decide +kernel
theorem dX1_hold_0 : decode cX1_hold 0 = .ok (.iload_n 1, 1) := by decide +kernel
theorem dX1_hold_1 : decode cX1_hold 1 = .ok (.ifCond .lt 8, 3) := by decide +kernel
theorem dX1_hold_4 : decode cX1_hold 4 = .ok (.iload_n 1, 1) := by decide +kernel
theorem dX1_hold_5 : decode cX1_hold 5 = .ok (.iconst 2, 1) := by decide +kernel
theorem dX1_hold_6 : decode cX1_hold 6 = .ok (.if_icmp .lt 4, 3) := by decide +kernel
theorem dX1_hold_9 : decode cX1_hold 9 = .ok (.return_, 1) := by decide +kernel
theorem dX1_hold_10 : decode cX1_hold 10 = .ok (.aload_n 0, 1) := by decide +kernel
theorem dX1_hold_11 : decode cX1_hold 11 = .ok (.getfield 9, 3) := by decide +kernel
theorem dX1_hold_14 : decode cX1_hold 14 = .ok (.iload_n 1, 1) := by decide +kernel
theorem dX1_hold_15 : decode cX1_hold 15 = .ok (.iload_n 2, 1) := by decide +kernel
theorem dX1_hold_16 : decode cX1_hold 16 = .ok (.iastore, 1) := by decide +kernel
theorem dX1_hold_17 : decode cX1_hold 17 = .ok (.aload_n 0, 1) := by decide +kernel
theorem dX1_hold_18 : decode cX1_hold 18 = .ok (.getfield 15, 3) := by decide +kernel
theorem dX1_hold_21 : decode cX1_hold 21 = .ok (.iload_n 1, 1) := by decide +kernel
theorem dX1_hold_22 : decode cX1_hold 22 = .ok (.iload_n 3, 1) := by decide +kernel
theorem dX1_hold_23 : decode cX1_hold 23 = .ok (.iastore, 1) := by decide +kernel
theorem dX1_hold_24 : decode cX1_hold 24 = .ok (.return_, 1) := by decide +kernel
theorem dX1_isInTime_0 : decode cX1_isInTime 0 = .ok (.aload_n 0, 1) := by decide +kernel
theorem dX1_isInTime_1 : decode cX1_isInTime 1 = .ok (.aload_n 0, 1) := by decide +kernel
theorem dX1_isInTime_2 : decode cX1_isInTime 2 = .ok (.getfield 37, 3) := by decide +kernel
theorem dX1_isInTime_5 : decode cX1_isInTime 5 = .ok (.invokevirtual 72, 3) := by decide +kernel
theorem dX1_isInTime_8 : decode cX1_isInTime 8 = .ok (.ifCond .ne 5, 3) := by decide +kernel
theorem dX1_isInTime_11 : decode cX1_isInTime 11 = .ok (.iconst 0, 1) := by decide +kernel
theorem dX1_isInTime_12 : decode cX1_isInTime 12 = .ok (.ireturn, 1) := by decide +kernel
theorem dX1_isInTime_13 : decode cX1_isInTime 13 = .ok (.iconst 0, 1) := by decide +kernel
theorem dX1_isInTime_14 : decode cX1_isInTime 14 = .ok (.istore_n 1, 1) := by decide +kernel
theorem dX1_isInTime_15 : decode cX1_isInTime 15 = .ok (.iload_n 1, 1) := by decide +kernel
theorem dX1_isInTime_16 : decode cX1_isInTime 16 = .ok (.aload_n 0, 1) := by decide +kernel
theorem dX1_isInTime_17 : decode cX1_isInTime 17 = .ok (.getfield 29, 3) := by decide +kernel
theorem dX1_isInTime_20 : decode cX1_isInTime 20 = .ok (.getfield 65, 3) := by decide +kernel
theorem dX1_isInTime_23 : decode cX1_isInTime 23 = .ok (.if_icmp .ge 32, 3) := by decide +kernel
theorem dX1_isInTime_26 : decode cX1_isInTime 26 = .ok (.iload_n 1, 1) := by decide +kernel
theorem dX1_isInTime_27 : decode cX1_isInTime 27 = .ok (.aload_n 0, 1) := by decide +kernel
theorem dX1_isInTime_28 : decode cX1_isInTime 28 = .ok (.getfield 37, 3) := by decide +kernel
theorem dX1_isInTime_31 : decode cX1_isInTime 31 = .ok (.if_icmp .eq 18, 3) := by decide +kernel
theorem dX1_isInTime_34 : decode cX1_isInTime 34 = .ok (.aload_n 0, 1) := by decide +kernel
theorem dX1_isInTime_35 : decode cX1_isInTime 35 = .ok (.iload_n 1, 1) := by decide +kernel
theorem dX1_isInTime_36 : decode cX1_isInTime 36 = .ok (.invokevirtual 72, 3) := by decide +kernel
theorem dX1_isInTime_39 : decode cX1_isInTime 39 = .ok (.ifCond .ne 10, 3) := by decide +kernel
theorem dX1_isInTime_42 : decode cX1_isInTime 42 = .ok (.aload_n 0, 1) := by decide +kernel
theorem dX1_isInTime_43 : decode cX1_isInTime 43 = .ok (.iload_n 1, 1) := by decide +kernel
theorem dX1_isInTime_44 : decode cX1_isInTime 44 = .ok (.putfield 37, 3) := by decide +kernel
theorem dX1_isInTime_47 : decode cX1_isInTime 47 = .ok (.iconst 0, 1) := by decide +kernel
theorem dX1_isInTime_48 : decode cX1_isInTime 48 = .ok (.ireturn, 1) := by decide +kernel
theorem dX1_isInTime_49 : decode cX1_isInTime 49 = .ok (.iinc 1 1, 3) := by decide +kernel
theorem dX1_isInTime_52 : decode cX1_isInTime 52 = .ok (.goto (-37), 3) := by decide +kernel
theorem dX1_isInTime_55 : decode cX1_isInTime 55 = .ok (.iconst 1, 1) := by decide +kernel
theorem dX1_isInTime_56 : decode cX1_isInTime 56 = .ok (.ireturn, 1) := by decide +kernel
theorem dX1_isInTimeAt_0 : decode cX1_isInTimeAt 0 = .ok (.aload_n 0, 1) := by decide +kernel
theorem dX1_isInTimeAt_1 : decode cX1_isInTimeAt 1 = .ok (.getfield 25, 3) := by decide +kernel
theorem dX1_isInTimeAt_4 : decode cX1_isInTimeAt 4 = .ok (.aload_n 0, 1) := by decide +kernel
theorem dX1_isInTimeAt_5 : decode cX1_isInTimeAt 5 = .ok (.getfield 29, 3) := by decide +kernel
theorem dX1_isInTimeAt_8 : decode cX1_isInTimeAt 8 = .ok (.aload_n 0, 1) := by decide +kernel
theorem dX1_isInTimeAt_9 : decode cX1_isInTimeAt 9 = .ok (.getfield 21, 3) := by decide +kernel
theorem dX1_isInTimeAt_12 : decode cX1_isInTimeAt 12 = .ok (.aload_n 0, 1) := by decide +kernel
theorem dX1_isInTimeAt_13 : decode cX1_isInTimeAt 13 = .ok (.getfield 18, 3) := by decide +kernel
theorem dX1_isInTimeAt_16 : decode cX1_isInTimeAt 16 = .ok (.iload_n 1, 1) := by decide +kernel
theorem dX1_isInTimeAt_17 : decode cX1_isInTimeAt 17 = .ok (.invokevirtual 76, 3) := by decide +kernel
theorem dX1_isInTimeAt_20 : decode cX1_isInTimeAt 20 = .ok (.aload_n 0, 1) := by decide +kernel
theorem dX1_isInTimeAt_21 : decode cX1_isInTimeAt 21 = .ok (.getfield 25, 3) := by decide +kernel
theorem dX1_isInTimeAt_24 : decode cX1_isInTimeAt 24 = .ok (.aload_n 0, 1) := by decide +kernel
theorem dX1_isInTimeAt_25 : decode cX1_isInTimeAt 25 = .ok (.getfield 29, 3) := by decide +kernel
theorem dX1_isInTimeAt_28 : decode cX1_isInTimeAt 28 = .ok (.aload_n 0, 1) := by decide +kernel
theorem dX1_isInTimeAt_29 : decode cX1_isInTimeAt 29 = .ok (.getfield 29, 3) := by decide +kernel
theorem dX1_isInTimeAt_32 : decode cX1_isInTimeAt 32 = .ok (.invokevirtual 82, 3) := by decide +kernel
theorem dX1_isInTimeAt_35 : decode cX1_isInTimeAt 35 = .ok (.invokevirtual 86, 3) := by decide +kernel
theorem dX1_isInTimeAt_38 : decode cX1_isInTimeAt 38 = .ok (.istore_n 2, 1) := by decide +kernel
theorem dX1_isInTimeAt_39 : decode cX1_isInTimeAt 39 = .ok (.iload_n 2, 1) := by decide +kernel
theorem dX1_isInTimeAt_40 : decode cX1_isInTimeAt 40 = .ok (.iconst (-1), 1) := by decide +kernel
theorem dX1_isInTimeAt_41 : decode cX1_isInTimeAt 41 = .ok (.if_icmp .eq 15, 3) := by decide +kernel
theorem dX1_isInTimeAt_44 : decode cX1_isInTimeAt 44 = .ok (.iload_n 2, 1) := by decide +kernel
theorem dX1_isInTimeAt_45 : decode cX1_isInTimeAt 45 = .ok (.aload_n 0, 1) := by decide +kernel
theorem dX1_isInTimeAt_46 : decode cX1_isInTimeAt 46 = .ok (.getfield 33, 3) := by decide +kernel
theorem dX1_isInTimeAt_49 : decode cX1_isInTimeAt 49 = .ok (.if_icmp .gt 7, 3) := by decide +kernel
theorem dX1_isInTimeAt_52 : decode cX1_isInTimeAt 52 = .ok (.iconst 1, 1) := by decide +kernel
theorem dX1_isInTimeAt_53 : decode cX1_isInTimeAt 53 = .ok (.goto 4, 3) := by decide +kernel
theorem dX1_isInTimeAt_56 : decode cX1_isInTimeAt 56 = .ok (.iconst 0, 1) := by decide +kernel
theorem dX1_isInTimeAt_57 : decode cX1_isInTimeAt 57 = .ok (.ireturn, 1) := by decide +kernel
theorem dX2_init_0 : decode cX2_init 0 = .ok (.aload_n 0, 1) := by decide +kernel
theorem dX2_init_1 : decode cX2_init 1 = .ok (.invokespecial 3, 3) := by decide +kernel
theorem dX2_init_4 : decode cX2_init 4 = .ok (.aload_n 0, 1) := by decide +kernel
theorem dX2_init_5 : decode cX2_init 5 = .ok (.bipush 12, 2) := by decide +kernel
theorem dX2_init_7 : decode cX2_init 7 = .ok (.newarray .int, 2) := by decide +kernel
theorem dX2_init_9 : decode cX2_init 9 = .ok (.putfield 9, 3) := by decide +kernel
theorem dX2_init_12 : decode cX2_init 12 = .ok (.aload_n 0, 1) := by decide +kernel
theorem dX2_init_13 : decode cX2_init 13 = .ok (.bipush 12, 2) := by decide +kernel
theorem dX2_init_15 : decode cX2_init 15 = .ok (.newarray .int, 2) := by decide +kernel
theorem dX2_init_17 : decode cX2_init 17 = .ok (.putfield 15, 3) := by decide +kernel
theorem dX2_init_20 : decode cX2_init 20 = .ok (.return_, 1) := by decide +kernel
theorem dX2_begin_0 : decode cX2_begin 0 = .ok (.aload_n 0, 1) := by decide +kernel
theorem dX2_begin_1 : decode cX2_begin 1 = .ok (.iconst 0, 1) := by decide +kernel
theorem dX2_begin_2 : decode cX2_begin 2 = .ok (.putfield 18, 3) := by decide +kernel
theorem dX2_begin_5 : decode cX2_begin 5 = .ok (.iconst 0, 1) := by decide +kernel
theorem dX2_begin_6 : decode cX2_begin 6 = .ok (.istore_n 2, 1) := by decide +kernel
theorem dX2_begin_7 : decode cX2_begin 7 = .ok (.iload_n 2, 1) := by decide +kernel
theorem dX2_begin_8 : decode cX2_begin 8 = .ok (.bipush 12, 2) := by decide +kernel
theorem dX2_begin_10 : decode cX2_begin 10 = .ok (.if_icmp .ge 42, 3) := by decide +kernel
theorem dX2_begin_13 : decode cX2_begin 13 = .ok (.aload_n 0, 1) := by decide +kernel
theorem dX2_begin_14 : decode cX2_begin 14 = .ok (.getfield 9, 3) := by decide +kernel
theorem dX2_begin_17 : decode cX2_begin 17 = .ok (.iload_n 2, 1) := by decide +kernel
theorem dX2_begin_18 : decode cX2_begin 18 = .ok (.iload_n 2, 1) := by decide +kernel
theorem dX2_begin_19 : decode cX2_begin 19 = .ok (.aload_n 1, 1) := by decide +kernel
theorem dX2_begin_20 : decode cX2_begin 20 = .ok (.getfield 22, 3) := by decide +kernel
theorem dX2_begin_23 : decode cX2_begin 23 = .ok (.if_icmp .ge 12, 3) := by decide +kernel
theorem dX2_begin_26 : decode cX2_begin 26 = .ok (.aload_n 1, 1) := by decide +kernel
theorem dX2_begin_27 : decode cX2_begin 27 = .ok (.getfield 27, 3) := by decide +kernel
theorem dX2_begin_30 : decode cX2_begin 30 = .ok (.iload_n 2, 1) := by decide +kernel
theorem dX2_begin_31 : decode cX2_begin 31 = .ok (.iaload, 1) := by decide +kernel
theorem dX2_begin_32 : decode cX2_begin 32 = .ok (.goto 4, 3) := by decide +kernel
theorem dX2_begin_35 : decode cX2_begin 35 = .ok (.iconst 0, 1) := by decide +kernel
theorem dX2_begin_36 : decode cX2_begin 36 = .ok (.iastore, 1) := by decide +kernel
theorem dX2_begin_37 : decode cX2_begin 37 = .ok (.aload_n 0, 1) := by decide +kernel
theorem dX2_begin_38 : decode cX2_begin 38 = .ok (.getfield 15, 3) := by decide +kernel
theorem dX2_begin_41 : decode cX2_begin 41 = .ok (.iload_n 2, 1) := by decide +kernel
theorem dX2_begin_42 : decode cX2_begin 42 = .ok (.iconst 1, 1) := by decide +kernel
theorem dX2_begin_43 : decode cX2_begin 43 = .ok (.iload_n 2, 1) := by decide +kernel
theorem dX2_begin_44 : decode cX2_begin 44 = .ok (.ishl, 1) := by decide +kernel
theorem dX2_begin_45 : decode cX2_begin 45 = .ok (.iastore, 1) := by decide +kernel
theorem dX2_begin_46 : decode cX2_begin 46 = .ok (.iinc 2 1, 3) := by decide +kernel
theorem dX2_begin_49 : decode cX2_begin 49 = .ok (.goto (-42), 3) := by decide +kernel
theorem dX2_begin_52 : decode cX2_begin 52 = .ok (.return_, 1) := by decide +kernel
theorem dX2_becomes_0 : decode cX2_becomes 0 = .ok (.aload_n 1, 1) := by decide +kernel
theorem dX2_becomes_1 : decode cX2_becomes 1 = .ok (.getfield 9, 3) := by decide +kernel
theorem dX2_becomes_4 : decode cX2_becomes 4 = .ok (.iconst 0, 1) := by decide +kernel
theorem dX2_becomes_5 : decode cX2_becomes 5 = .ok (.aload_n 0, 1) := by decide +kernel
theorem dX2_becomes_6 : decode cX2_becomes 6 = .ok (.getfield 9, 3) := by decide +kernel
theorem dX2_becomes_9 : decode cX2_becomes 9 = .ok (.iconst 0, 1) := by decide +kernel
theorem dX2_becomes_10 : decode cX2_becomes 10 = .ok (.bipush 12, 2) := by decide +kernel
theorem dX2_becomes_12 : decode cX2_becomes 12 = .ok (.invokestatic 30, 3) := by decide +kernel
theorem dX2_becomes_15 : decode cX2_becomes 15 = .ok (.aload_n 1, 1) := by decide +kernel
theorem dX2_becomes_16 : decode cX2_becomes 16 = .ok (.getfield 15, 3) := by decide +kernel
theorem dX2_becomes_19 : decode cX2_becomes 19 = .ok (.iconst 0, 1) := by decide +kernel
theorem dX2_becomes_20 : decode cX2_becomes 20 = .ok (.aload_n 0, 1) := by decide +kernel
theorem dX2_becomes_21 : decode cX2_becomes 21 = .ok (.getfield 15, 3) := by decide +kernel
theorem dX2_becomes_24 : decode cX2_becomes 24 = .ok (.iconst 0, 1) := by decide +kernel
theorem dX2_becomes_25 : decode cX2_becomes 25 = .ok (.bipush 12, 2) := by decide +kernel
theorem dX2_becomes_27 : decode cX2_becomes 27 = .ok (.invokestatic 30, 3) := by decide +kernel
theorem dX2_becomes_30 : decode cX2_becomes 30 = .ok (.aload_n 0, 1) := by decide +kernel
theorem dX2_becomes_31 : decode cX2_becomes 31 = .ok (.aload_n 1, 1) := by decide +kernel
theorem dX2_becomes_32 : decode cX2_becomes 32 = .ok (.getfield 18, 3) := by decide +kernel
theorem dX2_becomes_35 : decode cX2_becomes 35 = .ok (.putfield 18, 3) := by decide +kernel
theorem dX2_becomes_38 : decode cX2_becomes 38 = .ok (.aload_n 0, 1) := by decide +kernel
theorem dX2_becomes_39 : decode cX2_becomes 39 = .ok (.aload_n 1, 1) := by decide +kernel
theorem dX2_becomes_40 : decode cX2_becomes 40 = .ok (.getfield 36, 3) := by decide +kernel
theorem dX2_becomes_43 : decode cX2_becomes 43 = .ok (.putfield 36, 3) := by decide +kernel
theorem dX2_becomes_46 : decode cX2_becomes 46 = .ok (.return_, 1) := by decide +kernel
theorem dX2_partsAt_0 : decode cX2_partsAt 0 = .ok (.iconst 0, 1) := by decide +kernel
theorem dX2_partsAt_1 : decode cX2_partsAt 1 = .ok (.istore_n 3, 1) := by decide +kernel
theorem dX2_partsAt_2 : decode cX2_partsAt 2 = .ok (.iconst 0, 1) := by decide +kernel
theorem dX2_partsAt_3 : decode cX2_partsAt 3 = .ok (.istore 4, 2) := by decide +kernel
theorem dX2_partsAt_5 : decode cX2_partsAt 5 = .ok (.iload 4, 2) := by decide +kernel
theorem dX2_partsAt_7 : decode cX2_partsAt 7 = .ok (.iload_n 2, 1) := by decide +kernel
theorem dX2_partsAt_8 : decode cX2_partsAt 8 = .ok (.if_icmp .ge 27, 3) := by decide +kernel
theorem dX2_partsAt_11 : decode cX2_partsAt 11 = .ok (.aload_n 0, 1) := by decide +kernel
theorem dX2_partsAt_12 : decode cX2_partsAt 12 = .ok (.getfield 9, 3) := by decide +kernel
theorem dX2_partsAt_15 : decode cX2_partsAt 15 = .ok (.iload 4, 2) := by decide +kernel
theorem dX2_partsAt_17 : decode cX2_partsAt 17 = .ok (.iaload, 1) := by decide +kernel
theorem dX2_partsAt_18 : decode cX2_partsAt 18 = .ok (.iload_n 1, 1) := by decide +kernel
theorem dX2_partsAt_19 : decode cX2_partsAt 19 = .ok (.if_icmp .ne 10, 3) := by decide +kernel
theorem dX2_partsAt_22 : decode cX2_partsAt 22 = .ok (.iload_n 3, 1) := by decide +kernel
theorem dX2_partsAt_23 : decode cX2_partsAt 23 = .ok (.iconst 1, 1) := by decide +kernel
theorem dX2_partsAt_24 : decode cX2_partsAt 24 = .ok (.iload 4, 2) := by decide +kernel
theorem dX2_partsAt_26 : decode cX2_partsAt 26 = .ok (.ishl, 1) := by decide +kernel
theorem dX2_partsAt_27 : decode cX2_partsAt 27 = .ok (.ior, 1) := by decide +kernel
theorem dX2_partsAt_28 : decode cX2_partsAt 28 = .ok (.istore_n 3, 1) := by decide +kernel
theorem dX2_partsAt_29 : decode cX2_partsAt 29 = .ok (.iinc 4 1, 3) := by decide +kernel
theorem dX2_partsAt_32 : decode cX2_partsAt 32 = .ok (.goto (-27), 3) := by decide +kernel
theorem dX2_partsAt_35 : decode cX2_partsAt 35 = .ok (.iload_n 3, 1) := by decide +kernel
theorem dX2_partsAt_36 : decode cX2_partsAt 36 = .ok (.ireturn, 1) := by decide +kernel
theorem dX2_draw_0 : decode cX2_draw 0 = .ok (.aload_n 0, 1) := by decide +kernel
theorem dX2_draw_1 : decode cX2_draw 1 = .ok (.aload_n 0, 1) := by decide +kernel
theorem dX2_draw_2 : decode cX2_draw 2 = .ok (.getfield 36, 3) := by decide +kernel
theorem dX2_draw_5 : decode cX2_draw 5 = .ok (.i2l, 1) := by decide +kernel
theorem dX2_draw_6 : decode cX2_draw 6 = .ok (.ldc2_w 39, 3) := by decide +kernel
theorem dX2_draw_9 : decode cX2_draw 9 = .ok (.lmul, 1) := by decide +kernel
theorem dX2_draw_10 : decode cX2_draw 10 = .ok (.ldc2_w 41, 3) := by decide +kernel
theorem dX2_draw_13 : decode cX2_draw 13 = .ok (.ladd, 1) := by decide +kernel
theorem dX2_draw_14 : decode cX2_draw 14 = .ok (.ldc2_w 43, 3) := by decide +kernel
theorem dX2_draw_17 : decode cX2_draw 17 = .ok (.land, 1) := by decide +kernel
theorem dX2_draw_18 : decode cX2_draw 18 = .ok (.l2i, 1) := by decide +kernel
theorem dX2_draw_19 : decode cX2_draw 19 = .ok (.putfield 36, 3) := by decide +kernel
theorem dX2_draw_22 : decode cX2_draw 22 = .ok (.aload_n 0, 1) := by decide +kernel
theorem dX2_draw_23 : decode cX2_draw 23 = .ok (.getfield 36, 3) := by decide +kernel
theorem dX2_draw_26 : decode cX2_draw 26 = .ok (.ldc 45, 2) := by decide +kernel
theorem dX2_draw_28 : decode cX2_draw 28 = .ok (.idiv, 1) := by decide +kernel
theorem dX2_draw_29 : decode cX2_draw 29 = .ok (.iload_n 1, 1) := by decide +kernel
theorem dX2_draw_30 : decode cX2_draw 30 = .ok (.iconst 1, 1) := by decide +kernel
theorem dX2_draw_31 : decode cX2_draw 31 = .ok (.invokestatic 46, 3) := by decide +kernel
theorem dX2_draw_34 : decode cX2_draw 34 = .ok (.irem, 1) := by decide +kernel
theorem dX2_draw_35 : decode cX2_draw 35 = .ok (.ireturn, 1) := by decide +kernel
theorem dX3_init_0 : decode cX3_init 0 = .ok (.aload_n 0, 1) := by decide +kernel
theorem dX3_init_1 : decode cX3_init 1 = .ok (.invokespecial 3, 3) := by decide +kernel
theorem dX3_init_4 : decode cX3_init 4 = .ok (.aload_n 0, 1) := by decide +kernel
theorem dX3_init_5 : decode cX3_init 5 = .ok (.bipush 9, 2) := by decide +kernel
theorem dX3_init_7 : decode cX3_init 7 = .ok (.newarray .int, 2) := by decide +kernel
theorem dX3_init_9 : decode cX3_init 9 = .ok (.putfield 9, 3) := by decide +kernel
theorem dX3_init_12 : decode cX3_init 12 = .ok (.aload_n 0, 1) := by decide +kernel
theorem dX3_init_13 : decode cX3_init 13 = .ok (.bipush 9, 2) := by decide +kernel
theorem dX3_init_15 : decode cX3_init 15 = .ok (.newarray .int, 2) := by decide +kernel
theorem dX3_init_17 : decode cX3_init 17 = .ok (.putfield 15, 3) := by decide +kernel
theorem dX3_init_20 : decode cX3_init 20 = .ok (.aload_n 0, 1) := by decide +kernel
theorem dX3_init_21 : decode cX3_init 21 = .ok (.iconst 4, 1) := by decide +kernel
theorem dX3_init_22 : decode cX3_init 22 = .ok (.bipush 9, 2) := by decide +kernel
theorem dX3_init_24 : decode cX3_init 24 = .ok (.multianewarray 18 2, 4) := by decide +kernel
theorem dX3_init_28 : decode cX3_init 28 = .ok (.putfield 20, 3) := by decide +kernel
theorem dX3_init_31 : decode cX3_init 31 = .ok (.aload_n 0, 1) := by decide +kernel
theorem dX3_init_32 : decode cX3_init 32 = .ok (.bipush 9, 2) := by decide +kernel
theorem dX3_init_34 : decode cX3_init 34 = .ok (.bipush 9, 2) := by decide +kernel
theorem dX3_init_36 : decode cX3_init 36 = .ok (.multianewarray 18 2, 4) := by decide +kernel
theorem dX3_init_40 : decode cX3_init 40 = .ok (.putfield 23, 3) := by decide +kernel
theorem dX3_init_43 : decode cX3_init 43 = .ok (.aload_n 0, 1) := by decide +kernel
theorem dX3_init_44 : decode cX3_init 44 = .ok (.bipush 12, 2) := by decide +kernel
theorem dX3_init_46 : decode cX3_init 46 = .ok (.newarray .int, 2) := by decide +kernel
theorem dX3_init_48 : decode cX3_init 48 = .ok (.putfield 26, 3) := by decide +kernel
theorem dX3_init_51 : decode cX3_init 51 = .ok (.aload_n 0, 1) := by decide +kernel
theorem dX3_init_52 : decode cX3_init 52 = .ok (.bipush 12, 2) := by decide +kernel
theorem dX3_init_54 : decode cX3_init 54 = .ok (.newarray .int, 2) := by decide +kernel
theorem dX3_init_56 : decode cX3_init 56 = .ok (.putfield 29, 3) := by decide +kernel
theorem dX3_init_59 : decode cX3_init 59 = .ok (.aload_n 0, 1) := by decide +kernel
theorem dX3_init_60 : decode cX3_init 60 = .ok (.bipush 12, 2) := by decide +kernel
theorem dX3_init_62 : decode cX3_init 62 = .ok (.newarray .int, 2) := by decide +kernel
theorem dX3_init_64 : decode cX3_init 64 = .ok (.putfield 32, 3) := by decide +kernel
theorem dX3_init_67 : decode cX3_init 67 = .ok (.aload_n 0, 1) := by decide +kernel
theorem dX3_init_68 : decode cX3_init 68 = .ok (.bipush 12, 2) := by decide +kernel
theorem dX3_init_70 : decode cX3_init 70 = .ok (.newarray .int, 2) := by decide +kernel
theorem dX3_init_72 : decode cX3_init 72 = .ok (.putfield 35, 3) := by decide +kernel
theorem dX3_init_75 : decode cX3_init 75 = .ok (.return_, 1) := by decide +kernel
theorem dX3_learn_0 : decode cX3_learn 0 = .ok (.aload_n 0, 1) := by decide +kernel
theorem dX3_learn_1 : decode cX3_learn 1 = .ok (.invokevirtual 38, 3) := by decide +kernel
theorem dX3_learn_4 : decode cX3_learn 4 = .ok (.iconst 0, 1) := by decide +kernel
theorem dX3_learn_5 : decode cX3_learn 5 = .ok (.istore_n 2, 1) := by decide +kernel
theorem dX3_learn_6 : decode cX3_learn 6 = .ok (.iload_n 2, 1) := by decide +kernel
theorem dX3_learn_7 : decode cX3_learn 7 = .ok (.sipush 600, 3) := by decide +kernel
theorem dX3_learn_10 : decode cX3_learn 10 = .ok (.if_icmp .ge 71, 3) := by decide +kernel
theorem dX3_learn_13 : decode cX3_learn 13 = .ok (.aload_n 1, 1) := by decide +kernel
theorem dX3_learn_14 : decode cX3_learn 14 = .ok (.invokevirtual 41, 3) := by decide +kernel
theorem dX3_learn_17 : decode cX3_learn 17 = .ok (.ifCond .eq 64, 3) := by decide +kernel
theorem dX3_learn_20 : decode cX3_learn 20 = .ok (.aload_n 1, 1) := by decide +kernel
theorem dX3_learn_21 : decode cX3_learn 21 = .ok (.ldc 47, 2) := by decide +kernel
theorem dX3_learn_23 : decode cX3_learn 23 = .ok (.invokevirtual 49, 3) := by decide +kernel
theorem dX3_learn_26 : decode cX3_learn 26 = .ok (.ifCond .eq 11, 3) := by decide +kernel
theorem dX3_learn_29 : decode cX3_learn 29 = .ok (.aload_n 0, 1) := by decide +kernel
theorem dX3_learn_30 : decode cX3_learn 30 = .ok (.aload_n 1, 1) := by decide +kernel
theorem dX3_learn_31 : decode cX3_learn 31 = .ok (.invokevirtual 53, 3) := by decide +kernel
theorem dX3_learn_34 : decode cX3_learn 34 = .ok (.goto 41, 3) := by decide +kernel
theorem dX3_learn_37 : decode cX3_learn 37 = .ok (.aload_n 1, 1) := by decide +kernel
theorem dX3_learn_38 : decode cX3_learn 38 = .ok (.ldc 57, 2) := by decide +kernel
theorem dX3_learn_40 : decode cX3_learn 40 = .ok (.invokevirtual 49, 3) := by decide +kernel
theorem dX3_learn_43 : decode cX3_learn 43 = .ok (.ifCond .eq 11, 3) := by decide +kernel
theorem dX3_learn_46 : decode cX3_learn 46 = .ok (.aload_n 0, 1) := by decide +kernel
theorem dX3_learn_47 : decode cX3_learn 47 = .ok (.aload_n 1, 1) := by decide +kernel
theorem dX3_learn_48 : decode cX3_learn 48 = .ok (.invokevirtual 59, 3) := by decide +kernel
theorem dX3_learn_51 : decode cX3_learn 51 = .ok (.goto 24, 3) := by decide +kernel
theorem dX3_learn_54 : decode cX3_learn 54 = .ok (.aload_n 1, 1) := by decide +kernel
theorem dX3_learn_55 : decode cX3_learn 55 = .ok (.ldc 62, 2) := by decide +kernel
theorem dX3_learn_57 : decode cX3_learn 57 = .ok (.invokevirtual 49, 3) := by decide +kernel
theorem dX3_learn_60 : decode cX3_learn 60 = .ok (.ifCond .eq 11, 3) := by decide +kernel
theorem dX3_learn_63 : decode cX3_learn 63 = .ok (.aload_n 0, 1) := by decide +kernel
theorem dX3_learn_64 : decode cX3_learn 64 = .ok (.aload_n 1, 1) := by decide +kernel
theorem dX3_learn_65 : decode cX3_learn 65 = .ok (.invokevirtual 64, 3) := by decide +kernel
theorem dX3_learn_68 : decode cX3_learn 68 = .ok (.goto 7, 3) := by decide +kernel
theorem dX3_learn_71 : decode cX3_learn 71 = .ok (.aload_n 1, 1) := by decide +kernel
theorem dX3_learn_72 : decode cX3_learn 72 = .ok (.invokevirtual 67, 3) := by decide +kernel
theorem dX3_learn_75 : decode cX3_learn 75 = .ok (.iinc 2 1, 3) := by decide +kernel
theorem dX3_learn_78 : decode cX3_learn 78 = .ok (.goto (-72), 3) := by decide +kernel
theorem dX3_learn_81 : decode cX3_learn 81 = .ok (.aload_n 0, 1) := by decide +kernel
theorem dX3_learn_82 : decode cX3_learn 82 = .ok (.invokevirtual 70, 3) := by decide +kernel
theorem dX3_learn_85 : decode cX3_learn 85 = .ok (.return_, 1) := by decide +kernel
theorem dX3_allParts_0 : decode cX3_allParts 0 = .ok (.aload_n 0, 1) := by decide +kernel
theorem dX3_allParts_1 : decode cX3_allParts 1 = .ok (.getfield 73, 3) := by decide +kernel
theorem dX3_allParts_4 : decode cX3_allParts 4 = .ok (.invokestatic 77, 3) := by decide +kernel
theorem dX3_allParts_7 : decode cX3_allParts 7 = .ok (.ireturn, 1) := by decide +kernel
theorem dX3_canBeIn_0 : decode cX3_canBeIn 0 = .ok (.iconst 0, 1) := by decide +kernel
theorem dX3_canBeIn_1 : decode cX3_canBeIn 1 = .ok (.istore_n 2, 1) := by decide +kernel
theorem dX3_canBeIn_2 : decode cX3_canBeIn 2 = .ok (.iconst 0, 1) := by decide +kernel
theorem dX3_canBeIn_3 : decode cX3_canBeIn 3 = .ok (.istore_n 3, 1) := by decide +kernel
theorem dX3_canBeIn_4 : decode cX3_canBeIn 4 = .ok (.iload_n 3, 1) := by decide +kernel
theorem dX3_canBeIn_5 : decode cX3_canBeIn 5 = .ok (.aload_n 0, 1) := by decide +kernel
theorem dX3_canBeIn_6 : decode cX3_canBeIn 6 = .ok (.getfield 73, 3) := by decide +kernel
theorem dX3_canBeIn_9 : decode cX3_canBeIn 9 = .ok (.if_icmp .ge 36, 3) := by decide +kernel
theorem dX3_canBeIn_12 : decode cX3_canBeIn 12 = .ok (.iload_n 1, 1) := by decide +kernel
theorem dX3_canBeIn_13 : decode cX3_canBeIn 13 = .ok (.iload_n 3, 1) := by decide +kernel
theorem dX3_canBeIn_14 : decode cX3_canBeIn 14 = .ok (.invokestatic 81, 3) := by decide +kernel
theorem dX3_canBeIn_17 : decode cX3_canBeIn 17 = .ok (.ifCond .eq 22, 3) := by decide +kernel
theorem dX3_canBeIn_20 : decode cX3_canBeIn 20 = .ok (.aload_n 0, 1) := by decide +kernel
theorem dX3_canBeIn_21 : decode cX3_canBeIn 21 = .ok (.getfield 35, 3) := by decide +kernel
theorem dX3_canBeIn_24 : decode cX3_canBeIn 24 = .ok (.iload_n 3, 1) := by decide +kernel
theorem dX3_canBeIn_25 : decode cX3_canBeIn 25 = .ok (.iaload, 1) := by decide +kernel
theorem dX3_canBeIn_26 : decode cX3_canBeIn 26 = .ok (.iload_n 2, 1) := by decide +kernel
theorem dX3_canBeIn_27 : decode cX3_canBeIn 27 = .ok (.iconst (-1), 1) := by decide +kernel
theorem dX3_canBeIn_28 : decode cX3_canBeIn 28 = .ok (.ixor, 1) := by decide +kernel
theorem dX3_canBeIn_29 : decode cX3_canBeIn 29 = .ok (.iand, 1) := by decide +kernel
theorem dX3_canBeIn_30 : decode cX3_canBeIn 30 = .ok (.ifCond .ne 9, 3) := by decide +kernel
theorem dX3_canBeIn_33 : decode cX3_canBeIn 33 = .ok (.iload_n 2, 1) := by decide +kernel
theorem dX3_canBeIn_34 : decode cX3_canBeIn 34 = .ok (.iconst 1, 1) := by decide +kernel
theorem dX3_canBeIn_35 : decode cX3_canBeIn 35 = .ok (.iload_n 3, 1) := by decide +kernel
theorem dX3_canBeIn_36 : decode cX3_canBeIn 36 = .ok (.ishl, 1) := by decide +kernel
theorem dX3_canBeIn_37 : decode cX3_canBeIn 37 = .ok (.ior, 1) := by decide +kernel
theorem dX3_canBeIn_38 : decode cX3_canBeIn 38 = .ok (.istore_n 2, 1) := by decide +kernel
theorem dX3_canBeIn_39 : decode cX3_canBeIn 39 = .ok (.iinc 3 1, 3) := by decide +kernel
theorem dX3_canBeIn_42 : decode cX3_canBeIn 42 = .ok (.goto (-38), 3) := by decide +kernel
theorem dX3_canBeIn_45 : decode cX3_canBeIn 45 = .ok (.iload_n 2, 1) := by decide +kernel
theorem dX3_canBeIn_46 : decode cX3_canBeIn 46 = .ok (.ireturn, 1) := by decide +kernel
theorem dX3_gainOf_0 : decode cX3_gainOf 0 = .ok (.iconst 0, 1) := by decide +kernel
theorem dX3_gainOf_1 : decode cX3_gainOf 1 = .ok (.istore_n 2, 1) := by decide +kernel
theorem dX3_gainOf_2 : decode cX3_gainOf 2 = .ok (.iconst 0, 1) := by decide +kernel
theorem dX3_gainOf_3 : decode cX3_gainOf 3 = .ok (.istore_n 3, 1) := by decide +kernel
theorem dX3_gainOf_4 : decode cX3_gainOf 4 = .ok (.iload_n 3, 1) := by decide +kernel
theorem dX3_gainOf_5 : decode cX3_gainOf 5 = .ok (.aload_n 0, 1) := by decide +kernel
theorem dX3_gainOf_6 : decode cX3_gainOf 6 = .ok (.getfield 73, 3) := by decide +kernel
theorem dX3_gainOf_9 : decode cX3_gainOf 9 = .ok (.if_icmp .ge 26, 3) := by decide +kernel
theorem dX3_gainOf_12 : decode cX3_gainOf 12 = .ok (.iload_n 1, 1) := by decide +kernel
theorem dX3_gainOf_13 : decode cX3_gainOf 13 = .ok (.iload_n 3, 1) := by decide +kernel
theorem dX3_gainOf_14 : decode cX3_gainOf 14 = .ok (.invokestatic 81, 3) := by decide +kernel
theorem dX3_gainOf_17 : decode cX3_gainOf 17 = .ok (.ifCond .eq 12, 3) := by decide +kernel
theorem dX3_gainOf_20 : decode cX3_gainOf 20 = .ok (.iload_n 2, 1) := by decide +kernel
theorem dX3_gainOf_21 : decode cX3_gainOf 21 = .ok (.aload_n 0, 1) := by decide +kernel
theorem dX3_gainOf_22 : decode cX3_gainOf 22 = .ok (.getfield 32, 3) := by decide +kernel
theorem dX3_gainOf_25 : decode cX3_gainOf 25 = .ok (.iload_n 3, 1) := by decide +kernel
theorem dX3_gainOf_26 : decode cX3_gainOf 26 = .ok (.iaload, 1) := by decide +kernel
theorem dX3_gainOf_27 : decode cX3_gainOf 27 = .ok (.iadd, 1) := by decide +kernel
theorem dX3_gainOf_28 : decode cX3_gainOf 28 = .ok (.istore_n 2, 1) := by decide +kernel
theorem dX3_gainOf_29 : decode cX3_gainOf 29 = .ok (.iinc 3 1, 3) := by decide +kernel
theorem dX3_gainOf_32 : decode cX3_gainOf 32 = .ok (.goto (-28), 3) := by decide +kernel
theorem dX3_gainOf_35 : decode cX3_gainOf 35 = .ok (.iload_n 2, 1) := by decide +kernel
theorem dX3_gainOf_36 : decode cX3_gainOf 36 = .ok (.ireturn, 1) := by decide +kernel
theorem dX3_shareOf_0 : decode cX3_shareOf 0 = .ok (.ldc2_w 85, 3) := by decide +kernel
theorem dX3_shareOf_3 : decode cX3_shareOf 3 = .ok (.lstore 4, 2) := by decide +kernel
theorem dX3_shareOf_5 : decode cX3_shareOf 5 = .ok (.iconst 0, 1) := by decide +kernel
theorem dX3_shareOf_6 : decode cX3_shareOf 6 = .ok (.istore 6, 2) := by decide +kernel
theorem dX3_shareOf_8 : decode cX3_shareOf 8 = .ok (.iload 6, 2) := by decide +kernel
theorem dX3_shareOf_10 : decode cX3_shareOf 10 = .ok (.aload_n 0, 1) := by decide +kernel
theorem dX3_shareOf_11 : decode cX3_shareOf 11 = .ok (.getfield 87, 3) := by decide +kernel
theorem dX3_shareOf_14 : decode cX3_shareOf 14 = .ok (.if_icmp .ge 55, 3) := by decide +kernel
theorem dX3_shareOf_17 : decode cX3_shareOf 17 = .ok (.iload 6, 2) := by decide +kernel
theorem dX3_shareOf_19 : decode cX3_shareOf 19 = .ok (.iload_n 2, 1) := by decide +kernel
theorem dX3_shareOf_20 : decode cX3_shareOf 20 = .ok (.if_icmp .eq 43, 3) := by decide +kernel
theorem dX3_shareOf_23 : decode cX3_shareOf 23 = .ok (.lload 4, 2) := by decide +kernel
theorem dX3_shareOf_25 : decode cX3_shareOf 25 = .ok (.aload_n 0, 1) := by decide +kernel
theorem dX3_shareOf_26 : decode cX3_shareOf 26 = .ok (.getfield 20, 3) := by decide +kernel
theorem dX3_shareOf_29 : decode cX3_shareOf 29 = .ok (.iload_n 3, 1) := by decide +kernel
theorem dX3_shareOf_30 : decode cX3_shareOf 30 = .ok (.aaload, 1) := by decide +kernel
theorem dX3_shareOf_31 : decode cX3_shareOf 31 = .ok (.iload 6, 2) := by decide +kernel
theorem dX3_shareOf_33 : decode cX3_shareOf 33 = .ok (.iaload, 1) := by decide +kernel
theorem dX3_shareOf_34 : decode cX3_shareOf 34 = .ok (.i2l, 1) := by decide +kernel
theorem dX3_shareOf_35 : decode cX3_shareOf 35 = .ok (.lmul, 1) := by decide +kernel
theorem dX3_shareOf_36 : decode cX3_shareOf 36 = .ok (.ldc2_w 90, 3) := by decide +kernel
theorem dX3_shareOf_39 : decode cX3_shareOf 39 = .ok (.ldiv, 1) := by decide +kernel
theorem dX3_shareOf_40 : decode cX3_shareOf 40 = .ok (.lstore 7, 2) := by decide +kernel
theorem dX3_shareOf_42 : decode cX3_shareOf 42 = .ok (.iload_n 1, 1) := by decide +kernel
theorem dX3_shareOf_43 : decode cX3_shareOf 43 = .ok (.iload 6, 2) := by decide +kernel
theorem dX3_shareOf_45 : decode cX3_shareOf 45 = .ok (.invokestatic 81, 3) := by decide +kernel
theorem dX3_shareOf_48 : decode cX3_shareOf 48 = .ok (.ifCond .eq 8, 3) := by decide +kernel
theorem dX3_shareOf_51 : decode cX3_shareOf 51 = .ok (.lload 7, 2) := by decide +kernel
theorem dX3_shareOf_53 : decode cX3_shareOf 53 = .ok (.goto 8, 3) := by decide +kernel
theorem dX3_shareOf_56 : decode cX3_shareOf 56 = .ok (.lload 4, 2) := by decide +kernel
theorem dX3_shareOf_58 : decode cX3_shareOf 58 = .ok (.lload 7, 2) := by decide +kernel
theorem dX3_shareOf_60 : decode cX3_shareOf 60 = .ok (.lsub, 1) := by decide +kernel
theorem dX3_shareOf_61 : decode cX3_shareOf 61 = .ok (.lstore 4, 2) := by decide +kernel
theorem dX3_shareOf_63 : decode cX3_shareOf 63 = .ok (.iinc 6 1, 3) := by decide +kernel
theorem dX3_shareOf_66 : decode cX3_shareOf 66 = .ok (.goto (-58), 3) := by decide +kernel
theorem dX3_shareOf_69 : decode cX3_shareOf 69 = .ok (.lload 4, 2) := by decide +kernel
theorem dX3_shareOf_71 : decode cX3_shareOf 71 = .ok (.lreturn, 1) := by decide +kernel
theorem dX3_forget_0 : decode cX3_forget 0 = .ok (.aload_n 0, 1) := by decide +kernel
theorem dX3_forget_1 : decode cX3_forget 1 = .ok (.iconst 0, 1) := by decide +kernel
theorem dX3_forget_2 : decode cX3_forget 2 = .ok (.putfield 87, 3) := by decide +kernel
theorem dX3_forget_5 : decode cX3_forget 5 = .ok (.aload_n 0, 1) := by decide +kernel
theorem dX3_forget_6 : decode cX3_forget 6 = .ok (.iconst 0, 1) := by decide +kernel
theorem dX3_forget_7 : decode cX3_forget 7 = .ok (.putfield 73, 3) := by decide +kernel
theorem dX3_forget_10 : decode cX3_forget 10 = .ok (.iconst 0, 1) := by decide +kernel
theorem dX3_forget_11 : decode cX3_forget 11 = .ok (.istore_n 1, 1) := by decide +kernel
theorem dX3_forget_12 : decode cX3_forget 12 = .ok (.iload_n 1, 1) := by decide +kernel
theorem dX3_forget_13 : decode cX3_forget 13 = .ok (.bipush 9, 2) := by decide +kernel
theorem dX3_forget_15 : decode cX3_forget 15 = .ok (.if_icmp .ge 30, 3) := by decide +kernel
theorem dX3_forget_18 : decode cX3_forget 18 = .ok (.aload_n 0, 1) := by decide +kernel
theorem dX3_forget_19 : decode cX3_forget 19 = .ok (.getfield 23, 3) := by decide +kernel
theorem dX3_forget_22 : decode cX3_forget 22 = .ok (.iload_n 1, 1) := by decide +kernel
theorem dX3_forget_23 : decode cX3_forget 23 = .ok (.aaload, 1) := by decide +kernel
theorem dX3_forget_24 : decode cX3_forget 24 = .ok (.sipush 500, 3) := by decide +kernel
theorem dX3_forget_27 : decode cX3_forget 27 = .ok (.invokestatic 92, 3) := by decide +kernel
theorem dX3_forget_30 : decode cX3_forget 30 = .ok (.aload_n 0, 1) := by decide +kernel
theorem dX3_forget_31 : decode cX3_forget 31 = .ok (.getfield 23, 3) := by decide +kernel
theorem dX3_forget_34 : decode cX3_forget 34 = .ok (.iload_n 1, 1) := by decide +kernel
theorem dX3_forget_35 : decode cX3_forget 35 = .ok (.aaload, 1) := by decide +kernel
theorem dX3_forget_36 : decode cX3_forget 36 = .ok (.iload_n 1, 1) := by decide +kernel
theorem dX3_forget_37 : decode cX3_forget 37 = .ok (.iconst 0, 1) := by decide +kernel
theorem dX3_forget_38 : decode cX3_forget 38 = .ok (.iastore, 1) := by decide +kernel
theorem dX3_forget_39 : decode cX3_forget 39 = .ok (.iinc 1 1, 3) := by decide +kernel
theorem dX3_forget_42 : decode cX3_forget 42 = .ok (.goto (-30), 3) := by decide +kernel
theorem dX3_forget_45 : decode cX3_forget 45 = .ok (.return_, 1) := by decide +kernel
theorem dX3_learnHouse_0 : decode cX3_learnHouse 0 = .ok (.aload_n 0, 1) := by decide +kernel
theorem dX3_learnHouse_1 : decode cX3_learnHouse 1 = .ok (.getfield 87, 3) := by decide +kernel
theorem dX3_learnHouse_4 : decode cX3_learnHouse 4 = .ok (.bipush 9, 2) := by decide +kernel
theorem dX3_learnHouse_6 : decode cX3_learnHouse 6 = .ok (.if_icmp .lt 13, 3) := by decide +kernel
theorem dX3_learnHouse_9 : decode cX3_learnHouse 9 = .ok (.aload_n 1, 1) := by decide +kernel
theorem dX3_learnHouse_10 : decode cX3_learnHouse 10 = .ok (.iconst 3, 1) := by decide +kernel
theorem dX3_learnHouse_11 : decode cX3_learnHouse 11 = .ok (.aload_n 1, 1) := by decide +kernel
theorem dX3_learnHouse_12 : decode cX3_learnHouse 12 = .ok (.getfield 98, 3) := by decide +kernel
theorem dX3_learnHouse_15 : decode cX3_learnHouse 15 = .ok (.invokevirtual 101, 3) := by decide +kernel
theorem dX3_learnHouse_18 : decode cX3_learnHouse 18 = .ok (.return_, 1) := by decide +kernel
theorem dX3_learnHouse_19 : decode cX3_learnHouse 19 = .ok (.aload_n 0, 1) := by decide +kernel
theorem dX3_learnHouse_20 : decode cX3_learnHouse 20 = .ok (.getfield 9, 3) := by decide +kernel
theorem dX3_learnHouse_23 : decode cX3_learnHouse 23 = .ok (.aload_n 0, 1) := by decide +kernel
theorem dX3_learnHouse_24 : decode cX3_learnHouse 24 = .ok (.getfield 87, 3) := by decide +kernel
theorem dX3_learnHouse_27 : decode cX3_learnHouse 27 = .ok (.aload_n 1, 1) := by decide +kernel
theorem dX3_learnHouse_28 : decode cX3_learnHouse 28 = .ok (.iconst 0, 1) := by decide +kernel
theorem dX3_learnHouse_29 : decode cX3_learnHouse 29 = .ok (.bipush 60, 2) := by decide +kernel
theorem dX3_learnHouse_31 : decode cX3_learnHouse 31 = .ok (.invokevirtual 105, 3) := by decide +kernel
theorem dX3_learnHouse_34 : decode cX3_learnHouse 34 = .ok (.iastore, 1) := by decide +kernel
theorem dX3_learnHouse_35 : decode cX3_learnHouse 35 = .ok (.aload_n 0, 1) := by decide +kernel
theorem dX3_learnHouse_36 : decode cX3_learnHouse 36 = .ok (.getfield 15, 3) := by decide +kernel
theorem dX3_learnHouse_39 : decode cX3_learnHouse 39 = .ok (.aload_n 0, 1) := by decide +kernel
theorem dX3_learnHouse_40 : decode cX3_learnHouse 40 = .ok (.getfield 87, 3) := by decide +kernel
theorem dX3_learnHouse_43 : decode cX3_learnHouse 43 = .ok (.aload_n 1, 1) := by decide +kernel
theorem dX3_learnHouse_44 : decode cX3_learnHouse 44 = .ok (.iconst 0, 1) := by decide +kernel
theorem dX3_learnHouse_45 : decode cX3_learnHouse 45 = .ok (.bipush 60, 2) := by decide +kernel
theorem dX3_learnHouse_47 : decode cX3_learnHouse 47 = .ok (.invokevirtual 105, 3) := by decide +kernel
theorem dX3_learnHouse_50 : decode cX3_learnHouse 50 = .ok (.iastore, 1) := by decide +kernel
theorem dX3_learnHouse_51 : decode cX3_learnHouse 51 = .ok (.iconst 0, 1) := by decide +kernel
theorem dX3_learnHouse_52 : decode cX3_learnHouse 52 = .ok (.istore_n 2, 1) := by decide +kernel
theorem dX3_learnHouse_53 : decode cX3_learnHouse 53 = .ok (.iload_n 2, 1) := by decide +kernel
theorem dX3_learnHouse_54 : decode cX3_learnHouse 54 = .ok (.iconst 4, 1) := by decide +kernel
theorem dX3_learnHouse_55 : decode cX3_learnHouse 55 = .ok (.if_icmp .ge 27, 3) := by decide +kernel
theorem dX3_learnHouse_58 : decode cX3_learnHouse 58 = .ok (.aload_n 0, 1) := by decide +kernel
theorem dX3_learnHouse_59 : decode cX3_learnHouse 59 = .ok (.getfield 20, 3) := by decide +kernel
theorem dX3_learnHouse_62 : decode cX3_learnHouse 62 = .ok (.iload_n 2, 1) := by decide +kernel
theorem dX3_learnHouse_63 : decode cX3_learnHouse 63 = .ok (.aaload, 1) := by decide +kernel
theorem dX3_learnHouse_64 : decode cX3_learnHouse 64 = .ok (.aload_n 0, 1) := by decide +kernel
theorem dX3_learnHouse_65 : decode cX3_learnHouse 65 = .ok (.getfield 87, 3) := by decide +kernel
theorem dX3_learnHouse_68 : decode cX3_learnHouse 68 = .ok (.aload_n 1, 1) := by decide +kernel
theorem dX3_learnHouse_69 : decode cX3_learnHouse 69 = .ok (.iconst 0, 1) := by decide +kernel
theorem dX3_learnHouse_70 : decode cX3_learnHouse 70 = .ok (.bipush 100, 2) := by decide +kernel
theorem dX3_learnHouse_72 : decode cX3_learnHouse 72 = .ok (.invokevirtual 105, 3) := by decide +kernel
theorem dX3_learnHouse_75 : decode cX3_learnHouse 75 = .ok (.iastore, 1) := by decide +kernel
theorem dX3_learnHouse_76 : decode cX3_learnHouse 76 = .ok (.iinc 2 1, 3) := by decide +kernel
theorem dX3_learnHouse_79 : decode cX3_learnHouse 79 = .ok (.goto (-26), 3) := by decide +kernel
theorem dX3_learnHouse_82 : decode cX3_learnHouse 82 = .ok (.aload_n 1, 1) := by decide +kernel
theorem dX3_learnHouse_83 : decode cX3_learnHouse 83 = .ok (.invokevirtual 109, 3) := by decide +kernel
theorem dX3_learnHouse_86 : decode cX3_learnHouse 86 = .ok (.aload_n 0, 1) := by decide +kernel
theorem dX3_learnHouse_87 : decode cX3_learnHouse 87 = .ok (.dup, 1) := by decide +kernel
theorem dX3_learnHouse_88 : decode cX3_learnHouse 88 = .ok (.getfield 87, 3) := by decide +kernel
theorem dX3_learnHouse_91 : decode cX3_learnHouse 91 = .ok (.iconst 1, 1) := by decide +kernel
theorem dX3_learnHouse_92 : decode cX3_learnHouse 92 = .ok (.iadd, 1) := by decide +kernel
theorem dX3_learnHouse_93 : decode cX3_learnHouse 93 = .ok (.putfield 87, 3) := by decide +kernel
theorem dX3_learnHouse_96 : decode cX3_learnHouse 96 = .ok (.return_, 1) := by decide +kernel
theorem dX3_learnWay_0 : decode cX3_learnWay 0 = .ok (.aload_n 1, 1) := by decide +kernel
theorem dX3_learnWay_1 : decode cX3_learnWay 1 = .ok (.iconst 0, 1) := by decide +kernel
theorem dX3_learnWay_2 : decode cX3_learnWay 2 = .ok (.aload_n 0, 1) := by decide +kernel
theorem dX3_learnWay_3 : decode cX3_learnWay 3 = .ok (.getfield 87, 3) := by decide +kernel
theorem dX3_learnWay_6 : decode cX3_learnWay 6 = .ok (.iconst 1, 1) := by decide +kernel
theorem dX3_learnWay_7 : decode cX3_learnWay 7 = .ok (.isub, 1) := by decide +kernel
theorem dX3_learnWay_8 : decode cX3_learnWay 8 = .ok (.invokevirtual 105, 3) := by decide +kernel
theorem dX3_learnWay_11 : decode cX3_learnWay 11 = .ok (.istore_n 2, 1) := by decide +kernel
theorem dX3_learnWay_12 : decode cX3_learnWay 12 = .ok (.aload_n 1, 1) := by decide +kernel
theorem dX3_learnWay_13 : decode cX3_learnWay 13 = .ok (.iconst 0, 1) := by decide +kernel
theorem dX3_learnWay_14 : decode cX3_learnWay 14 = .ok (.aload_n 0, 1) := by decide +kernel
theorem dX3_learnWay_15 : decode cX3_learnWay 15 = .ok (.getfield 87, 3) := by decide +kernel
theorem dX3_learnWay_18 : decode cX3_learnWay 18 = .ok (.iconst 1, 1) := by decide +kernel
theorem dX3_learnWay_19 : decode cX3_learnWay 19 = .ok (.isub, 1) := by decide +kernel
theorem dX3_learnWay_20 : decode cX3_learnWay 20 = .ok (.invokevirtual 105, 3) := by decide +kernel
theorem dX3_learnWay_23 : decode cX3_learnWay 23 = .ok (.istore_n 3, 1) := by decide +kernel
theorem dX3_learnWay_24 : decode cX3_learnWay 24 = .ok (.aload_n 1, 1) := by decide +kernel
theorem dX3_learnWay_25 : decode cX3_learnWay 25 = .ok (.invokevirtual 112, 3) := by decide +kernel
theorem dX3_learnWay_28 : decode cX3_learnWay 28 = .ok (.ifCond .eq 26, 3) := by decide +kernel
theorem dX3_learnWay_31 : decode cX3_learnWay 31 = .ok (.aload_n 0, 1) := by decide +kernel
theorem dX3_learnWay_32 : decode cX3_learnWay 32 = .ok (.getfield 23, 3) := by decide +kernel
theorem dX3_learnWay_35 : decode cX3_learnWay 35 = .ok (.iload_n 2, 1) := by decide +kernel
theorem dX3_learnWay_36 : decode cX3_learnWay 36 = .ok (.aaload, 1) := by decide +kernel
theorem dX3_learnWay_37 : decode cX3_learnWay 37 = .ok (.iload_n 3, 1) := by decide +kernel
theorem dX3_learnWay_38 : decode cX3_learnWay 38 = .ok (.iaload, 1) := by decide +kernel
theorem dX3_learnWay_39 : decode cX3_learnWay 39 = .ok (.sipush 500, 3) := by decide +kernel
theorem dX3_learnWay_42 : decode cX3_learnWay 42 = .ok (.if_icmp .ge 12, 3) := by decide +kernel
theorem dX3_learnWay_45 : decode cX3_learnWay 45 = .ok (.aload_n 1, 1) := by decide +kernel
theorem dX3_learnWay_46 : decode cX3_learnWay 46 = .ok (.iconst 4, 1) := by decide +kernel
theorem dX3_learnWay_47 : decode cX3_learnWay 47 = .ok (.aload_n 1, 1) := by decide +kernel
theorem dX3_learnWay_48 : decode cX3_learnWay 48 = .ok (.getfield 98, 3) := by decide +kernel
theorem dX3_learnWay_51 : decode cX3_learnWay 51 = .ok (.invokevirtual 101, 3) := by decide +kernel
theorem dX3_learnWay_54 : decode cX3_learnWay 54 = .ok (.aload_n 1, 1) := by decide +kernel
theorem dX3_learnWay_55 : decode cX3_learnWay 55 = .ok (.iconst 1, 1) := by decide +kernel
theorem dX3_learnWay_56 : decode cX3_learnWay 56 = .ok (.bipush 99, 2) := by decide +kernel
theorem dX3_learnWay_58 : decode cX3_learnWay 58 = .ok (.invokevirtual 105, 3) := by decide +kernel
theorem dX3_learnWay_61 : decode cX3_learnWay 61 = .ok (.istore 4, 2) := by decide +kernel
theorem dX3_learnWay_63 : decode cX3_learnWay 63 = .ok (.aload_n 1, 1) := by decide +kernel
theorem dX3_learnWay_64 : decode cX3_learnWay 64 = .ok (.invokevirtual 109, 3) := by decide +kernel
theorem dX3_learnWay_67 : decode cX3_learnWay 67 = .ok (.aload_n 1, 1) := by decide +kernel
theorem dX3_learnWay_68 : decode cX3_learnWay 68 = .ok (.invokevirtual 112, 3) := by decide +kernel
theorem dX3_learnWay_71 : decode cX3_learnWay 71 = .ok (.ifCond .eq 23, 3) := by decide +kernel
theorem dX3_learnWay_74 : decode cX3_learnWay 74 = .ok (.aload_n 0, 1) := by decide +kernel
theorem dX3_learnWay_75 : decode cX3_learnWay 75 = .ok (.getfield 23, 3) := by decide +kernel
theorem dX3_learnWay_78 : decode cX3_learnWay 78 = .ok (.iload_n 2, 1) := by decide +kernel
theorem dX3_learnWay_79 : decode cX3_learnWay 79 = .ok (.aaload, 1) := by decide +kernel
theorem dX3_learnWay_80 : decode cX3_learnWay 80 = .ok (.iload_n 3, 1) := by decide +kernel
theorem dX3_learnWay_81 : decode cX3_learnWay 81 = .ok (.iload 4, 2) := by decide +kernel
theorem dX3_learnWay_83 : decode cX3_learnWay 83 = .ok (.iastore, 1) := by decide +kernel
theorem dX3_learnWay_84 : decode cX3_learnWay 84 = .ok (.aload_n 0, 1) := by decide +kernel
theorem dX3_learnWay_85 : decode cX3_learnWay 85 = .ok (.getfield 23, 3) := by decide +kernel
theorem dX3_learnWay_88 : decode cX3_learnWay 88 = .ok (.iload_n 3, 1) := by decide +kernel
theorem dX3_learnWay_89 : decode cX3_learnWay 89 = .ok (.aaload, 1) := by decide +kernel
theorem dX3_learnWay_90 : decode cX3_learnWay 90 = .ok (.iload_n 2, 1) := by decide +kernel
theorem dX3_learnWay_91 : decode cX3_learnWay 91 = .ok (.iload 4, 2) := by decide +kernel
theorem dX3_learnWay_93 : decode cX3_learnWay 93 = .ok (.iastore, 1) := by decide +kernel
theorem dX3_learnWay_94 : decode cX3_learnWay 94 = .ok (.return_, 1) := by decide +kernel
theorem dX3_learnPart_0 : decode cX3_learnPart 0 = .ok (.aload_n 0, 1) := by decide +kernel
theorem dX3_learnPart_1 : decode cX3_learnPart 1 = .ok (.getfield 73, 3) := by decide +kernel
theorem dX3_learnPart_4 : decode cX3_learnPart 4 = .ok (.bipush 12, 2) := by decide +kernel
theorem dX3_learnPart_6 : decode cX3_learnPart 6 = .ok (.if_icmp .lt 13, 3) := by decide +kernel
theorem dX3_learnPart_9 : decode cX3_learnPart 9 = .ok (.aload_n 1, 1) := by decide +kernel
theorem dX3_learnPart_10 : decode cX3_learnPart 10 = .ok (.iconst 3, 1) := by decide +kernel
theorem dX3_learnPart_11 : decode cX3_learnPart 11 = .ok (.aload_n 1, 1) := by decide +kernel
theorem dX3_learnPart_12 : decode cX3_learnPart 12 = .ok (.getfield 98, 3) := by decide +kernel
theorem dX3_learnPart_15 : decode cX3_learnPart 15 = .ok (.invokevirtual 101, 3) := by decide +kernel
theorem dX3_learnPart_18 : decode cX3_learnPart 18 = .ok (.return_, 1) := by decide +kernel
theorem dX3_learnPart_19 : decode cX3_learnPart 19 = .ok (.aload_n 0, 1) := by decide +kernel
theorem dX3_learnPart_20 : decode cX3_learnPart 20 = .ok (.getfield 26, 3) := by decide +kernel
theorem dX3_learnPart_23 : decode cX3_learnPart 23 = .ok (.aload_n 0, 1) := by decide +kernel
theorem dX3_learnPart_24 : decode cX3_learnPart 24 = .ok (.getfield 73, 3) := by decide +kernel
theorem dX3_learnPart_27 : decode cX3_learnPart 27 = .ok (.aload_n 1, 1) := by decide +kernel
theorem dX3_learnPart_28 : decode cX3_learnPart 28 = .ok (.iconst 0, 1) := by decide +kernel
theorem dX3_learnPart_29 : decode cX3_learnPart 29 = .ok (.aload_n 0, 1) := by decide +kernel
theorem dX3_learnPart_30 : decode cX3_learnPart 30 = .ok (.getfield 87, 3) := by decide +kernel
theorem dX3_learnPart_33 : decode cX3_learnPart 33 = .ok (.iconst 1, 1) := by decide +kernel
theorem dX3_learnPart_34 : decode cX3_learnPart 34 = .ok (.isub, 1) := by decide +kernel
theorem dX3_learnPart_35 : decode cX3_learnPart 35 = .ok (.invokevirtual 105, 3) := by decide +kernel
theorem dX3_learnPart_38 : decode cX3_learnPart 38 = .ok (.iastore, 1) := by decide +kernel
theorem dX3_learnPart_39 : decode cX3_learnPart 39 = .ok (.aload_n 0, 1) := by decide +kernel
theorem dX3_learnPart_40 : decode cX3_learnPart 40 = .ok (.getfield 29, 3) := by decide +kernel
theorem dX3_learnPart_43 : decode cX3_learnPart 43 = .ok (.aload_n 0, 1) := by decide +kernel
theorem dX3_learnPart_44 : decode cX3_learnPart 44 = .ok (.getfield 73, 3) := by decide +kernel
theorem dX3_learnPart_47 : decode cX3_learnPart 47 = .ok (.aload_n 1, 1) := by decide +kernel
theorem dX3_learnPart_48 : decode cX3_learnPart 48 = .ok (.iconst 0, 1) := by decide +kernel
theorem dX3_learnPart_49 : decode cX3_learnPart 49 = .ok (.bipush 60, 2) := by decide +kernel
theorem dX3_learnPart_51 : decode cX3_learnPart 51 = .ok (.invokevirtual 105, 3) := by decide +kernel
theorem dX3_learnPart_54 : decode cX3_learnPart 54 = .ok (.iastore, 1) := by decide +kernel
theorem dX3_learnPart_55 : decode cX3_learnPart 55 = .ok (.aload_n 0, 1) := by decide +kernel
theorem dX3_learnPart_56 : decode cX3_learnPart 56 = .ok (.getfield 32, 3) := by decide +kernel
theorem dX3_learnPart_59 : decode cX3_learnPart 59 = .ok (.aload_n 0, 1) := by decide +kernel
theorem dX3_learnPart_60 : decode cX3_learnPart 60 = .ok (.getfield 73, 3) := by decide +kernel
theorem dX3_learnPart_63 : decode cX3_learnPart 63 = .ok (.aload_n 1, 1) := by decide +kernel
theorem dX3_learnPart_64 : decode cX3_learnPart 64 = .ok (.iconst 0, 1) := by decide +kernel
theorem dX3_learnPart_65 : decode cX3_learnPart 65 = .ok (.bipush 99, 2) := by decide +kernel
theorem dX3_learnPart_67 : decode cX3_learnPart 67 = .ok (.invokevirtual 105, 3) := by decide +kernel
theorem dX3_learnPart_70 : decode cX3_learnPart 70 = .ok (.iastore, 1) := by decide +kernel
theorem dX3_learnPart_71 : decode cX3_learnPart 71 = .ok (.aload_n 0, 1) := by decide +kernel
theorem dX3_learnPart_72 : decode cX3_learnPart 72 = .ok (.getfield 35, 3) := by decide +kernel
theorem dX3_learnPart_75 : decode cX3_learnPart 75 = .ok (.aload_n 0, 1) := by decide +kernel
theorem dX3_learnPart_76 : decode cX3_learnPart 76 = .ok (.getfield 73, 3) := by decide +kernel
theorem dX3_learnPart_79 : decode cX3_learnPart 79 = .ok (.aload_n 1, 1) := by decide +kernel
theorem dX3_learnPart_80 : decode cX3_learnPart 80 = .ok (.ldc 115, 2) := by decide +kernel
theorem dX3_learnPart_82 : decode cX3_learnPart 82 = .ok (.invokevirtual 49, 3) := by decide +kernel
theorem dX3_learnPart_85 : decode cX3_learnPart 85 = .ok (.ifCond .eq 11, 3) := by decide +kernel
theorem dX3_learnPart_88 : decode cX3_learnPart 88 = .ok (.aload_n 0, 1) := by decide +kernel
theorem dX3_learnPart_89 : decode cX3_learnPart 89 = .ok (.aload_n 1, 1) := by decide +kernel
theorem dX3_learnPart_90 : decode cX3_learnPart 90 = .ok (.invokevirtual 117, 3) := by decide +kernel
theorem dX3_learnPart_93 : decode cX3_learnPart 93 = .ok (.goto 4, 3) := by decide +kernel
theorem dX3_learnPart_96 : decode cX3_learnPart 96 = .ok (.iconst 0, 1) := by decide +kernel
theorem dX3_learnPart_97 : decode cX3_learnPart 97 = .ok (.iastore, 1) := by decide +kernel
theorem dX3_learnPart_98 : decode cX3_learnPart 98 = .ok (.aload_n 1, 1) := by decide +kernel
theorem dX3_learnPart_99 : decode cX3_learnPart 99 = .ok (.invokevirtual 109, 3) := by decide +kernel
theorem dX3_learnPart_102 : decode cX3_learnPart 102 = .ok (.aload_n 0, 1) := by decide +kernel
theorem dX3_learnPart_103 : decode cX3_learnPart 103 = .ok (.dup, 1) := by decide +kernel
theorem dX3_learnPart_104 : decode cX3_learnPart 104 = .ok (.getfield 73, 3) := by decide +kernel
theorem dX3_learnPart_107 : decode cX3_learnPart 107 = .ok (.iconst 1, 1) := by decide +kernel
theorem dX3_learnPart_108 : decode cX3_learnPart 108 = .ok (.iadd, 1) := by decide +kernel
theorem dX3_learnPart_109 : decode cX3_learnPart 109 = .ok (.putfield 73, 3) := by decide +kernel
theorem dX3_learnPart_112 : decode cX3_learnPart 112 = .ok (.return_, 1) := by decide +kernel
theorem dX3_learnBehind_0 : decode cX3_learnBehind 0 = .ok (.iconst 0, 1) := by decide +kernel
theorem dX3_learnBehind_1 : decode cX3_learnBehind 1 = .ok (.istore_n 2, 1) := by decide +kernel
theorem dX3_learnBehind_2 : decode cX3_learnBehind 2 = .ok (.iconst 0, 1) := by decide +kernel
theorem dX3_learnBehind_3 : decode cX3_learnBehind 3 = .ok (.istore_n 3, 1) := by decide +kernel
theorem dX3_learnBehind_4 : decode cX3_learnBehind 4 = .ok (.iload_n 3, 1) := by decide +kernel
theorem dX3_learnBehind_5 : decode cX3_learnBehind 5 = .ok (.bipush 12, 2) := by decide +kernel
theorem dX3_learnBehind_7 : decode cX3_learnBehind 7 = .ok (.if_icmp .ge 73, 3) := by decide +kernel
theorem dX3_learnBehind_10 : decode cX3_learnBehind 10 = .ok (.aload_n 1, 1) := by decide +kernel
theorem dX3_learnBehind_11 : decode cX3_learnBehind 11 = .ok (.invokevirtual 112, 3) := by decide +kernel
theorem dX3_learnBehind_14 : decode cX3_learnBehind 14 = .ok (.ifCond .eq 66, 3) := by decide +kernel
theorem dX3_learnBehind_17 : decode cX3_learnBehind 17 = .ok (.aload_n 1, 1) := by decide +kernel
theorem dX3_learnBehind_18 : decode cX3_learnBehind 18 = .ok (.iconst 0, 1) := by decide +kernel
theorem dX3_learnBehind_19 : decode cX3_learnBehind 19 = .ok (.aload_n 0, 1) := by decide +kernel
theorem dX3_learnBehind_20 : decode cX3_learnBehind 20 = .ok (.getfield 73, 3) := by decide +kernel
theorem dX3_learnBehind_23 : decode cX3_learnBehind 23 = .ok (.iconst 1, 1) := by decide +kernel
theorem dX3_learnBehind_24 : decode cX3_learnBehind 24 = .ok (.isub, 1) := by decide +kernel
theorem dX3_learnBehind_25 : decode cX3_learnBehind 25 = .ok (.invokevirtual 105, 3) := by decide +kernel
theorem dX3_learnBehind_28 : decode cX3_learnBehind 28 = .ok (.istore 4, 2) := by decide +kernel
theorem dX3_learnBehind_30 : decode cX3_learnBehind 30 = .ok (.aload_n 1, 1) := by decide +kernel
theorem dX3_learnBehind_31 : decode cX3_learnBehind 31 = .ok (.invokevirtual 112, 3) := by decide +kernel
theorem dX3_learnBehind_34 : decode cX3_learnBehind 34 = .ok (.ifCond .eq 21, 3) := by decide +kernel
theorem dX3_learnBehind_37 : decode cX3_learnBehind 37 = .ok (.iload_n 2, 1) := by decide +kernel
theorem dX3_learnBehind_38 : decode cX3_learnBehind 38 = .ok (.iload 4, 2) := by decide +kernel
theorem dX3_learnBehind_40 : decode cX3_learnBehind 40 = .ok (.invokestatic 81, 3) := by decide +kernel
theorem dX3_learnBehind_43 : decode cX3_learnBehind 43 = .ok (.ifCond .eq 12, 3) := by decide +kernel
theorem dX3_learnBehind_46 : decode cX3_learnBehind 46 = .ok (.aload_n 1, 1) := by decide +kernel
theorem dX3_learnBehind_47 : decode cX3_learnBehind 47 = .ok (.iconst 4, 1) := by decide +kernel
theorem dX3_learnBehind_48 : decode cX3_learnBehind 48 = .ok (.aload_n 1, 1) := by decide +kernel
theorem dX3_learnBehind_49 : decode cX3_learnBehind 49 = .ok (.getfield 98, 3) := by decide +kernel
theorem dX3_learnBehind_52 : decode cX3_learnBehind 52 = .ok (.invokevirtual 101, 3) := by decide +kernel
theorem dX3_learnBehind_55 : decode cX3_learnBehind 55 = .ok (.iload_n 2, 1) := by decide +kernel
theorem dX3_learnBehind_56 : decode cX3_learnBehind 56 = .ok (.iconst 1, 1) := by decide +kernel
theorem dX3_learnBehind_57 : decode cX3_learnBehind 57 = .ok (.iload 4, 2) := by decide +kernel
theorem dX3_learnBehind_59 : decode cX3_learnBehind 59 = .ok (.ishl, 1) := by decide +kernel
theorem dX3_learnBehind_60 : decode cX3_learnBehind 60 = .ok (.ior, 1) := by decide +kernel
theorem dX3_learnBehind_61 : decode cX3_learnBehind 61 = .ok (.istore_n 2, 1) := by decide +kernel
theorem dX3_learnBehind_62 : decode cX3_learnBehind 62 = .ok (.aload_n 1, 1) := by decide +kernel
theorem dX3_learnBehind_63 : decode cX3_learnBehind 63 = .ok (.bipush 44, 2) := by decide +kernel
theorem dX3_learnBehind_65 : decode cX3_learnBehind 65 = .ok (.invokevirtual 121, 3) := by decide +kernel
theorem dX3_learnBehind_68 : decode cX3_learnBehind 68 = .ok (.ifCond .ne 6, 3) := by decide +kernel
theorem dX3_learnBehind_71 : decode cX3_learnBehind 71 = .ok (.goto 9, 3) := by decide +kernel
theorem dX3_learnBehind_74 : decode cX3_learnBehind 74 = .ok (.iinc 3 1, 3) := by decide +kernel
theorem dX3_learnBehind_77 : decode cX3_learnBehind 77 = .ok (.goto (-73), 3) := by decide +kernel
theorem dX3_learnBehind_80 : decode cX3_learnBehind 80 = .ok (.iload_n 2, 1) := by decide +kernel
theorem dX3_learnBehind_81 : decode cX3_learnBehind 81 = .ok (.ireturn, 1) := by decide +kernel
theorem dX3_shortenWays_0 : decode cX3_shortenWays 0 = .ok (.iconst 0, 1) := by decide +kernel
theorem dX3_shortenWays_1 : decode cX3_shortenWays 1 = .ok (.istore_n 1, 1) := by decide +kernel
theorem dX3_shortenWays_2 : decode cX3_shortenWays 2 = .ok (.iload_n 1, 1) := by decide +kernel
theorem dX3_shortenWays_3 : decode cX3_shortenWays 3 = .ok (.aload_n 0, 1) := by decide +kernel
theorem dX3_shortenWays_4 : decode cX3_shortenWays 4 = .ok (.getfield 87, 3) := by decide +kernel
theorem dX3_shortenWays_7 : decode cX3_shortenWays 7 = .ok (.if_icmp .ge 77, 3) := by decide +kernel
theorem dX3_shortenWays_10 : decode cX3_shortenWays 10 = .ok (.iconst 0, 1) := by decide +kernel
theorem dX3_shortenWays_11 : decode cX3_shortenWays 11 = .ok (.istore_n 2, 1) := by decide +kernel
theorem dX3_shortenWays_12 : decode cX3_shortenWays 12 = .ok (.iload_n 2, 1) := by decide +kernel
theorem dX3_shortenWays_13 : decode cX3_shortenWays 13 = .ok (.aload_n 0, 1) := by decide +kernel
theorem dX3_shortenWays_14 : decode cX3_shortenWays 14 = .ok (.getfield 87, 3) := by decide +kernel
theorem dX3_shortenWays_17 : decode cX3_shortenWays 17 = .ok (.if_icmp .ge 61, 3) := by decide +kernel
theorem dX3_shortenWays_20 : decode cX3_shortenWays 20 = .ok (.iconst 0, 1) := by decide +kernel
theorem dX3_shortenWays_21 : decode cX3_shortenWays 21 = .ok (.istore_n 3, 1) := by decide +kernel
theorem dX3_shortenWays_22 : decode cX3_shortenWays 22 = .ok (.iload_n 3, 1) := by decide +kernel
theorem dX3_shortenWays_23 : decode cX3_shortenWays 23 = .ok (.aload_n 0, 1) := by decide +kernel
theorem dX3_shortenWays_24 : decode cX3_shortenWays 24 = .ok (.getfield 87, 3) := by decide +kernel
theorem dX3_shortenWays_27 : decode cX3_shortenWays 27 = .ok (.if_icmp .ge 45, 3) := by decide +kernel
theorem dX3_shortenWays_30 : decode cX3_shortenWays 30 = .ok (.aload_n 0, 1) := by decide +kernel
theorem dX3_shortenWays_31 : decode cX3_shortenWays 31 = .ok (.getfield 23, 3) := by decide +kernel
theorem dX3_shortenWays_34 : decode cX3_shortenWays 34 = .ok (.iload_n 2, 1) := by decide +kernel
theorem dX3_shortenWays_35 : decode cX3_shortenWays 35 = .ok (.aaload, 1) := by decide +kernel
theorem dX3_shortenWays_36 : decode cX3_shortenWays 36 = .ok (.iload_n 3, 1) := by decide +kernel
theorem dX3_shortenWays_37 : decode cX3_shortenWays 37 = .ok (.aload_n 0, 1) := by decide +kernel
theorem dX3_shortenWays_38 : decode cX3_shortenWays 38 = .ok (.getfield 23, 3) := by decide +kernel
theorem dX3_shortenWays_41 : decode cX3_shortenWays 41 = .ok (.iload_n 2, 1) := by decide +kernel
theorem dX3_shortenWays_42 : decode cX3_shortenWays 42 = .ok (.aaload, 1) := by decide +kernel
theorem dX3_shortenWays_43 : decode cX3_shortenWays 43 = .ok (.iload_n 3, 1) := by decide +kernel
theorem dX3_shortenWays_44 : decode cX3_shortenWays 44 = .ok (.iaload, 1) := by decide +kernel
theorem dX3_shortenWays_45 : decode cX3_shortenWays 45 = .ok (.aload_n 0, 1) := by decide +kernel
theorem dX3_shortenWays_46 : decode cX3_shortenWays 46 = .ok (.getfield 23, 3) := by decide +kernel
theorem dX3_shortenWays_49 : decode cX3_shortenWays 49 = .ok (.iload_n 2, 1) := by decide +kernel
theorem dX3_shortenWays_50 : decode cX3_shortenWays 50 = .ok (.aaload, 1) := by decide +kernel
theorem dX3_shortenWays_51 : decode cX3_shortenWays 51 = .ok (.iload_n 1, 1) := by decide +kernel
theorem dX3_shortenWays_52 : decode cX3_shortenWays 52 = .ok (.iaload, 1) := by decide +kernel
theorem dX3_shortenWays_53 : decode cX3_shortenWays 53 = .ok (.aload_n 0, 1) := by decide +kernel
theorem dX3_shortenWays_54 : decode cX3_shortenWays 54 = .ok (.getfield 23, 3) := by decide +kernel
theorem dX3_shortenWays_57 : decode cX3_shortenWays 57 = .ok (.iload_n 1, 1) := by decide +kernel
theorem dX3_shortenWays_58 : decode cX3_shortenWays 58 = .ok (.aaload, 1) := by decide +kernel
theorem dX3_shortenWays_59 : decode cX3_shortenWays 59 = .ok (.iload_n 3, 1) := by decide +kernel
theorem dX3_shortenWays_60 : decode cX3_shortenWays 60 = .ok (.iaload, 1) := by decide +kernel
theorem dX3_shortenWays_61 : decode cX3_shortenWays 61 = .ok (.iadd, 1) := by decide +kernel
theorem dX3_shortenWays_62 : decode cX3_shortenWays 62 = .ok (.invokestatic 125, 3) := by decide +kernel
theorem dX3_shortenWays_65 : decode cX3_shortenWays 65 = .ok (.iastore, 1) := by decide +kernel
theorem dX3_shortenWays_66 : decode cX3_shortenWays 66 = .ok (.iinc 3 1, 3) := by decide +kernel
theorem dX3_shortenWays_69 : decode cX3_shortenWays 69 = .ok (.goto (-47), 3) := by decide +kernel
theorem dX3_shortenWays_72 : decode cX3_shortenWays 72 = .ok (.iinc 2 1, 3) := by decide +kernel
theorem dX3_shortenWays_75 : decode cX3_shortenWays 75 = .ok (.goto (-63), 3) := by decide +kernel
theorem dX3_shortenWays_78 : decode cX3_shortenWays 78 = .ok (.iinc 1 1, 3) := by decide +kernel
theorem dX3_shortenWays_81 : decode cX3_shortenWays 81 = .ok (.goto (-79), 3) := by decide +kernel
theorem dX3_shortenWays_84 : decode cX3_shortenWays 84 = .ok (.return_, 1) := by decide +kernel
theorem dX4_init_0 : decode cX4_init 0 = .ok (.aload_n 0, 1) := by decide +kernel
theorem dX4_init_1 : decode cX4_init 1 = .ok (.invokespecial 3, 3) := by decide +kernel
theorem dX4_init_4 : decode cX4_init 4 = .ok (.aload_n 0, 1) := by decide +kernel
theorem dX4_init_5 : decode cX4_init 5 = .ok (.bipush 20, 2) := by decide +kernel
theorem dX4_init_7 : decode cX4_init 7 = .ok (.newarray .int, 2) := by decide +kernel
theorem dX4_init_9 : decode cX4_init 9 = .ok (.putfield 9, 3) := by decide +kernel
theorem dX4_init_12 : decode cX4_init 12 = .ok (.aload_n 0, 1) := by decide +kernel
theorem dX4_init_13 : decode cX4_init 13 = .ok (.bipush 20, 2) := by decide +kernel
theorem dX4_init_15 : decode cX4_init 15 = .ok (.newarray .int, 2) := by decide +kernel
theorem dX4_init_17 : decode cX4_init 17 = .ok (.putfield 15, 3) := by decide +kernel
theorem dX4_init_20 : decode cX4_init 20 = .ok (.return_, 1) := by decide +kernel
theorem dX4_learn_0 : decode cX4_learn 0 = .ok (.aload_n 0, 1) := by decide +kernel
theorem dX4_learn_1 : decode cX4_learn 1 = .ok (.iconst 0, 1) := by decide +kernel
theorem dX4_learn_2 : decode cX4_learn 2 = .ok (.putfield 18, 3) := by decide +kernel
theorem dX4_learn_5 : decode cX4_learn 5 = .ok (.iconst 0, 1) := by decide +kernel
theorem dX4_learn_6 : decode cX4_learn 6 = .ok (.istore_n 3, 1) := by decide +kernel
theorem dX4_learn_7 : decode cX4_learn 7 = .ok (.iload_n 3, 1) := by decide +kernel
theorem dX4_learn_8 : decode cX4_learn 8 = .ok (.sipush 600, 3) := by decide +kernel
theorem dX4_learn_11 : decode cX4_learn 11 = .ok (.if_icmp .ge 38, 3) := by decide +kernel
theorem dX4_learn_14 : decode cX4_learn 14 = .ok (.aload_n 1, 1) := by decide +kernel
theorem dX4_learn_15 : decode cX4_learn 15 = .ok (.invokevirtual 22, 3) := by decide +kernel
theorem dX4_learn_18 : decode cX4_learn 18 = .ok (.ifCond .eq 31, 3) := by decide +kernel
theorem dX4_learn_21 : decode cX4_learn 21 = .ok (.aload_n 1, 1) := by decide +kernel
theorem dX4_learn_22 : decode cX4_learn 22 = .ok (.ldc 28, 2) := by decide +kernel
theorem dX4_learn_24 : decode cX4_learn 24 = .ok (.invokevirtual 30, 3) := by decide +kernel
theorem dX4_learn_27 : decode cX4_learn 27 = .ok (.ifCond .eq 12, 3) := by decide +kernel
theorem dX4_learn_30 : decode cX4_learn 30 = .ok (.aload_n 0, 1) := by decide +kernel
theorem dX4_learn_31 : decode cX4_learn 31 = .ok (.aload_n 1, 1) := by decide +kernel
theorem dX4_learn_32 : decode cX4_learn 32 = .ok (.iload_n 2, 1) := by decide +kernel
theorem dX4_learn_33 : decode cX4_learn 33 = .ok (.invokevirtual 34, 3) := by decide +kernel
theorem dX4_learn_36 : decode cX4_learn 36 = .ok (.goto 7, 3) := by decide +kernel
theorem dX4_learn_39 : decode cX4_learn 39 = .ok (.aload_n 1, 1) := by decide +kernel
theorem dX4_learn_40 : decode cX4_learn 40 = .ok (.invokevirtual 38, 3) := by decide +kernel
theorem dX4_learn_43 : decode cX4_learn 43 = .ok (.iinc 3 1, 3) := by decide +kernel
theorem dX4_learn_46 : decode cX4_learn 46 = .ok (.goto (-39), 3) := by decide +kernel
theorem dX4_learn_49 : decode cX4_learn 49 = .ok (.return_, 1) := by decide +kernel
theorem dX4_learnWake_0 : decode cX4_learnWake 0 = .ok (.aload_n 0, 1) := by decide +kernel
theorem dX4_learnWake_1 : decode cX4_learnWake 1 = .ok (.getfield 18, 3) := by decide +kernel
theorem dX4_learnWake_4 : decode cX4_learnWake 4 = .ok (.bipush 20, 2) := by decide +kernel
theorem dX4_learnWake_6 : decode cX4_learnWake 6 = .ok (.if_icmp .lt 13, 3) := by decide +kernel
theorem dX4_learnWake_9 : decode cX4_learnWake 9 = .ok (.aload_n 1, 1) := by decide +kernel
theorem dX4_learnWake_10 : decode cX4_learnWake 10 = .ok (.iconst 3, 1) := by decide +kernel
theorem dX4_learnWake_11 : decode cX4_learnWake 11 = .ok (.aload_n 1, 1) := by decide +kernel
theorem dX4_learnWake_12 : decode cX4_learnWake 12 = .ok (.getfield 41, 3) := by decide +kernel
theorem dX4_learnWake_15 : decode cX4_learnWake 15 = .ok (.invokevirtual 44, 3) := by decide +kernel
theorem dX4_learnWake_18 : decode cX4_learnWake 18 = .ok (.return_, 1) := by decide +kernel
theorem dX4_learnWake_19 : decode cX4_learnWake 19 = .ok (.aload_n 1, 1) := by decide +kernel
theorem dX4_learnWake_20 : decode cX4_learnWake 20 = .ok (.iconst 0, 1) := by decide +kernel
theorem dX4_learnWake_21 : decode cX4_learnWake 21 = .ok (.iload_n 2, 1) := by decide +kernel
theorem dX4_learnWake_22 : decode cX4_learnWake 22 = .ok (.iconst 1, 1) := by decide +kernel
theorem dX4_learnWake_23 : decode cX4_learnWake 23 = .ok (.isub, 1) := by decide +kernel
theorem dX4_learnWake_24 : decode cX4_learnWake 24 = .ok (.invokevirtual 48, 3) := by decide +kernel
theorem dX4_learnWake_27 : decode cX4_learnWake 27 = .ok (.istore_n 3, 1) := by decide +kernel
theorem dX4_learnWake_28 : decode cX4_learnWake 28 = .ok (.aload_n 1, 1) := by decide +kernel
theorem dX4_learnWake_29 : decode cX4_learnWake 29 = .ok (.iconst 0, 1) := by decide +kernel
theorem dX4_learnWake_30 : decode cX4_learnWake 30 = .ok (.iload_n 2, 1) := by decide +kernel
theorem dX4_learnWake_31 : decode cX4_learnWake 31 = .ok (.iconst 1, 1) := by decide +kernel
theorem dX4_learnWake_32 : decode cX4_learnWake 32 = .ok (.isub, 1) := by decide +kernel
theorem dX4_learnWake_33 : decode cX4_learnWake 33 = .ok (.invokevirtual 48, 3) := by decide +kernel
theorem dX4_learnWake_36 : decode cX4_learnWake 36 = .ok (.istore 4, 2) := by decide +kernel
theorem dX4_learnWake_38 : decode cX4_learnWake 38 = .ok (.aload_n 1, 1) := by decide +kernel
theorem dX4_learnWake_39 : decode cX4_learnWake 39 = .ok (.invokevirtual 52, 3) := by decide +kernel
theorem dX4_learnWake_42 : decode cX4_learnWake 42 = .ok (.ifCond .eq 27, 3) := by decide +kernel
theorem dX4_learnWake_45 : decode cX4_learnWake 45 = .ok (.iload_n 3, 1) := by decide +kernel
theorem dX4_learnWake_46 : decode cX4_learnWake 46 = .ok (.iload 4, 2) := by decide +kernel
theorem dX4_learnWake_48 : decode cX4_learnWake 48 = .ok (.if_icmp .eq 12, 3) := by decide +kernel
theorem dX4_learnWake_51 : decode cX4_learnWake 51 = .ok (.aload_n 0, 1) := by decide +kernel
theorem dX4_learnWake_52 : decode cX4_learnWake 52 = .ok (.iload 4, 2) := by decide +kernel
theorem dX4_learnWake_54 : decode cX4_learnWake 54 = .ok (.invokevirtual 55, 3) := by decide +kernel
theorem dX4_learnWake_57 : decode cX4_learnWake 57 = .ok (.ifCond .eq 12, 3) := by decide +kernel
theorem dX4_learnWake_60 : decode cX4_learnWake 60 = .ok (.aload_n 1, 1) := by decide +kernel
theorem dX4_learnWake_61 : decode cX4_learnWake 61 = .ok (.iconst 4, 1) := by decide +kernel
theorem dX4_learnWake_62 : decode cX4_learnWake 62 = .ok (.aload_n 1, 1) := by decide +kernel
theorem dX4_learnWake_63 : decode cX4_learnWake 63 = .ok (.getfield 41, 3) := by decide +kernel
theorem dX4_learnWake_66 : decode cX4_learnWake 66 = .ok (.invokevirtual 44, 3) := by decide +kernel
theorem dX4_learnWake_69 : decode cX4_learnWake 69 = .ok (.aload_n 1, 1) := by decide +kernel
theorem dX4_learnWake_70 : decode cX4_learnWake 70 = .ok (.invokevirtual 59, 3) := by decide +kernel
theorem dX4_learnWake_73 : decode cX4_learnWake 73 = .ok (.aload_n 0, 1) := by decide +kernel
theorem dX4_learnWake_74 : decode cX4_learnWake 74 = .ok (.getfield 9, 3) := by decide +kernel
theorem dX4_learnWake_77 : decode cX4_learnWake 77 = .ok (.aload_n 0, 1) := by decide +kernel
theorem dX4_learnWake_78 : decode cX4_learnWake 78 = .ok (.getfield 18, 3) := by decide +kernel
theorem dX4_learnWake_81 : decode cX4_learnWake 81 = .ok (.iload_n 3, 1) := by decide +kernel
theorem dX4_learnWake_82 : decode cX4_learnWake 82 = .ok (.iastore, 1) := by decide +kernel
theorem dX4_learnWake_83 : decode cX4_learnWake 83 = .ok (.aload_n 0, 1) := by decide +kernel
theorem dX4_learnWake_84 : decode cX4_learnWake 84 = .ok (.getfield 15, 3) := by decide +kernel
theorem dX4_learnWake_87 : decode cX4_learnWake 87 = .ok (.aload_n 0, 1) := by decide +kernel
theorem dX4_learnWake_88 : decode cX4_learnWake 88 = .ok (.getfield 18, 3) := by decide +kernel
theorem dX4_learnWake_91 : decode cX4_learnWake 91 = .ok (.iload 4, 2) := by decide +kernel
theorem dX4_learnWake_93 : decode cX4_learnWake 93 = .ok (.iastore, 1) := by decide +kernel
theorem dX4_learnWake_94 : decode cX4_learnWake 94 = .ok (.aload_n 0, 1) := by decide +kernel
theorem dX4_learnWake_95 : decode cX4_learnWake 95 = .ok (.dup, 1) := by decide +kernel
theorem dX4_learnWake_96 : decode cX4_learnWake 96 = .ok (.getfield 18, 3) := by decide +kernel
theorem dX4_learnWake_99 : decode cX4_learnWake 99 = .ok (.iconst 1, 1) := by decide +kernel
theorem dX4_learnWake_100 : decode cX4_learnWake 100 = .ok (.iadd, 1) := by decide +kernel
theorem dX4_learnWake_101 : decode cX4_learnWake 101 = .ok (.putfield 18, 3) := by decide +kernel
theorem dX4_learnWake_104 : decode cX4_learnWake 104 = .ok (.return_, 1) := by decide +kernel
theorem dX4_isWoken_0 : decode cX4_isWoken 0 = .ok (.iconst 0, 1) := by decide +kernel
theorem dX4_isWoken_1 : decode cX4_isWoken 1 = .ok (.istore_n 2, 1) := by decide +kernel
theorem dX4_isWoken_2 : decode cX4_isWoken 2 = .ok (.iload_n 2, 1) := by decide +kernel
theorem dX4_isWoken_3 : decode cX4_isWoken 3 = .ok (.aload_n 0, 1) := by decide +kernel
theorem dX4_isWoken_4 : decode cX4_isWoken 4 = .ok (.getfield 18, 3) := by decide +kernel
theorem dX4_isWoken_7 : decode cX4_isWoken 7 = .ok (.if_icmp .ge 21, 3) := by decide +kernel
theorem dX4_isWoken_10 : decode cX4_isWoken 10 = .ok (.aload_n 0, 1) := by decide +kernel
theorem dX4_isWoken_11 : decode cX4_isWoken 11 = .ok (.getfield 15, 3) := by decide +kernel
theorem dX4_isWoken_14 : decode cX4_isWoken 14 = .ok (.iload_n 2, 1) := by decide +kernel
theorem dX4_isWoken_15 : decode cX4_isWoken 15 = .ok (.iaload, 1) := by decide +kernel
theorem dX4_isWoken_16 : decode cX4_isWoken 16 = .ok (.iload_n 1, 1) := by decide +kernel
theorem dX4_isWoken_17 : decode cX4_isWoken 17 = .ok (.if_icmp .ne 5, 3) := by decide +kernel
theorem dX4_isWoken_20 : decode cX4_isWoken 20 = .ok (.iconst 1, 1) := by decide +kernel
theorem dX4_isWoken_21 : decode cX4_isWoken 21 = .ok (.ireturn, 1) := by decide +kernel
theorem dX4_isWoken_22 : decode cX4_isWoken 22 = .ok (.iinc 2 1, 3) := by decide +kernel
theorem dX4_isWoken_25 : decode cX4_isWoken 25 = .ok (.goto (-23), 3) := by decide +kernel
theorem dX4_isWoken_28 : decode cX4_isWoken 28 = .ok (.iconst 0, 1) := by decide +kernel
theorem dX4_isWoken_29 : decode cX4_isWoken 29 = .ok (.ireturn, 1) := by decide +kernel
theorem dX5_init_0 : decode cX5_init 0 = .ok (.aload_n 0, 1) := by decide +kernel
theorem dX5_init_1 : decode cX5_init 1 = .ok (.invokespecial 3, 3) := by decide +kernel
theorem dX5_init_4 : decode cX5_init 4 = .ok (.aload_n 0, 1) := by decide +kernel
theorem dX5_init_5 : decode cX5_init 5 = .ok (.bipush 12, 2) := by decide +kernel
theorem dX5_init_7 : decode cX5_init 7 = .ok (.newarray .int, 2) := by decide +kernel
theorem dX5_init_9 : decode cX5_init 9 = .ok (.putfield 9, 3) := by decide +kernel
theorem dX5_init_12 : decode cX5_init 12 = .ok (.aload_n 0, 1) := by decide +kernel
theorem dX5_init_13 : decode cX5_init 13 = .ok (.bipush 12, 2) := by decide +kernel
theorem dX5_init_15 : decode cX5_init 15 = .ok (.newarray .int, 2) := by decide +kernel
theorem dX5_init_17 : decode cX5_init 17 = .ok (.putfield 15, 3) := by decide +kernel
theorem dX5_init_20 : decode cX5_init 20 = .ok (.aload_n 0, 1) := by decide +kernel
theorem dX5_init_21 : decode cX5_init 21 = .ok (.iconst (-1), 1) := by decide +kernel
theorem dX5_init_22 : decode cX5_init 22 = .ok (.putfield 18, 3) := by decide +kernel
theorem dX5_init_25 : decode cX5_init 25 = .ok (.aload_n 0, 1) := by decide +kernel
theorem dX5_init_26 : decode cX5_init 26 = .ok (.bipush 12, 2) := by decide +kernel
theorem dX5_init_28 : decode cX5_init 28 = .ok (.newarray .int, 2) := by decide +kernel
theorem dX5_init_30 : decode cX5_init 30 = .ok (.putfield 22, 3) := by decide +kernel
theorem dX5_init_33 : decode cX5_init 33 = .ok (.return_, 1) := by decide +kernel
theorem dX5_gather_0 : decode cX5_gather 0 = .ok (.iconst 0, 1) := by decide +kernel
theorem dX5_gather_1 : decode cX5_gather 1 = .ok (.istore 5, 2) := by decide +kernel
theorem dX5_gather_3 : decode cX5_gather 3 = .ok (.iload 5, 2) := by decide +kernel
theorem dX5_gather_5 : decode cX5_gather 5 = .ok (.aload_n 1, 1) := by decide +kernel
theorem dX5_gather_6 : decode cX5_gather 6 = .ok (.getfield 25, 3) := by decide +kernel
theorem dX5_gather_9 : decode cX5_gather 9 = .ok (.if_icmp .ge 27, 3) := by decide +kernel
theorem dX5_gather_12 : decode cX5_gather 12 = .ok (.aload_n 0, 1) := by decide +kernel
theorem dX5_gather_13 : decode cX5_gather 13 = .ok (.getfield 9, 3) := by decide +kernel
theorem dX5_gather_16 : decode cX5_gather 16 = .ok (.iload 5, 2) := by decide +kernel
theorem dX5_gather_18 : decode cX5_gather 18 = .ok (.aload_n 2, 1) := by decide +kernel
theorem dX5_gather_19 : decode cX5_gather 19 = .ok (.aload_n 1, 1) := by decide +kernel
theorem dX5_gather_20 : decode cX5_gather 20 = .ok (.aload_n 3, 1) := by decide +kernel
theorem dX5_gather_21 : decode cX5_gather 21 = .ok (.iload 5, 2) := by decide +kernel
theorem dX5_gather_23 : decode cX5_gather 23 = .ok (.iaload, 1) := by decide +kernel
theorem dX5_gather_24 : decode cX5_gather 24 = .ok (.iload 4, 2) := by decide +kernel
theorem dX5_gather_26 : decode cX5_gather 26 = .ok (.invokevirtual 30, 3) := by decide +kernel
theorem dX5_gather_29 : decode cX5_gather 29 = .ok (.iastore, 1) := by decide +kernel
theorem dX5_gather_30 : decode cX5_gather 30 = .ok (.iinc 5 1, 3) := by decide +kernel
theorem dX5_gather_33 : decode cX5_gather 33 = .ok (.goto (-30), 3) := by decide +kernel
theorem dX5_gather_36 : decode cX5_gather 36 = .ok (.return_, 1) := by decide +kernel
theorem dX5_countNever_0 : decode cX5_countNever 0 = .ok (.iconst 0, 1) := by decide +kernel
theorem dX5_countNever_1 : decode cX5_countNever 1 = .ok (.istore_n 2, 1) := by decide +kernel
theorem dX5_countNever_2 : decode cX5_countNever 2 = .ok (.iload_n 2, 1) := by decide +kernel
theorem dX5_countNever_3 : decode cX5_countNever 3 = .ok (.iload_n 1, 1) := by decide +kernel
theorem dX5_countNever_4 : decode cX5_countNever 4 = .ok (.if_icmp .ge 24, 3) := by decide +kernel
theorem dX5_countNever_7 : decode cX5_countNever 7 = .ok (.aload_n 0, 1) := by decide +kernel
theorem dX5_countNever_8 : decode cX5_countNever 8 = .ok (.getfield 9, 3) := by decide +kernel
theorem dX5_countNever_11 : decode cX5_countNever 11 = .ok (.iload_n 2, 1) := by decide +kernel
theorem dX5_countNever_12 : decode cX5_countNever 12 = .ok (.aload_n 0, 1) := by decide +kernel
theorem dX5_countNever_13 : decode cX5_countNever 13 = .ok (.getfield 9, 3) := by decide +kernel
theorem dX5_countNever_16 : decode cX5_countNever 16 = .ok (.iload_n 2, 1) := by decide +kernel
theorem dX5_countNever_17 : decode cX5_countNever 17 = .ok (.iaload, 1) := by decide +kernel
theorem dX5_countNever_18 : decode cX5_countNever 18 = .ok (.invokestatic 36, 3) := by decide +kernel
theorem dX5_countNever_21 : decode cX5_countNever 21 = .ok (.iastore, 1) := by decide +kernel
theorem dX5_countNever_22 : decode cX5_countNever 22 = .ok (.iinc 2 1, 3) := by decide +kernel
theorem dX5_countNever_25 : decode cX5_countNever 25 = .ok (.goto (-23), 3) := by decide +kernel
theorem dX5_countNever_28 : decode cX5_countNever 28 = .ok (.return_, 1) := by decide +kernel
theorem dX5_laterThan_0 : decode cX5_laterThan 0 = .ok (.iconst 0, 1) := by decide +kernel
theorem dX5_laterThan_1 : decode cX5_laterThan 1 = .ok (.istore_n 3, 1) := by decide +kernel
theorem dX5_laterThan_2 : decode cX5_laterThan 2 = .ok (.iconst 0, 1) := by decide +kernel
theorem dX5_laterThan_3 : decode cX5_laterThan 3 = .ok (.istore 4, 2) := by decide +kernel
theorem dX5_laterThan_5 : decode cX5_laterThan 5 = .ok (.iload 4, 2) := by decide +kernel
theorem dX5_laterThan_7 : decode cX5_laterThan 7 = .ok (.iload_n 2, 1) := by decide +kernel
theorem dX5_laterThan_8 : decode cX5_laterThan 8 = .ok (.if_icmp .ge 43, 3) := by decide +kernel
theorem dX5_laterThan_11 : decode cX5_laterThan 11 = .ok (.iload_n 1, 1) := by decide +kernel
theorem dX5_laterThan_12 : decode cX5_laterThan 12 = .ok (.iconst (-1), 1) := by decide +kernel
theorem dX5_laterThan_13 : decode cX5_laterThan 13 = .ok (.if_icmp .eq 32, 3) := by decide +kernel
theorem dX5_laterThan_16 : decode cX5_laterThan 16 = .ok (.aload_n 0, 1) := by decide +kernel
theorem dX5_laterThan_17 : decode cX5_laterThan 17 = .ok (.getfield 9, 3) := by decide +kernel
theorem dX5_laterThan_20 : decode cX5_laterThan 20 = .ok (.iload 4, 2) := by decide +kernel
theorem dX5_laterThan_22 : decode cX5_laterThan 22 = .ok (.iaload, 1) := by decide +kernel
theorem dX5_laterThan_23 : decode cX5_laterThan 23 = .ok (.iconst (-1), 1) := by decide +kernel
theorem dX5_laterThan_24 : decode cX5_laterThan 24 = .ok (.if_icmp .eq 14, 3) := by decide +kernel
theorem dX5_laterThan_27 : decode cX5_laterThan 27 = .ok (.iload_n 1, 1) := by decide +kernel
theorem dX5_laterThan_28 : decode cX5_laterThan 28 = .ok (.aload_n 0, 1) := by decide +kernel
theorem dX5_laterThan_29 : decode cX5_laterThan 29 = .ok (.getfield 9, 3) := by decide +kernel
theorem dX5_laterThan_32 : decode cX5_laterThan 32 = .ok (.iload 4, 2) := by decide +kernel
theorem dX5_laterThan_34 : decode cX5_laterThan 34 = .ok (.iaload, 1) := by decide +kernel
theorem dX5_laterThan_35 : decode cX5_laterThan 35 = .ok (.if_icmp .ge 10, 3) := by decide +kernel
theorem dX5_laterThan_38 : decode cX5_laterThan 38 = .ok (.iload_n 3, 1) := by decide +kernel
theorem dX5_laterThan_39 : decode cX5_laterThan 39 = .ok (.iconst 1, 1) := by decide +kernel
theorem dX5_laterThan_40 : decode cX5_laterThan 40 = .ok (.iload 4, 2) := by decide +kernel
theorem dX5_laterThan_42 : decode cX5_laterThan 42 = .ok (.ishl, 1) := by decide +kernel
theorem dX5_laterThan_43 : decode cX5_laterThan 43 = .ok (.ior, 1) := by decide +kernel
theorem dX5_laterThan_44 : decode cX5_laterThan 44 = .ok (.istore_n 3, 1) := by decide +kernel
theorem dX5_laterThan_45 : decode cX5_laterThan 45 = .ok (.iinc 4 1, 3) := by decide +kernel
theorem dX5_laterThan_48 : decode cX5_laterThan 48 = .ok (.goto (-43), 3) := by decide +kernel
theorem dX5_laterThan_51 : decode cX5_laterThan 51 = .ok (.iload_n 3, 1) := by decide +kernel
theorem dX5_laterThan_52 : decode cX5_laterThan 52 = .ok (.ireturn, 1) := by decide +kernel
theorem dX5_run_0 : decode cX5_run 0 = .ok (.aload_n 0, 1) := by decide +kernel
theorem dX5_run_1 : decode cX5_run 1 = .ok (.iconst 0, 1) := by decide +kernel
theorem dX5_run_2 : decode cX5_run 2 = .ok (.putfield 40, 3) := by decide +kernel
theorem dX5_run_5 : decode cX5_run 5 = .ok (.aload_n 0, 1) := by decide +kernel
theorem dX5_run_6 : decode cX5_run 6 = .ok (.iconst (-1), 1) := by decide +kernel
theorem dX5_run_7 : decode cX5_run 7 = .ok (.putfield 18, 3) := by decide +kernel
theorem dX5_run_10 : decode cX5_run 10 = .ok (.iconst 0, 1) := by decide +kernel
theorem dX5_run_11 : decode cX5_run 11 = .ok (.istore_n 3, 1) := by decide +kernel
theorem dX5_run_12 : decode cX5_run 12 = .ok (.iload_n 3, 1) := by decide +kernel
theorem dX5_run_13 : decode cX5_run 13 = .ok (.aload_n 1, 1) := by decide +kernel
theorem dX5_run_14 : decode cX5_run 14 = .ok (.getfield 25, 3) := by decide +kernel
theorem dX5_run_17 : decode cX5_run 17 = .ok (.if_icmp .ge 40, 3) := by decide +kernel
theorem dX5_run_20 : decode cX5_run 20 = .ok (.iload_n 2, 1) := by decide +kernel
theorem dX5_run_21 : decode cX5_run 21 = .ok (.iload_n 3, 1) := by decide +kernel
theorem dX5_run_22 : decode cX5_run 22 = .ok (.invokestatic 43, 3) := by decide +kernel
theorem dX5_run_25 : decode cX5_run 25 = .ok (.ifCond .eq 26, 3) := by decide +kernel
theorem dX5_run_28 : decode cX5_run 28 = .ok (.aload_n 0, 1) := by decide +kernel
theorem dX5_run_29 : decode cX5_run 29 = .ok (.getfield 9, 3) := by decide +kernel
theorem dX5_run_32 : decode cX5_run 32 = .ok (.iload_n 3, 1) := by decide +kernel
theorem dX5_run_33 : decode cX5_run 33 = .ok (.iaload, 1) := by decide +kernel
theorem dX5_run_34 : decode cX5_run 34 = .ok (.iconst (-1), 1) := by decide +kernel
theorem dX5_run_35 : decode cX5_run 35 = .ok (.if_icmp .ne 5, 3) := by decide +kernel
theorem dX5_run_38 : decode cX5_run 38 = .ok (.iconst (-1), 1) := by decide +kernel
theorem dX5_run_39 : decode cX5_run 39 = .ok (.ireturn, 1) := by decide +kernel
theorem dX5_run_40 : decode cX5_run 40 = .ok (.aload_n 0, 1) := by decide +kernel
theorem dX5_run_41 : decode cX5_run 41 = .ok (.aload_n 1, 1) := by decide +kernel
theorem dX5_run_42 : decode cX5_run 42 = .ok (.iload_n 3, 1) := by decide +kernel
theorem dX5_run_43 : decode cX5_run 43 = .ok (.invokevirtual 47, 3) := by decide +kernel
theorem dX5_run_46 : decode cX5_run 46 = .ok (.aload_n 0, 1) := by decide +kernel
theorem dX5_run_47 : decode cX5_run 47 = .ok (.iload_n 3, 1) := by decide +kernel
theorem dX5_run_48 : decode cX5_run 48 = .ok (.invokevirtual 51, 3) := by decide +kernel
theorem dX5_run_51 : decode cX5_run 51 = .ok (.iinc 3 1, 3) := by decide +kernel
theorem dX5_run_54 : decode cX5_run 54 = .ok (.goto (-42), 3) := by decide +kernel
theorem dX5_run_57 : decode cX5_run 57 = .ok (.aload_n 0, 1) := by decide +kernel
theorem dX5_run_58 : decode cX5_run 58 = .ok (.aload_n 1, 1) := by decide +kernel
theorem dX5_run_59 : decode cX5_run 59 = .ok (.invokevirtual 55, 3) := by decide +kernel
theorem dX5_run_62 : decode cX5_run 62 = .ok (.ireturn, 1) := by decide +kernel
theorem dX5_makeReady_0 : decode cX5_makeReady 0 = .ok (.aload_n 0, 1) := by decide +kernel
theorem dX5_makeReady_1 : decode cX5_makeReady 1 = .ok (.getfield 9, 3) := by decide +kernel
theorem dX5_makeReady_4 : decode cX5_makeReady 4 = .ok (.iload_n 2, 1) := by decide +kernel
theorem dX5_makeReady_5 : decode cX5_makeReady 5 = .ok (.iaload, 1) := by decide +kernel
theorem dX5_makeReady_6 : decode cX5_makeReady 6 = .ok (.istore_n 3, 1) := by decide +kernel
theorem dX5_makeReady_7 : decode cX5_makeReady 7 = .ok (.iconst 0, 1) := by decide +kernel
theorem dX5_makeReady_8 : decode cX5_makeReady 8 = .ok (.istore 4, 2) := by decide +kernel
theorem dX5_makeReady_10 : decode cX5_makeReady 10 = .ok (.iload 4, 2) := by decide +kernel
theorem dX5_makeReady_12 : decode cX5_makeReady 12 = .ok (.iload_n 2, 1) := by decide +kernel
theorem dX5_makeReady_13 : decode cX5_makeReady 13 = .ok (.if_icmp .ge 43, 3) := by decide +kernel
theorem dX5_makeReady_16 : decode cX5_makeReady 16 = .ok (.aload_n 1, 1) := by decide +kernel
theorem dX5_makeReady_17 : decode cX5_makeReady 17 = .ok (.getfield 59, 3) := by decide +kernel
theorem dX5_makeReady_20 : decode cX5_makeReady 20 = .ok (.iload_n 2, 1) := by decide +kernel
theorem dX5_makeReady_21 : decode cX5_makeReady 21 = .ok (.iaload, 1) := by decide +kernel
theorem dX5_makeReady_22 : decode cX5_makeReady 22 = .ok (.iload 4, 2) := by decide +kernel
theorem dX5_makeReady_24 : decode cX5_makeReady 24 = .ok (.invokestatic 43, 3) := by decide +kernel
theorem dX5_makeReady_27 : decode cX5_makeReady 27 = .ok (.ifCond .eq 23, 3) := by decide +kernel
theorem dX5_makeReady_30 : decode cX5_makeReady 30 = .ok (.iload_n 3, 1) := by decide +kernel
theorem dX5_makeReady_31 : decode cX5_makeReady 31 = .ok (.aload_n 0, 1) := by decide +kernel
theorem dX5_makeReady_32 : decode cX5_makeReady 32 = .ok (.getfield 22, 3) := by decide +kernel
theorem dX5_makeReady_35 : decode cX5_makeReady 35 = .ok (.iload 4, 2) := by decide +kernel
theorem dX5_makeReady_37 : decode cX5_makeReady 37 = .ok (.iaload, 1) := by decide +kernel
theorem dX5_makeReady_38 : decode cX5_makeReady 38 = .ok (.aload_n 1, 1) := by decide +kernel
theorem dX5_makeReady_39 : decode cX5_makeReady 39 = .ok (.getfield 62, 3) := by decide +kernel
theorem dX5_makeReady_42 : decode cX5_makeReady 42 = .ok (.iload 4, 2) := by decide +kernel
theorem dX5_makeReady_44 : decode cX5_makeReady 44 = .ok (.iaload, 1) := by decide +kernel
theorem dX5_makeReady_45 : decode cX5_makeReady 45 = .ok (.iadd, 1) := by decide +kernel
theorem dX5_makeReady_46 : decode cX5_makeReady 46 = .ok (.invokestatic 65, 3) := by decide +kernel
theorem dX5_makeReady_49 : decode cX5_makeReady 49 = .ok (.istore_n 3, 1) := by decide +kernel
theorem dX5_makeReady_50 : decode cX5_makeReady 50 = .ok (.iinc 4 1, 3) := by decide +kernel
theorem dX5_makeReady_53 : decode cX5_makeReady 53 = .ok (.goto (-43), 3) := by decide +kernel
theorem dX5_makeReady_56 : decode cX5_makeReady 56 = .ok (.aload_n 0, 1) := by decide +kernel
theorem dX5_makeReady_57 : decode cX5_makeReady 57 = .ok (.getfield 22, 3) := by decide +kernel
theorem dX5_makeReady_60 : decode cX5_makeReady 60 = .ok (.iload_n 2, 1) := by decide +kernel
theorem dX5_makeReady_61 : decode cX5_makeReady 61 = .ok (.iload_n 3, 1) := by decide +kernel
theorem dX5_makeReady_62 : decode cX5_makeReady 62 = .ok (.iastore, 1) := by decide +kernel
theorem dX5_makeReady_63 : decode cX5_makeReady 63 = .ok (.return_, 1) := by decide +kernel
theorem dX5_queueUp_0 : decode cX5_queueUp 0 = .ok (.aload_n 0, 1) := by decide +kernel
theorem dX5_queueUp_1 : decode cX5_queueUp 1 = .ok (.getfield 40, 3) := by decide +kernel
theorem dX5_queueUp_4 : decode cX5_queueUp 4 = .ok (.bipush 12, 2) := by decide +kernel
theorem dX5_queueUp_6 : decode cX5_queueUp 6 = .ok (.if_icmp .lt 4, 3) := by decide +kernel
theorem dX5_queueUp_9 : decode cX5_queueUp 9 = .ok (.return_, 1) := by decide +kernel
theorem dX5_queueUp_10 : decode cX5_queueUp 10 = .ok (.aload_n 0, 1) := by decide +kernel
theorem dX5_queueUp_11 : decode cX5_queueUp 11 = .ok (.getfield 40, 3) := by decide +kernel
theorem dX5_queueUp_14 : decode cX5_queueUp 14 = .ok (.istore_n 2, 1) := by decide +kernel
theorem dX5_queueUp_15 : decode cX5_queueUp 15 = .ok (.iload_n 2, 1) := by decide +kernel
theorem dX5_queueUp_16 : decode cX5_queueUp 16 = .ok (.ifCond .le 45, 3) := by decide +kernel
theorem dX5_queueUp_19 : decode cX5_queueUp 19 = .ok (.aload_n 0, 1) := by decide +kernel
theorem dX5_queueUp_20 : decode cX5_queueUp 20 = .ok (.getfield 22, 3) := by decide +kernel
theorem dX5_queueUp_23 : decode cX5_queueUp 23 = .ok (.aload_n 0, 1) := by decide +kernel
theorem dX5_queueUp_24 : decode cX5_queueUp 24 = .ok (.getfield 15, 3) := by decide +kernel
theorem dX5_queueUp_27 : decode cX5_queueUp 27 = .ok (.iload_n 2, 1) := by decide +kernel
theorem dX5_queueUp_28 : decode cX5_queueUp 28 = .ok (.iconst 1, 1) := by decide +kernel
theorem dX5_queueUp_29 : decode cX5_queueUp 29 = .ok (.isub, 1) := by decide +kernel
theorem dX5_queueUp_30 : decode cX5_queueUp 30 = .ok (.iaload, 1) := by decide +kernel
theorem dX5_queueUp_31 : decode cX5_queueUp 31 = .ok (.iaload, 1) := by decide +kernel
theorem dX5_queueUp_32 : decode cX5_queueUp 32 = .ok (.aload_n 0, 1) := by decide +kernel
theorem dX5_queueUp_33 : decode cX5_queueUp 33 = .ok (.getfield 22, 3) := by decide +kernel
theorem dX5_queueUp_36 : decode cX5_queueUp 36 = .ok (.iload_n 1, 1) := by decide +kernel
theorem dX5_queueUp_37 : decode cX5_queueUp 37 = .ok (.iaload, 1) := by decide +kernel
theorem dX5_queueUp_38 : decode cX5_queueUp 38 = .ok (.if_icmp .le 23, 3) := by decide +kernel
theorem dX5_queueUp_41 : decode cX5_queueUp 41 = .ok (.aload_n 0, 1) := by decide +kernel
theorem dX5_queueUp_42 : decode cX5_queueUp 42 = .ok (.getfield 15, 3) := by decide +kernel
theorem dX5_queueUp_45 : decode cX5_queueUp 45 = .ok (.iload_n 2, 1) := by decide +kernel
theorem dX5_queueUp_46 : decode cX5_queueUp 46 = .ok (.aload_n 0, 1) := by decide +kernel
theorem dX5_queueUp_47 : decode cX5_queueUp 47 = .ok (.getfield 15, 3) := by decide +kernel
theorem dX5_queueUp_50 : decode cX5_queueUp 50 = .ok (.iload_n 2, 1) := by decide +kernel
theorem dX5_queueUp_51 : decode cX5_queueUp 51 = .ok (.iconst 1, 1) := by decide +kernel
theorem dX5_queueUp_52 : decode cX5_queueUp 52 = .ok (.isub, 1) := by decide +kernel
theorem dX5_queueUp_53 : decode cX5_queueUp 53 = .ok (.iaload, 1) := by decide +kernel
theorem dX5_queueUp_54 : decode cX5_queueUp 54 = .ok (.iastore, 1) := by decide +kernel
theorem dX5_queueUp_55 : decode cX5_queueUp 55 = .ok (.iinc 2 (-1), 3) := by decide +kernel
theorem dX5_queueUp_58 : decode cX5_queueUp 58 = .ok (.goto (-43), 3) := by decide +kernel
theorem dX5_queueUp_61 : decode cX5_queueUp 61 = .ok (.aload_n 0, 1) := by decide +kernel
theorem dX5_queueUp_62 : decode cX5_queueUp 62 = .ok (.getfield 15, 3) := by decide +kernel
theorem dX5_queueUp_65 : decode cX5_queueUp 65 = .ok (.iload_n 2, 1) := by decide +kernel
theorem dX5_queueUp_66 : decode cX5_queueUp 66 = .ok (.iload_n 1, 1) := by decide +kernel
theorem dX5_queueUp_67 : decode cX5_queueUp 67 = .ok (.iastore, 1) := by decide +kernel
theorem dX5_queueUp_68 : decode cX5_queueUp 68 = .ok (.aload_n 0, 1) := by decide +kernel
theorem dX5_queueUp_69 : decode cX5_queueUp 69 = .ok (.dup, 1) := by decide +kernel
theorem dX5_queueUp_70 : decode cX5_queueUp 70 = .ok (.getfield 40, 3) := by decide +kernel
theorem dX5_queueUp_73 : decode cX5_queueUp 73 = .ok (.iconst 1, 1) := by decide +kernel
theorem dX5_queueUp_74 : decode cX5_queueUp 74 = .ok (.iadd, 1) := by decide +kernel
theorem dX5_queueUp_75 : decode cX5_queueUp 75 = .ok (.putfield 40, 3) := by decide +kernel
theorem dX5_queueUp_78 : decode cX5_queueUp 78 = .ok (.return_, 1) := by decide +kernel
theorem dX5_putAll_0 : decode cX5_putAll 0 = .ok (.iconst 0, 1) := by decide +kernel
theorem dX5_putAll_1 : decode cX5_putAll 1 = .ok (.istore_n 2, 1) := by decide +kernel
theorem dX5_putAll_2 : decode cX5_putAll 2 = .ok (.iconst 0, 1) := by decide +kernel
theorem dX5_putAll_3 : decode cX5_putAll 3 = .ok (.istore_n 3, 1) := by decide +kernel
theorem dX5_putAll_4 : decode cX5_putAll 4 = .ok (.iload_n 3, 1) := by decide +kernel
theorem dX5_putAll_5 : decode cX5_putAll 5 = .ok (.aload_n 0, 1) := by decide +kernel
theorem dX5_putAll_6 : decode cX5_putAll 6 = .ok (.getfield 40, 3) := by decide +kernel
theorem dX5_putAll_9 : decode cX5_putAll 9 = .ok (.if_icmp .ge 56, 3) := by decide +kernel
theorem dX5_putAll_12 : decode cX5_putAll 12 = .ok (.aload_n 0, 1) := by decide +kernel
theorem dX5_putAll_13 : decode cX5_putAll 13 = .ok (.getfield 15, 3) := by decide +kernel
theorem dX5_putAll_16 : decode cX5_putAll 16 = .ok (.iload_n 3, 1) := by decide +kernel
theorem dX5_putAll_17 : decode cX5_putAll 17 = .ok (.iaload, 1) := by decide +kernel
theorem dX5_putAll_18 : decode cX5_putAll 18 = .ok (.istore 4, 2) := by decide +kernel
theorem dX5_putAll_20 : decode cX5_putAll 20 = .ok (.iload_n 3, 1) := by decide +kernel
theorem dX5_putAll_21 : decode cX5_putAll 21 = .ok (.ifCond .eq 14, 3) := by decide +kernel
theorem dX5_putAll_24 : decode cX5_putAll 24 = .ok (.aload_n 0, 1) := by decide +kernel
theorem dX5_putAll_25 : decode cX5_putAll 25 = .ok (.getfield 9, 3) := by decide +kernel
theorem dX5_putAll_28 : decode cX5_putAll 28 = .ok (.iload 4, 2) := by decide +kernel
theorem dX5_putAll_30 : decode cX5_putAll 30 = .ok (.iaload, 1) := by decide +kernel
theorem dX5_putAll_31 : decode cX5_putAll 31 = .ok (.iload_n 2, 1) := by decide +kernel
theorem dX5_putAll_32 : decode cX5_putAll 32 = .ok (.if_icmp .le 17, 3) := by decide +kernel
theorem dX5_putAll_35 : decode cX5_putAll 35 = .ok (.aload_n 0, 1) := by decide +kernel
theorem dX5_putAll_36 : decode cX5_putAll 36 = .ok (.iload 4, 2) := by decide +kernel
theorem dX5_putAll_38 : decode cX5_putAll 38 = .ok (.putfield 18, 3) := by decide +kernel
theorem dX5_putAll_41 : decode cX5_putAll 41 = .ok (.aload_n 0, 1) := by decide +kernel
theorem dX5_putAll_42 : decode cX5_putAll 42 = .ok (.getfield 9, 3) := by decide +kernel
theorem dX5_putAll_45 : decode cX5_putAll 45 = .ok (.iload 4, 2) := by decide +kernel
theorem dX5_putAll_47 : decode cX5_putAll 47 = .ok (.iaload, 1) := by decide +kernel
theorem dX5_putAll_48 : decode cX5_putAll 48 = .ok (.istore_n 2, 1) := by decide +kernel
theorem dX5_putAll_49 : decode cX5_putAll 49 = .ok (.iload_n 2, 1) := by decide +kernel
theorem dX5_putAll_50 : decode cX5_putAll 50 = .ok (.aload_n 1, 1) := by decide +kernel
theorem dX5_putAll_51 : decode cX5_putAll 51 = .ok (.getfield 62, 3) := by decide +kernel
theorem dX5_putAll_54 : decode cX5_putAll 54 = .ok (.iload 4, 2) := by decide +kernel
theorem dX5_putAll_56 : decode cX5_putAll 56 = .ok (.iaload, 1) := by decide +kernel
theorem dX5_putAll_57 : decode cX5_putAll 57 = .ok (.iadd, 1) := by decide +kernel
theorem dX5_putAll_58 : decode cX5_putAll 58 = .ok (.istore_n 2, 1) := by decide +kernel
theorem dX5_putAll_59 : decode cX5_putAll 59 = .ok (.iinc 3 1, 3) := by decide +kernel
theorem dX5_putAll_62 : decode cX5_putAll 62 = .ok (.goto (-58), 3) := by decide +kernel
theorem dX5_putAll_65 : decode cX5_putAll 65 = .ok (.iload_n 2, 1) := by decide +kernel
theorem dX5_putAll_66 : decode cX5_putAll 66 = .ok (.ireturn, 1) := by decide +kernel
theorem dX6_init_0 : decode cX6_init 0 = .ok (.aload_n 0, 1) := by decide +kernel
theorem dX6_init_1 : decode cX6_init 1 = .ok (.invokespecial 3, 3) := by decide +kernel
theorem dX6_init_4 : decode cX6_init 4 = .ok (.aload_n 0, 1) := by decide +kernel
theorem dX6_init_5 : decode cX6_init 5 = .ok (.sipush 600, 3) := by decide +kernel
theorem dX6_init_8 : decode cX6_init 8 = .ok (.newarray .char, 2) := by decide +kernel
theorem dX6_init_10 : decode cX6_init 10 = .ok (.putfield 9, 3) := by decide +kernel
theorem dX6_init_13 : decode cX6_init 13 = .ok (.aload_n 0, 1) := by decide +kernel
theorem dX6_init_14 : decode cX6_init 14 = .ok (.iconst (-1), 1) := by decide +kernel
theorem dX6_init_15 : decode cX6_init 15 = .ok (.putfield 15, 3) := by decide +kernel
theorem dX6_init_18 : decode cX6_init 18 = .ok (.return_, 1) := by decide +kernel
theorem dX6_append_0 : decode cX6_append 0 = .ok (.iload_n 1, 1) := by decide +kernel
theorem dX6_append_1 : decode cX6_append 1 = .ok (.iconst 1, 1) := by decide +kernel
theorem dX6_append_2 : decode cX6_append 2 = .ok (.isub, 1) := by decide +kernel
theorem dX6_append_3 : decode cX6_append 3 = .ok (.istore 4, 2) := by decide +kernel
theorem dX6_append_5 : decode cX6_append 5 = .ok (.iload 4, 2) := by decide +kernel
theorem dX6_append_7 : decode cX6_append 7 = .ok (.ifCond .lt 51, 3) := by decide +kernel
theorem dX6_append_10 : decode cX6_append 10 = .ok (.aload_n 0, 1) := by decide +kernel
theorem dX6_append_11 : decode cX6_append 11 = .ok (.getfield 19, 3) := by decide +kernel
theorem dX6_append_14 : decode cX6_append 14 = .ok (.sipush 600, 3) := by decide +kernel
theorem dX6_append_17 : decode cX6_append 17 = .ok (.if_icmp .ge 41, 3) := by decide +kernel
theorem dX6_append_20 : decode cX6_append 20 = .ok (.aload_n 0, 1) := by decide +kernel
theorem dX6_append_21 : decode cX6_append 21 = .ok (.getfield 9, 3) := by decide +kernel
theorem dX6_append_24 : decode cX6_append 24 = .ok (.aload_n 0, 1) := by decide +kernel
theorem dX6_append_25 : decode cX6_append 25 = .ok (.getfield 19, 3) := by decide +kernel
theorem dX6_append_28 : decode cX6_append 28 = .ok (.lload_n 2, 1) := by decide +kernel
theorem dX6_append_29 : decode cX6_append 29 = .ok (.bipush 8, 2) := by decide +kernel
theorem dX6_append_31 : decode cX6_append 31 = .ok (.iload 4, 2) := by decide +kernel
theorem dX6_append_33 : decode cX6_append 33 = .ok (.imul, 1) := by decide +kernel
theorem dX6_append_34 : decode cX6_append 34 = .ok (.lushr, 1) := by decide +kernel
theorem dX6_append_35 : decode cX6_append 35 = .ok (.ldc2_w 22, 3) := by decide +kernel
theorem dX6_append_38 : decode cX6_append 38 = .ok (.land, 1) := by decide +kernel
theorem dX6_append_39 : decode cX6_append 39 = .ok (.l2i, 1) := by decide +kernel
theorem dX6_append_40 : decode cX6_append 40 = .ok (.i2c, 1) := by decide +kernel
theorem dX6_append_41 : decode cX6_append 41 = .ok (.castore, 1) := by decide +kernel
theorem dX6_append_42 : decode cX6_append 42 = .ok (.aload_n 0, 1) := by decide +kernel
theorem dX6_append_43 : decode cX6_append 43 = .ok (.dup, 1) := by decide +kernel
theorem dX6_append_44 : decode cX6_append 44 = .ok (.getfield 19, 3) := by decide +kernel
theorem dX6_append_47 : decode cX6_append 47 = .ok (.iconst 1, 1) := by decide +kernel
theorem dX6_append_48 : decode cX6_append 48 = .ok (.iadd, 1) := by decide +kernel
theorem dX6_append_49 : decode cX6_append 49 = .ok (.putfield 19, 3) := by decide +kernel
theorem dX6_append_52 : decode cX6_append 52 = .ok (.iinc 4 (-1), 3) := by decide +kernel
theorem dX6_append_55 : decode cX6_append 55 = .ok (.goto (-50), 3) := by decide +kernel
theorem dX6_append_58 : decode cX6_append 58 = .ok (.return_, 1) := by decide +kernel
theorem dX6_begin_0 : decode cX6_begin 0 = .ok (.aload_n 0, 1) := by decide +kernel
theorem dX6_begin_1 : decode cX6_begin 1 = .ok (.iconst 0, 1) := by decide +kernel
theorem dX6_begin_2 : decode cX6_begin 2 = .ok (.putfield 24, 3) := by decide +kernel
theorem dX6_begin_5 : decode cX6_begin 5 = .ok (.aload_n 0, 1) := by decide +kernel
theorem dX6_begin_6 : decode cX6_begin 6 = .ok (.iconst 0, 1) := by decide +kernel
theorem dX6_begin_7 : decode cX6_begin 7 = .ok (.putfield 27, 3) := by decide +kernel
theorem dX6_begin_10 : decode cX6_begin 10 = .ok (.aload_n 0, 1) := by decide +kernel
theorem dX6_begin_11 : decode cX6_begin 11 = .ok (.iconst 0, 1) := by decide +kernel
theorem dX6_begin_12 : decode cX6_begin 12 = .ok (.putfield 30, 3) := by decide +kernel
theorem dX6_begin_15 : decode cX6_begin 15 = .ok (.aload_n 0, 1) := by decide +kernel
theorem dX6_begin_16 : decode cX6_begin 16 = .ok (.iconst (-1), 1) := by decide +kernel
theorem dX6_begin_17 : decode cX6_begin 17 = .ok (.putfield 15, 3) := by decide +kernel
theorem dX6_begin_20 : decode cX6_begin 20 = .ok (.return_, 1) := by decide +kernel
theorem dX6_isSound_0 : decode cX6_isSound 0 = .ok (.aload_n 0, 1) := by decide +kernel
theorem dX6_isSound_1 : decode cX6_isSound 1 = .ok (.getfield 30, 3) := by decide +kernel
theorem dX6_isSound_4 : decode cX6_isSound 4 = .ok (.ifCond .ne 7, 3) := by decide +kernel
theorem dX6_isSound_7 : decode cX6_isSound 7 = .ok (.iconst 1, 1) := by decide +kernel
theorem dX6_isSound_8 : decode cX6_isSound 8 = .ok (.goto 4, 3) := by decide +kernel
theorem dX6_isSound_11 : decode cX6_isSound 11 = .ok (.iconst 0, 1) := by decide +kernel
theorem dX6_isSound_12 : decode cX6_isSound 12 = .ok (.ireturn, 1) := by decide +kernel
theorem dX6_blame_0 : decode cX6_blame 0 = .ok (.aload_n 0, 1) := by decide +kernel
theorem dX6_blame_1 : decode cX6_blame 1 = .ok (.invokevirtual 33, 3) := by decide +kernel
theorem dX6_blame_4 : decode cX6_blame 4 = .ok (.ifCond .eq 13, 3) := by decide +kernel
theorem dX6_blame_7 : decode cX6_blame 7 = .ok (.aload_n 0, 1) := by decide +kernel
theorem dX6_blame_8 : decode cX6_blame 8 = .ok (.iload_n 1, 1) := by decide +kernel
theorem dX6_blame_9 : decode cX6_blame 9 = .ok (.putfield 30, 3) := by decide +kernel
theorem dX6_blame_12 : decode cX6_blame 12 = .ok (.aload_n 0, 1) := by decide +kernel
theorem dX6_blame_13 : decode cX6_blame 13 = .ok (.iload_n 2, 1) := by decide +kernel
theorem dX6_blame_14 : decode cX6_blame 14 = .ok (.putfield 15, 3) := by decide +kernel
theorem dX6_blame_17 : decode cX6_blame 17 = .ok (.return_, 1) := by decide +kernel
theorem dX6_blameHere_0 : decode cX6_blameHere 0 = .ok (.aload_n 0, 1) := by decide +kernel
theorem dX6_blameHere_1 : decode cX6_blameHere 1 = .ok (.invokevirtual 37, 3) := by decide +kernel
theorem dX6_blameHere_4 : decode cX6_blameHere 4 = .ok (.aload_n 0, 1) := by decide +kernel
theorem dX6_blameHere_5 : decode cX6_blameHere 5 = .ok (.iconst 1, 1) := by decide +kernel
theorem dX6_blameHere_6 : decode cX6_blameHere 6 = .ok (.aload_n 0, 1) := by decide +kernel
theorem dX6_blameHere_7 : decode cX6_blameHere 7 = .ok (.getfield 24, 3) := by decide +kernel
theorem dX6_blameHere_10 : decode cX6_blameHere 10 = .ok (.invokevirtual 40, 3) := by decide +kernel
theorem dX6_blameHere_13 : decode cX6_blameHere 13 = .ok (.return_, 1) := by decide +kernel
theorem dX6_goesOn_0 : decode cX6_goesOn 0 = .ok (.aload_n 0, 1) := by decide +kernel
theorem dX6_goesOn_1 : decode cX6_goesOn 1 = .ok (.invokevirtual 37, 3) := by decide +kernel
theorem dX6_goesOn_4 : decode cX6_goesOn 4 = .ok (.aload_n 0, 1) := by decide +kernel
theorem dX6_goesOn_5 : decode cX6_goesOn 5 = .ok (.invokevirtual 33, 3) := by decide +kernel
theorem dX6_goesOn_8 : decode cX6_goesOn 8 = .ok (.ifCond .eq 18, 3) := by decide +kernel
theorem dX6_goesOn_11 : decode cX6_goesOn 11 = .ok (.aload_n 0, 1) := by decide +kernel
theorem dX6_goesOn_12 : decode cX6_goesOn 12 = .ok (.getfield 24, 3) := by decide +kernel
theorem dX6_goesOn_15 : decode cX6_goesOn 15 = .ok (.aload_n 0, 1) := by decide +kernel
theorem dX6_goesOn_16 : decode cX6_goesOn 16 = .ok (.getfield 19, 3) := by decide +kernel
theorem dX6_goesOn_19 : decode cX6_goesOn 19 = .ok (.if_icmp .ge 7, 3) := by decide +kernel
theorem dX6_goesOn_22 : decode cX6_goesOn 22 = .ok (.iconst 1, 1) := by decide +kernel
theorem dX6_goesOn_23 : decode cX6_goesOn 23 = .ok (.goto 4, 3) := by decide +kernel
theorem dX6_goesOn_26 : decode cX6_goesOn 26 = .ok (.iconst 0, 1) := by decide +kernel
theorem dX6_goesOn_27 : decode cX6_goesOn 27 = .ok (.ireturn, 1) := by decide +kernel
theorem dX6_takesWord_0 : decode cX6_takesWord 0 = .ok (.aload_n 0, 1) := by decide +kernel
theorem dX6_takesWord_1 : decode cX6_takesWord 1 = .ok (.invokevirtual 37, 3) := by decide +kernel
theorem dX6_takesWord_4 : decode cX6_takesWord 4 = .ok (.aload_n 0, 1) := by decide +kernel
theorem dX6_takesWord_5 : decode cX6_takesWord 5 = .ok (.getfield 24, 3) := by decide +kernel
theorem dX6_takesWord_8 : decode cX6_takesWord 8 = .ok (.istore_n 2, 1) := by decide +kernel
theorem dX6_takesWord_9 : decode cX6_takesWord 9 = .ok (.iload_n 2, 1) := by decide +kernel
theorem dX6_takesWord_10 : decode cX6_takesWord 10 = .ok (.aload_n 0, 1) := by decide +kernel
theorem dX6_takesWord_11 : decode cX6_takesWord 11 = .ok (.getfield 19, 3) := by decide +kernel
theorem dX6_takesWord_14 : decode cX6_takesWord 14 = .ok (.if_icmp .ge 21, 3) := by decide +kernel
theorem dX6_takesWord_17 : decode cX6_takesWord 17 = .ok (.aload_n 0, 1) := by decide +kernel
theorem dX6_takesWord_18 : decode cX6_takesWord 18 = .ok (.getfield 9, 3) := by decide +kernel
theorem dX6_takesWord_21 : decode cX6_takesWord 21 = .ok (.iload_n 2, 1) := by decide +kernel
theorem dX6_takesWord_22 : decode cX6_takesWord 22 = .ok (.caload, 1) := by decide +kernel
theorem dX6_takesWord_23 : decode cX6_takesWord 23 = .ok (.invokestatic 44, 3) := by decide +kernel
theorem dX6_takesWord_26 : decode cX6_takesWord 26 = .ok (.ifCond .eq 9, 3) := by decide +kernel
theorem dX6_takesWord_29 : decode cX6_takesWord 29 = .ok (.iinc 2 1, 3) := by decide +kernel
theorem dX6_takesWord_32 : decode cX6_takesWord 32 = .ok (.goto (-23), 3) := by decide +kernel
theorem dX6_takesWord_35 : decode cX6_takesWord 35 = .ok (.aload_n 0, 1) := by decide +kernel
theorem dX6_takesWord_36 : decode cX6_takesWord 36 = .ok (.invokevirtual 33, 3) := by decide +kernel
theorem dX6_takesWord_39 : decode cX6_takesWord 39 = .ok (.ifCond .eq 16, 3) := by decide +kernel
theorem dX6_takesWord_42 : decode cX6_takesWord 42 = .ok (.iload_n 2, 1) := by decide +kernel
theorem dX6_takesWord_43 : decode cX6_takesWord 43 = .ok (.aload_n 0, 1) := by decide +kernel
theorem dX6_takesWord_44 : decode cX6_takesWord 44 = .ok (.getfield 24, 3) := by decide +kernel
theorem dX6_takesWord_47 : decode cX6_takesWord 47 = .ok (.isub, 1) := by decide +kernel
theorem dX6_takesWord_48 : decode cX6_takesWord 48 = .ok (.aload_n 1, 1) := by decide +kernel
theorem dX6_takesWord_49 : decode cX6_takesWord 49 = .ok (.invokevirtual 48, 3) := by decide +kernel
theorem dX6_takesWord_52 : decode cX6_takesWord 52 = .ok (.if_icmp .eq 5, 3) := by decide +kernel
theorem dX6_takesWord_55 : decode cX6_takesWord 55 = .ok (.iconst 0, 1) := by decide +kernel
theorem dX6_takesWord_56 : decode cX6_takesWord 56 = .ok (.ireturn, 1) := by decide +kernel
theorem dX6_takesWord_57 : decode cX6_takesWord 57 = .ok (.iconst 0, 1) := by decide +kernel
theorem dX6_takesWord_58 : decode cX6_takesWord 58 = .ok (.istore_n 3, 1) := by decide +kernel
theorem dX6_takesWord_59 : decode cX6_takesWord 59 = .ok (.iload_n 3, 1) := by decide +kernel
theorem dX6_takesWord_60 : decode cX6_takesWord 60 = .ok (.aload_n 1, 1) := by decide +kernel
theorem dX6_takesWord_61 : decode cX6_takesWord 61 = .ok (.invokevirtual 48, 3) := by decide +kernel
theorem dX6_takesWord_64 : decode cX6_takesWord 64 = .ok (.if_icmp .ge 30, 3) := by decide +kernel
theorem dX6_takesWord_67 : decode cX6_takesWord 67 = .ok (.aload_n 0, 1) := by decide +kernel
theorem dX6_takesWord_68 : decode cX6_takesWord 68 = .ok (.getfield 9, 3) := by decide +kernel
theorem dX6_takesWord_71 : decode cX6_takesWord 71 = .ok (.aload_n 0, 1) := by decide +kernel
theorem dX6_takesWord_72 : decode cX6_takesWord 72 = .ok (.getfield 24, 3) := by decide +kernel
theorem dX6_takesWord_75 : decode cX6_takesWord 75 = .ok (.iload_n 3, 1) := by decide +kernel
theorem dX6_takesWord_76 : decode cX6_takesWord 76 = .ok (.iadd, 1) := by decide +kernel
theorem dX6_takesWord_77 : decode cX6_takesWord 77 = .ok (.caload, 1) := by decide +kernel
theorem dX6_takesWord_78 : decode cX6_takesWord 78 = .ok (.aload_n 1, 1) := by decide +kernel
theorem dX6_takesWord_79 : decode cX6_takesWord 79 = .ok (.iload_n 3, 1) := by decide +kernel
theorem dX6_takesWord_80 : decode cX6_takesWord 80 = .ok (.invokevirtual 53, 3) := by decide +kernel
theorem dX6_takesWord_83 : decode cX6_takesWord 83 = .ok (.if_icmp .eq 5, 3) := by decide +kernel
theorem dX6_takesWord_86 : decode cX6_takesWord 86 = .ok (.iconst 0, 1) := by decide +kernel
theorem dX6_takesWord_87 : decode cX6_takesWord 87 = .ok (.ireturn, 1) := by decide +kernel
theorem dX6_takesWord_88 : decode cX6_takesWord 88 = .ok (.iinc 3 1, 3) := by decide +kernel
theorem dX6_takesWord_91 : decode cX6_takesWord 91 = .ok (.goto (-32), 3) := by decide +kernel
theorem dX6_takesWord_94 : decode cX6_takesWord 94 = .ok (.aload_n 0, 1) := by decide +kernel
theorem dX6_takesWord_95 : decode cX6_takesWord 95 = .ok (.aload_n 0, 1) := by decide +kernel
theorem dX6_takesWord_96 : decode cX6_takesWord 96 = .ok (.getfield 24, 3) := by decide +kernel
theorem dX6_takesWord_99 : decode cX6_takesWord 99 = .ok (.putfield 27, 3) := by decide +kernel
theorem dX6_takesWord_102 : decode cX6_takesWord 102 = .ok (.aload_n 0, 1) := by decide +kernel
theorem dX6_takesWord_103 : decode cX6_takesWord 103 = .ok (.iload_n 2, 1) := by decide +kernel
theorem dX6_takesWord_104 : decode cX6_takesWord 104 = .ok (.putfield 24, 3) := by decide +kernel
theorem dX6_takesWord_107 : decode cX6_takesWord 107 = .ok (.iconst 1, 1) := by decide +kernel
theorem dX6_takesWord_108 : decode cX6_takesWord 108 = .ok (.ireturn, 1) := by decide +kernel
theorem dX6_takesSign_0 : decode cX6_takesSign 0 = .ok (.aload_n 0, 1) := by decide +kernel
theorem dX6_takesSign_1 : decode cX6_takesSign 1 = .ok (.invokevirtual 37, 3) := by decide +kernel
theorem dX6_takesSign_4 : decode cX6_takesSign 4 = .ok (.aload_n 0, 1) := by decide +kernel
theorem dX6_takesSign_5 : decode cX6_takesSign 5 = .ok (.invokevirtual 33, 3) := by decide +kernel
theorem dX6_takesSign_8 : decode cX6_takesSign 8 = .ok (.ifCond .eq 27, 3) := by decide +kernel
theorem dX6_takesSign_11 : decode cX6_takesSign 11 = .ok (.aload_n 0, 1) := by decide +kernel
theorem dX6_takesSign_12 : decode cX6_takesSign 12 = .ok (.getfield 24, 3) := by decide +kernel
theorem dX6_takesSign_15 : decode cX6_takesSign 15 = .ok (.aload_n 0, 1) := by decide +kernel
theorem dX6_takesSign_16 : decode cX6_takesSign 16 = .ok (.getfield 19, 3) := by decide +kernel
theorem dX6_takesSign_19 : decode cX6_takesSign 19 = .ok (.if_icmp .ge 16, 3) := by decide +kernel
theorem dX6_takesSign_22 : decode cX6_takesSign 22 = .ok (.aload_n 0, 1) := by decide +kernel
theorem dX6_takesSign_23 : decode cX6_takesSign 23 = .ok (.getfield 9, 3) := by decide +kernel
theorem dX6_takesSign_26 : decode cX6_takesSign 26 = .ok (.aload_n 0, 1) := by decide +kernel
theorem dX6_takesSign_27 : decode cX6_takesSign 27 = .ok (.getfield 24, 3) := by decide +kernel
theorem dX6_takesSign_30 : decode cX6_takesSign 30 = .ok (.caload, 1) := by decide +kernel
theorem dX6_takesSign_31 : decode cX6_takesSign 31 = .ok (.iload_n 1, 1) := by decide +kernel
theorem dX6_takesSign_32 : decode cX6_takesSign 32 = .ok (.if_icmp .eq 5, 3) := by decide +kernel
theorem dX6_takesSign_35 : decode cX6_takesSign 35 = .ok (.iconst 0, 1) := by decide +kernel
theorem dX6_takesSign_36 : decode cX6_takesSign 36 = .ok (.ireturn, 1) := by decide +kernel
theorem dX6_takesSign_37 : decode cX6_takesSign 37 = .ok (.aload_n 0, 1) := by decide +kernel
theorem dX6_takesSign_38 : decode cX6_takesSign 38 = .ok (.aload_n 0, 1) := by decide +kernel
theorem dX6_takesSign_39 : decode cX6_takesSign 39 = .ok (.getfield 24, 3) := by decide +kernel
theorem dX6_takesSign_42 : decode cX6_takesSign 42 = .ok (.putfield 27, 3) := by decide +kernel
theorem dX6_takesSign_45 : decode cX6_takesSign 45 = .ok (.aload_n 0, 1) := by decide +kernel
theorem dX6_takesSign_46 : decode cX6_takesSign 46 = .ok (.dup, 1) := by decide +kernel
theorem dX6_takesSign_47 : decode cX6_takesSign 47 = .ok (.getfield 24, 3) := by decide +kernel
theorem dX6_takesSign_50 : decode cX6_takesSign 50 = .ok (.iconst 1, 1) := by decide +kernel
theorem dX6_takesSign_51 : decode cX6_takesSign 51 = .ok (.iadd, 1) := by decide +kernel
theorem dX6_takesSign_52 : decode cX6_takesSign 52 = .ok (.putfield 24, 3) := by decide +kernel
theorem dX6_takesSign_55 : decode cX6_takesSign 55 = .ok (.iconst 1, 1) := by decide +kernel
theorem dX6_takesSign_56 : decode cX6_takesSign 56 = .ok (.ireturn, 1) := by decide +kernel
theorem dX6_endClause_0 : decode cX6_endClause 0 = .ok (.aload_n 0, 1) := by decide +kernel
theorem dX6_endClause_1 : decode cX6_endClause 1 = .ok (.bipush 59, 2) := by decide +kernel
theorem dX6_endClause_3 : decode cX6_endClause 3 = .ok (.invokevirtual 57, 3) := by decide +kernel
theorem dX6_endClause_6 : decode cX6_endClause 6 = .ok (.ifCond .ne 7, 3) := by decide +kernel
theorem dX6_endClause_9 : decode cX6_endClause 9 = .ok (.aload_n 0, 1) := by decide +kernel
theorem dX6_endClause_10 : decode cX6_endClause 10 = .ok (.invokevirtual 60, 3) := by decide +kernel
theorem dX6_endClause_13 : decode cX6_endClause 13 = .ok (.return_, 1) := by decide +kernel
theorem dX6_takeNumber_0 : decode cX6_takeNumber 0 = .ok (.aload_n 0, 1) := by decide +kernel
theorem dX6_takeNumber_1 : decode cX6_takeNumber 1 = .ok (.invokevirtual 33, 3) := by decide +kernel
theorem dX6_takeNumber_4 : decode cX6_takeNumber 4 = .ok (.ifCond .ne 5, 3) := by decide +kernel
theorem dX6_takeNumber_7 : decode cX6_takeNumber 7 = .ok (.iload_n 1, 1) := by decide +kernel
theorem dX6_takeNumber_8 : decode cX6_takeNumber 8 = .ok (.ireturn, 1) := by decide +kernel
theorem dX6_takeNumber_9 : decode cX6_takeNumber 9 = .ok (.aload_n 0, 1) := by decide +kernel
theorem dX6_takeNumber_10 : decode cX6_takeNumber 10 = .ok (.invokevirtual 37, 3) := by decide +kernel
theorem dX6_takeNumber_13 : decode cX6_takeNumber 13 = .ok (.aload_n 0, 1) := by decide +kernel
theorem dX6_takeNumber_14 : decode cX6_takeNumber 14 = .ok (.aload_n 0, 1) := by decide +kernel
theorem dX6_takeNumber_15 : decode cX6_takeNumber 15 = .ok (.getfield 24, 3) := by decide +kernel
theorem dX6_takeNumber_18 : decode cX6_takeNumber 18 = .ok (.putfield 27, 3) := by decide +kernel
theorem dX6_takeNumber_21 : decode cX6_takeNumber 21 = .ok (.iconst 0, 1) := by decide +kernel
theorem dX6_takeNumber_22 : decode cX6_takeNumber 22 = .ok (.istore_n 3, 1) := by decide +kernel
theorem dX6_takeNumber_23 : decode cX6_takeNumber 23 = .ok (.aload_n 0, 1) := by decide +kernel
theorem dX6_takeNumber_24 : decode cX6_takeNumber 24 = .ok (.getfield 24, 3) := by decide +kernel
theorem dX6_takeNumber_27 : decode cX6_takeNumber 27 = .ok (.aload_n 0, 1) := by decide +kernel
theorem dX6_takeNumber_28 : decode cX6_takeNumber 28 = .ok (.getfield 19, 3) := by decide +kernel
theorem dX6_takeNumber_31 : decode cX6_takeNumber 31 = .ok (.if_icmp .ge 62, 3) := by decide +kernel
theorem dX6_takeNumber_34 : decode cX6_takeNumber 34 = .ok (.aload_n 0, 1) := by decide +kernel
theorem dX6_takeNumber_35 : decode cX6_takeNumber 35 = .ok (.getfield 9, 3) := by decide +kernel
theorem dX6_takeNumber_38 : decode cX6_takeNumber 38 = .ok (.aload_n 0, 1) := by decide +kernel
theorem dX6_takeNumber_39 : decode cX6_takeNumber 39 = .ok (.getfield 24, 3) := by decide +kernel
theorem dX6_takeNumber_42 : decode cX6_takeNumber 42 = .ok (.caload, 1) := by decide +kernel
theorem dX6_takeNumber_43 : decode cX6_takeNumber 43 = .ok (.invokestatic 63, 3) := by decide +kernel
theorem dX6_takeNumber_46 : decode cX6_takeNumber 46 = .ok (.ifCond .eq 47, 3) := by decide +kernel
theorem dX6_takeNumber_49 : decode cX6_takeNumber 49 = .ok (.aload_n 0, 1) := by decide +kernel
theorem dX6_takeNumber_50 : decode cX6_takeNumber 50 = .ok (.getfield 24, 3) := by decide +kernel
theorem dX6_takeNumber_53 : decode cX6_takeNumber 53 = .ok (.aload_n 0, 1) := by decide +kernel
theorem dX6_takeNumber_54 : decode cX6_takeNumber 54 = .ok (.getfield 27, 3) := by decide +kernel
theorem dX6_takeNumber_57 : decode cX6_takeNumber 57 = .ok (.isub, 1) := by decide +kernel
theorem dX6_takeNumber_58 : decode cX6_takeNumber 58 = .ok (.iconst 3, 1) := by decide +kernel
theorem dX6_takeNumber_59 : decode cX6_takeNumber 59 = .ok (.if_icmp .ge 21, 3) := by decide +kernel
theorem dX6_takeNumber_62 : decode cX6_takeNumber 62 = .ok (.iload_n 3, 1) := by decide +kernel
theorem dX6_takeNumber_63 : decode cX6_takeNumber 63 = .ok (.bipush 10, 2) := by decide +kernel
theorem dX6_takeNumber_65 : decode cX6_takeNumber 65 = .ok (.imul, 1) := by decide +kernel
theorem dX6_takeNumber_66 : decode cX6_takeNumber 66 = .ok (.aload_n 0, 1) := by decide +kernel
theorem dX6_takeNumber_67 : decode cX6_takeNumber 67 = .ok (.getfield 9, 3) := by decide +kernel
theorem dX6_takeNumber_70 : decode cX6_takeNumber 70 = .ok (.aload_n 0, 1) := by decide +kernel
theorem dX6_takeNumber_71 : decode cX6_takeNumber 71 = .ok (.getfield 24, 3) := by decide +kernel
theorem dX6_takeNumber_74 : decode cX6_takeNumber 74 = .ok (.caload, 1) := by decide +kernel
theorem dX6_takeNumber_75 : decode cX6_takeNumber 75 = .ok (.iadd, 1) := by decide +kernel
theorem dX6_takeNumber_76 : decode cX6_takeNumber 76 = .ok (.bipush 48, 2) := by decide +kernel
theorem dX6_takeNumber_78 : decode cX6_takeNumber 78 = .ok (.isub, 1) := by decide +kernel
theorem dX6_takeNumber_79 : decode cX6_takeNumber 79 = .ok (.istore_n 3, 1) := by decide +kernel
theorem dX6_takeNumber_80 : decode cX6_takeNumber 80 = .ok (.aload_n 0, 1) := by decide +kernel
theorem dX6_takeNumber_81 : decode cX6_takeNumber 81 = .ok (.dup, 1) := by decide +kernel
theorem dX6_takeNumber_82 : decode cX6_takeNumber 82 = .ok (.getfield 24, 3) := by decide +kernel
theorem dX6_takeNumber_85 : decode cX6_takeNumber 85 = .ok (.iconst 1, 1) := by decide +kernel
theorem dX6_takeNumber_86 : decode cX6_takeNumber 86 = .ok (.iadd, 1) := by decide +kernel
theorem dX6_takeNumber_87 : decode cX6_takeNumber 87 = .ok (.putfield 24, 3) := by decide +kernel
theorem dX6_takeNumber_90 : decode cX6_takeNumber 90 = .ok (.goto (-67), 3) := by decide +kernel
theorem dX6_takeNumber_93 : decode cX6_takeNumber 93 = .ok (.aload_n 0, 1) := by decide +kernel
theorem dX6_takeNumber_94 : decode cX6_takeNumber 94 = .ok (.getfield 24, 3) := by decide +kernel
theorem dX6_takeNumber_97 : decode cX6_takeNumber 97 = .ok (.aload_n 0, 1) := by decide +kernel
theorem dX6_takeNumber_98 : decode cX6_takeNumber 98 = .ok (.getfield 27, 3) := by decide +kernel
theorem dX6_takeNumber_101 : decode cX6_takeNumber 101 = .ok (.isub, 1) := by decide +kernel
theorem dX6_takeNumber_102 : decode cX6_takeNumber 102 = .ok (.istore 4, 2) := by decide +kernel
theorem dX6_takeNumber_104 : decode cX6_takeNumber 104 = .ok (.iload 4, 2) := by decide +kernel
theorem dX6_takeNumber_106 : decode cX6_takeNumber 106 = .ok (.ifCond .ne 15, 3) := by decide +kernel
theorem dX6_takeNumber_109 : decode cX6_takeNumber 109 = .ok (.aload_n 0, 1) := by decide +kernel
theorem dX6_takeNumber_110 : decode cX6_takeNumber 110 = .ok (.iconst 1, 1) := by decide +kernel
theorem dX6_takeNumber_111 : decode cX6_takeNumber 111 = .ok (.aload_n 0, 1) := by decide +kernel
theorem dX6_takeNumber_112 : decode cX6_takeNumber 112 = .ok (.getfield 27, 3) := by decide +kernel
theorem dX6_takeNumber_115 : decode cX6_takeNumber 115 = .ok (.invokevirtual 40, 3) := by decide +kernel
theorem dX6_takeNumber_118 : decode cX6_takeNumber 118 = .ok (.goto 28, 3) := by decide +kernel
theorem dX6_takeNumber_121 : decode cX6_takeNumber 121 = .ok (.iload 4, 2) := by decide +kernel
theorem dX6_takeNumber_123 : decode cX6_takeNumber 123 = .ok (.iconst 3, 1) := by decide +kernel
theorem dX6_takeNumber_124 : decode cX6_takeNumber 124 = .ok (.if_icmp .gt 13, 3) := by decide +kernel
theorem dX6_takeNumber_127 : decode cX6_takeNumber 127 = .ok (.iload_n 3, 1) := by decide +kernel
theorem dX6_takeNumber_128 : decode cX6_takeNumber 128 = .ok (.iload_n 1, 1) := by decide +kernel
theorem dX6_takeNumber_129 : decode cX6_takeNumber 129 = .ok (.if_icmp .lt 8, 3) := by decide +kernel
theorem dX6_takeNumber_132 : decode cX6_takeNumber 132 = .ok (.iload_n 3, 1) := by decide +kernel
theorem dX6_takeNumber_133 : decode cX6_takeNumber 133 = .ok (.iload_n 2, 1) := by decide +kernel
theorem dX6_takeNumber_134 : decode cX6_takeNumber 134 = .ok (.if_icmp .le 12, 3) := by decide +kernel
theorem dX6_takeNumber_137 : decode cX6_takeNumber 137 = .ok (.aload_n 0, 1) := by decide +kernel
theorem dX6_takeNumber_138 : decode cX6_takeNumber 138 = .ok (.iconst 2, 1) := by decide +kernel
theorem dX6_takeNumber_139 : decode cX6_takeNumber 139 = .ok (.aload_n 0, 1) := by decide +kernel
theorem dX6_takeNumber_140 : decode cX6_takeNumber 140 = .ok (.getfield 27, 3) := by decide +kernel
theorem dX6_takeNumber_143 : decode cX6_takeNumber 143 = .ok (.invokevirtual 40, 3) := by decide +kernel
theorem dX6_takeNumber_146 : decode cX6_takeNumber 146 = .ok (.aload_n 0, 1) := by decide +kernel
theorem dX6_takeNumber_147 : decode cX6_takeNumber 147 = .ok (.invokevirtual 33, 3) := by decide +kernel
theorem dX6_takeNumber_150 : decode cX6_takeNumber 150 = .ok (.ifCond .eq 7, 3) := by decide +kernel
theorem dX6_takeNumber_153 : decode cX6_takeNumber 153 = .ok (.iload_n 3, 1) := by decide +kernel
theorem dX6_takeNumber_154 : decode cX6_takeNumber 154 = .ok (.goto 4, 3) := by decide +kernel
theorem dX6_takeNumber_157 : decode cX6_takeNumber 157 = .ok (.iload_n 1, 1) := by decide +kernel
theorem dX6_takeNumber_158 : decode cX6_takeNumber 158 = .ok (.ireturn, 1) := by decide +kernel
theorem dX6_skipBlanks_0 : decode cX6_skipBlanks 0 = .ok (.aload_n 0, 1) := by decide +kernel
theorem dX6_skipBlanks_1 : decode cX6_skipBlanks 1 = .ok (.getfield 24, 3) := by decide +kernel
theorem dX6_skipBlanks_4 : decode cX6_skipBlanks 4 = .ok (.aload_n 0, 1) := by decide +kernel
theorem dX6_skipBlanks_5 : decode cX6_skipBlanks 5 = .ok (.getfield 19, 3) := by decide +kernel
theorem dX6_skipBlanks_8 : decode cX6_skipBlanks 8 = .ok (.if_icmp .ge 30, 3) := by decide +kernel
theorem dX6_skipBlanks_11 : decode cX6_skipBlanks 11 = .ok (.aload_n 0, 1) := by decide +kernel
theorem dX6_skipBlanks_12 : decode cX6_skipBlanks 12 = .ok (.getfield 9, 3) := by decide +kernel
theorem dX6_skipBlanks_15 : decode cX6_skipBlanks 15 = .ok (.aload_n 0, 1) := by decide +kernel
theorem dX6_skipBlanks_16 : decode cX6_skipBlanks 16 = .ok (.getfield 24, 3) := by decide +kernel
theorem dX6_skipBlanks_19 : decode cX6_skipBlanks 19 = .ok (.caload, 1) := by decide +kernel
theorem dX6_skipBlanks_20 : decode cX6_skipBlanks 20 = .ok (.bipush 32, 2) := by decide +kernel
theorem dX6_skipBlanks_22 : decode cX6_skipBlanks 22 = .ok (.if_icmp .ne 16, 3) := by decide +kernel
theorem dX6_skipBlanks_25 : decode cX6_skipBlanks 25 = .ok (.aload_n 0, 1) := by decide +kernel
theorem dX6_skipBlanks_26 : decode cX6_skipBlanks 26 = .ok (.dup, 1) := by decide +kernel
theorem dX6_skipBlanks_27 : decode cX6_skipBlanks 27 = .ok (.getfield 24, 3) := by decide +kernel
theorem dX6_skipBlanks_30 : decode cX6_skipBlanks 30 = .ok (.iconst 1, 1) := by decide +kernel
theorem dX6_skipBlanks_31 : decode cX6_skipBlanks 31 = .ok (.iadd, 1) := by decide +kernel
theorem dX6_skipBlanks_32 : decode cX6_skipBlanks 32 = .ok (.putfield 24, 3) := by decide +kernel
theorem dX6_skipBlanks_35 : decode cX6_skipBlanks 35 = .ok (.goto (-35), 3) := by decide +kernel
theorem dX6_skipBlanks_38 : decode cX6_skipBlanks 38 = .ok (.return_, 1) := by decide +kernel
theorem dX6_isLetter_0 : decode cX6_isLetter 0 = .ok (.iload_n 0, 1) := by decide +kernel
theorem dX6_isLetter_1 : decode cX6_isLetter 1 = .ok (.bipush 97, 2) := by decide +kernel
theorem dX6_isLetter_3 : decode cX6_isLetter 3 = .ok (.if_icmp .lt 13, 3) := by decide +kernel
theorem dX6_isLetter_6 : decode cX6_isLetter 6 = .ok (.iload_n 0, 1) := by decide +kernel
theorem dX6_isLetter_7 : decode cX6_isLetter 7 = .ok (.bipush 122, 2) := by decide +kernel
theorem dX6_isLetter_9 : decode cX6_isLetter 9 = .ok (.if_icmp .gt 7, 3) := by decide +kernel
theorem dX6_isLetter_12 : decode cX6_isLetter 12 = .ok (.iconst 1, 1) := by decide +kernel
theorem dX6_isLetter_13 : decode cX6_isLetter 13 = .ok (.goto 4, 3) := by decide +kernel
theorem dX6_isLetter_16 : decode cX6_isLetter 16 = .ok (.iconst 0, 1) := by decide +kernel
theorem dX6_isLetter_17 : decode cX6_isLetter 17 = .ok (.ireturn, 1) := by decide +kernel
theorem dX6_isFigure_0 : decode cX6_isFigure 0 = .ok (.iload_n 0, 1) := by decide +kernel
theorem dX6_isFigure_1 : decode cX6_isFigure 1 = .ok (.bipush 48, 2) := by decide +kernel
theorem dX6_isFigure_3 : decode cX6_isFigure 3 = .ok (.if_icmp .lt 13, 3) := by decide +kernel
theorem dX6_isFigure_6 : decode cX6_isFigure 6 = .ok (.iload_n 0, 1) := by decide +kernel
theorem dX6_isFigure_7 : decode cX6_isFigure 7 = .ok (.bipush 57, 2) := by decide +kernel
theorem dX6_isFigure_9 : decode cX6_isFigure 9 = .ok (.if_icmp .gt 7, 3) := by decide +kernel
theorem dX6_isFigure_12 : decode cX6_isFigure 12 = .ok (.iconst 1, 1) := by decide +kernel
theorem dX6_isFigure_13 : decode cX6_isFigure 13 = .ok (.goto 4, 3) := by decide +kernel
theorem dX6_isFigure_16 : decode cX6_isFigure 16 = .ok (.iconst 0, 1) := by decide +kernel
theorem dX6_isFigure_17 : decode cX6_isFigure 17 = .ok (.ireturn, 1) := by decide +kernel
theorem dX7_init_0 : decode cX7_init 0 = .ok (.aload_n 0, 1) := by decide +kernel
theorem dX7_init_1 : decode cX7_init 1 = .ok (.invokespecial 3, 3) := by decide +kernel
theorem dX7_init_4 : decode cX7_init 4 = .ok (.aload_n 0, 1) := by decide +kernel
theorem dX7_init_5 : decode cX7_init 5 = .ok (.bipush 9, 2) := by decide +kernel
theorem dX7_init_7 : decode cX7_init 7 = .ok (.newarray .int, 2) := by decide +kernel
theorem dX7_init_9 : decode cX7_init 9 = .ok (.putfield 9, 3) := by decide +kernel
theorem dX7_init_12 : decode cX7_init 12 = .ok (.aload_n 0, 1) := by decide +kernel
theorem dX7_init_13 : decode cX7_init 13 = .ok (.bipush 9, 2) := by decide +kernel
theorem dX7_init_15 : decode cX7_init 15 = .ok (.newarray .int, 2) := by decide +kernel
theorem dX7_init_17 : decode cX7_init 17 = .ok (.putfield 15, 3) := by decide +kernel
theorem dX7_init_20 : decode cX7_init 20 = .ok (.aload_n 0, 1) := by decide +kernel
theorem dX7_init_21 : decode cX7_init 21 = .ok (.bipush 9, 2) := by decide +kernel
theorem dX7_init_23 : decode cX7_init 23 = .ok (.newarray .int, 2) := by decide +kernel
theorem dX7_init_25 : decode cX7_init 25 = .ok (.putfield 18, 3) := by decide +kernel
theorem dX7_init_28 : decode cX7_init 28 = .ok (.aload_n 0, 1) := by decide +kernel
theorem dX7_init_29 : decode cX7_init 29 = .ok (.bipush 9, 2) := by decide +kernel
theorem dX7_init_31 : decode cX7_init 31 = .ok (.newarray .int, 2) := by decide +kernel
theorem dX7_init_33 : decode cX7_init 33 = .ok (.putfield 21, 3) := by decide +kernel
theorem dX7_init_36 : decode cX7_init 36 = .ok (.return_, 1) := by decide +kernel
theorem dX7_run_0 : decode cX7_run 0 = .ok (.aload_n 0, 1) := by decide +kernel
theorem dX7_run_1 : decode cX7_run 1 = .ok (.getfield 9, 3) := by decide +kernel
theorem dX7_run_4 : decode cX7_run 4 = .ok (.iconst (-1), 1) := by decide +kernel
theorem dX7_run_5 : decode cX7_run 5 = .ok (.invokestatic 24, 3) := by decide +kernel
theorem dX7_run_8 : decode cX7_run 8 = .ok (.aload_n 0, 1) := by decide +kernel
theorem dX7_run_9 : decode cX7_run 9 = .ok (.getfield 15, 3) := by decide +kernel
theorem dX7_run_12 : decode cX7_run 12 = .ok (.iconst (-1), 1) := by decide +kernel
theorem dX7_run_13 : decode cX7_run 13 = .ok (.invokestatic 24, 3) := by decide +kernel
theorem dX7_run_16 : decode cX7_run 16 = .ok (.aload_n 0, 1) := by decide +kernel
theorem dX7_run_17 : decode cX7_run 17 = .ok (.iconst 0, 1) := by decide +kernel
theorem dX7_run_18 : decode cX7_run 18 = .ok (.putfield 30, 3) := by decide +kernel
theorem dX7_run_21 : decode cX7_run 21 = .ok (.aload_n 0, 1) := by decide +kernel
theorem dX7_run_22 : decode cX7_run 22 = .ok (.iload_n 3, 1) := by decide +kernel
theorem dX7_run_23 : decode cX7_run 23 = .ok (.iconst 0, 1) := by decide +kernel
theorem dX7_run_24 : decode cX7_run 24 = .ok (.invokevirtual 34, 3) := by decide +kernel
theorem dX7_run_27 : decode cX7_run 27 = .ok (.iconst 0, 1) := by decide +kernel
theorem dX7_run_28 : decode cX7_run 28 = .ok (.istore 5, 2) := by decide +kernel
theorem dX7_run_30 : decode cX7_run 30 = .ok (.iload 5, 2) := by decide +kernel
theorem dX7_run_32 : decode cX7_run 32 = .ok (.aload_n 0, 1) := by decide +kernel
theorem dX7_run_33 : decode cX7_run 33 = .ok (.getfield 30, 3) := by decide +kernel
theorem dX7_run_36 : decode cX7_run 36 = .ok (.if_icmp .ge 32, 3) := by decide +kernel
theorem dX7_run_39 : decode cX7_run 39 = .ok (.iload 5, 2) := by decide +kernel
theorem dX7_run_41 : decode cX7_run 41 = .ok (.bipush 9, 2) := by decide +kernel
theorem dX7_run_43 : decode cX7_run 43 = .ok (.if_icmp .ge 25, 3) := by decide +kernel
theorem dX7_run_46 : decode cX7_run 46 = .ok (.aload_n 0, 1) := by decide +kernel
theorem dX7_run_47 : decode cX7_run 47 = .ok (.aload_n 1, 1) := by decide +kernel
theorem dX7_run_48 : decode cX7_run 48 = .ok (.aload_n 2, 1) := by decide +kernel
theorem dX7_run_49 : decode cX7_run 49 = .ok (.aload_n 0, 1) := by decide +kernel
theorem dX7_run_50 : decode cX7_run 50 = .ok (.getfield 21, 3) := by decide +kernel
theorem dX7_run_53 : decode cX7_run 53 = .ok (.iload 5, 2) := by decide +kernel
theorem dX7_run_55 : decode cX7_run 55 = .ok (.iaload, 1) := by decide +kernel
theorem dX7_run_56 : decode cX7_run 56 = .ok (.iload_n 3, 1) := by decide +kernel
theorem dX7_run_57 : decode cX7_run 57 = .ok (.iload 4, 2) := by decide +kernel
theorem dX7_run_59 : decode cX7_run 59 = .ok (.invokevirtual 38, 3) := by decide +kernel
theorem dX7_run_62 : decode cX7_run 62 = .ok (.iinc 5 1, 3) := by decide +kernel
theorem dX7_run_65 : decode cX7_run 65 = .ok (.goto (-35), 3) := by decide +kernel
theorem dX7_run_68 : decode cX7_run 68 = .ok (.return_, 1) := by decide +kernel
theorem dX7_arrival_0 : decode cX7_arrival 0 = .ok (.aload_n 0, 1) := by decide +kernel
theorem dX7_arrival_1 : decode cX7_arrival 1 = .ok (.getfield 15, 3) := by decide +kernel
theorem dX7_arrival_4 : decode cX7_arrival 4 = .ok (.iload_n 2, 1) := by decide +kernel
theorem dX7_arrival_5 : decode cX7_arrival 5 = .ok (.iaload, 1) := by decide +kernel
theorem dX7_arrival_6 : decode cX7_arrival 6 = .ok (.iconst (-1), 1) := by decide +kernel
theorem dX7_arrival_7 : decode cX7_arrival 7 = .ok (.if_icmp .ne 5, 3) := by decide +kernel
theorem dX7_arrival_10 : decode cX7_arrival 10 = .ok (.iconst (-1), 1) := by decide +kernel
theorem dX7_arrival_11 : decode cX7_arrival 11 = .ok (.ireturn, 1) := by decide +kernel
theorem dX7_arrival_12 : decode cX7_arrival 12 = .ok (.aload_n 0, 1) := by decide +kernel
theorem dX7_arrival_13 : decode cX7_arrival 13 = .ok (.getfield 15, 3) := by decide +kernel
theorem dX7_arrival_16 : decode cX7_arrival 16 = .ok (.iload_n 2, 1) := by decide +kernel
theorem dX7_arrival_17 : decode cX7_arrival 17 = .ok (.iaload, 1) := by decide +kernel
theorem dX7_arrival_18 : decode cX7_arrival 18 = .ok (.aload_n 1, 1) := by decide +kernel
theorem dX7_arrival_19 : decode cX7_arrival 19 = .ok (.getfield 42, 3) := by decide +kernel
theorem dX7_arrival_22 : decode cX7_arrival 22 = .ok (.aload_n 0, 1) := by decide +kernel
theorem dX7_arrival_23 : decode cX7_arrival 23 = .ok (.getfield 18, 3) := by decide +kernel
theorem dX7_arrival_26 : decode cX7_arrival 26 = .ok (.iload_n 2, 1) := by decide +kernel
theorem dX7_arrival_27 : decode cX7_arrival 27 = .ok (.iaload, 1) := by decide +kernel
theorem dX7_arrival_28 : decode cX7_arrival 28 = .ok (.aaload, 1) := by decide +kernel
theorem dX7_arrival_29 : decode cX7_arrival 29 = .ok (.iload_n 3, 1) := by decide +kernel
theorem dX7_arrival_30 : decode cX7_arrival 30 = .ok (.iaload, 1) := by decide +kernel
theorem dX7_arrival_31 : decode cX7_arrival 31 = .ok (.iadd, 1) := by decide +kernel
theorem dX7_arrival_32 : decode cX7_arrival 32 = .ok (.ireturn, 1) := by decide +kernel
theorem dX7_rouse_0 : decode cX7_rouse 0 = .ok (.aload_n 0, 1) := by decide +kernel
theorem dX7_rouse_1 : decode cX7_rouse 1 = .ok (.getfield 30, 3) := by decide +kernel
theorem dX7_rouse_4 : decode cX7_rouse 4 = .ok (.bipush 9, 2) := by decide +kernel
theorem dX7_rouse_6 : decode cX7_rouse 6 = .ok (.if_icmp .lt 4, 3) := by decide +kernel
theorem dX7_rouse_9 : decode cX7_rouse 9 = .ok (.return_, 1) := by decide +kernel
theorem dX7_rouse_10 : decode cX7_rouse 10 = .ok (.aload_n 0, 1) := by decide +kernel
theorem dX7_rouse_11 : decode cX7_rouse 11 = .ok (.getfield 9, 3) := by decide +kernel
theorem dX7_rouse_14 : decode cX7_rouse 14 = .ok (.iload_n 1, 1) := by decide +kernel
theorem dX7_rouse_15 : decode cX7_rouse 15 = .ok (.iload_n 2, 1) := by decide +kernel
theorem dX7_rouse_16 : decode cX7_rouse 16 = .ok (.iastore, 1) := by decide +kernel
theorem dX7_rouse_17 : decode cX7_rouse 17 = .ok (.aload_n 0, 1) := by decide +kernel
theorem dX7_rouse_18 : decode cX7_rouse 18 = .ok (.getfield 15, 3) := by decide +kernel
theorem dX7_rouse_21 : decode cX7_rouse 21 = .ok (.iload_n 1, 1) := by decide +kernel
theorem dX7_rouse_22 : decode cX7_rouse 22 = .ok (.iload_n 2, 1) := by decide +kernel
theorem dX7_rouse_23 : decode cX7_rouse 23 = .ok (.iastore, 1) := by decide +kernel
theorem dX7_rouse_24 : decode cX7_rouse 24 = .ok (.aload_n 0, 1) := by decide +kernel
theorem dX7_rouse_25 : decode cX7_rouse 25 = .ok (.getfield 18, 3) := by decide +kernel
theorem dX7_rouse_28 : decode cX7_rouse 28 = .ok (.iload_n 1, 1) := by decide +kernel
theorem dX7_rouse_29 : decode cX7_rouse 29 = .ok (.iload_n 1, 1) := by decide +kernel
theorem dX7_rouse_30 : decode cX7_rouse 30 = .ok (.iastore, 1) := by decide +kernel
theorem dX7_rouse_31 : decode cX7_rouse 31 = .ok (.aload_n 0, 1) := by decide +kernel
theorem dX7_rouse_32 : decode cX7_rouse 32 = .ok (.getfield 21, 3) := by decide +kernel
theorem dX7_rouse_35 : decode cX7_rouse 35 = .ok (.aload_n 0, 1) := by decide +kernel
theorem dX7_rouse_36 : decode cX7_rouse 36 = .ok (.getfield 30, 3) := by decide +kernel
theorem dX7_rouse_39 : decode cX7_rouse 39 = .ok (.iload_n 1, 1) := by decide +kernel
theorem dX7_rouse_40 : decode cX7_rouse 40 = .ok (.iastore, 1) := by decide +kernel
theorem dX7_rouse_41 : decode cX7_rouse 41 = .ok (.aload_n 0, 1) := by decide +kernel
theorem dX7_rouse_42 : decode cX7_rouse 42 = .ok (.dup, 1) := by decide +kernel
theorem dX7_rouse_43 : decode cX7_rouse 43 = .ok (.getfield 30, 3) := by decide +kernel
theorem dX7_rouse_46 : decode cX7_rouse 46 = .ok (.iconst 1, 1) := by decide +kernel
theorem dX7_rouse_47 : decode cX7_rouse 47 = .ok (.iadd, 1) := by decide +kernel
theorem dX7_rouse_48 : decode cX7_rouse 48 = .ok (.putfield 30, 3) := by decide +kernel
theorem dX7_rouse_51 : decode cX7_rouse 51 = .ok (.return_, 1) := by decide +kernel
theorem dX7_goRound_0 : decode cX7_goRound 0 = .ok (.iload_n 3, 1) := by decide +kernel
theorem dX7_goRound_1 : decode cX7_goRound 1 = .ok (.istore 6, 2) := by decide +kernel
theorem dX7_goRound_3 : decode cX7_goRound 3 = .ok (.aload_n 0, 1) := by decide +kernel
theorem dX7_goRound_4 : decode cX7_goRound 4 = .ok (.getfield 9, 3) := by decide +kernel
theorem dX7_goRound_7 : decode cX7_goRound 7 = .ok (.iload_n 3, 1) := by decide +kernel
theorem dX7_goRound_8 : decode cX7_goRound 8 = .ok (.iaload, 1) := by decide +kernel
theorem dX7_goRound_9 : decode cX7_goRound 9 = .ok (.istore 7, 2) := by decide +kernel
theorem dX7_goRound_11 : decode cX7_goRound 11 = .ok (.iconst 0, 1) := by decide +kernel
theorem dX7_goRound_12 : decode cX7_goRound 12 = .ok (.istore 8, 2) := by decide +kernel
theorem dX7_goRound_14 : decode cX7_goRound 14 = .ok (.iconst 0, 1) := by decide +kernel
theorem dX7_goRound_15 : decode cX7_goRound 15 = .ok (.istore 9, 2) := by decide +kernel
theorem dX7_goRound_17 : decode cX7_goRound 17 = .ok (.iload 9, 2) := by decide +kernel
theorem dX7_goRound_19 : decode cX7_goRound 19 = .ok (.aload_n 2, 1) := by decide +kernel
theorem dX7_goRound_20 : decode cX7_goRound 20 = .ok (.getfield 48, 3) := by decide +kernel
theorem dX7_goRound_23 : decode cX7_goRound 23 = .ok (.if_icmp .ge 112, 3) := by decide +kernel
theorem dX7_goRound_26 : decode cX7_goRound 26 = .ok (.aload_n 2, 1) := by decide +kernel
theorem dX7_goRound_27 : decode cX7_goRound 27 = .ok (.getfield 51, 3) := by decide +kernel
theorem dX7_goRound_30 : decode cX7_goRound 30 = .ok (.iload 9, 2) := by decide +kernel
theorem dX7_goRound_32 : decode cX7_goRound 32 = .ok (.iaload, 1) := by decide +kernel
theorem dX7_goRound_33 : decode cX7_goRound 33 = .ok (.iload_n 3, 1) := by decide +kernel
theorem dX7_goRound_34 : decode cX7_goRound 34 = .ok (.if_icmp .ne 95, 3) := by decide +kernel
theorem dX7_goRound_37 : decode cX7_goRound 37 = .ok (.aload_n 2, 1) := by decide +kernel
theorem dX7_goRound_38 : decode cX7_goRound 38 = .ok (.getfield 54, 3) := by decide +kernel
theorem dX7_goRound_41 : decode cX7_goRound 41 = .ok (.iload 9, 2) := by decide +kernel
theorem dX7_goRound_43 : decode cX7_goRound 43 = .ok (.iaload, 1) := by decide +kernel
theorem dX7_goRound_44 : decode cX7_goRound 44 = .ok (.istore 10, 2) := by decide +kernel
theorem dX7_goRound_46 : decode cX7_goRound 46 = .ok (.iload 7, 2) := by decide +kernel
theorem dX7_goRound_48 : decode cX7_goRound 48 = .ok (.aload_n 1, 1) := by decide +kernel
theorem dX7_goRound_49 : decode cX7_goRound 49 = .ok (.getfield 42, 3) := by decide +kernel
theorem dX7_goRound_52 : decode cX7_goRound 52 = .ok (.iload 6, 2) := by decide +kernel
theorem dX7_goRound_54 : decode cX7_goRound 54 = .ok (.aaload, 1) := by decide +kernel
theorem dX7_goRound_55 : decode cX7_goRound 55 = .ok (.iload 10, 2) := by decide +kernel
theorem dX7_goRound_57 : decode cX7_goRound 57 = .ok (.iaload, 1) := by decide +kernel
theorem dX7_goRound_58 : decode cX7_goRound 58 = .ok (.iadd, 1) := by decide +kernel
theorem dX7_goRound_59 : decode cX7_goRound 59 = .ok (.istore 7, 2) := by decide +kernel
theorem dX7_goRound_61 : decode cX7_goRound 61 = .ok (.iload 10, 2) := by decide +kernel
theorem dX7_goRound_63 : decode cX7_goRound 63 = .ok (.istore 6, 2) := by decide +kernel
theorem dX7_goRound_65 : decode cX7_goRound 65 = .ok (.iload 10, 2) := by decide +kernel
theorem dX7_goRound_67 : decode cX7_goRound 67 = .ok (.iload 4, 2) := by decide +kernel
theorem dX7_goRound_69 : decode cX7_goRound 69 = .ok (.if_icmp .eq 37, 3) := by decide +kernel
theorem dX7_goRound_72 : decode cX7_goRound 72 = .ok (.iload 5, 2) := by decide +kernel
theorem dX7_goRound_74 : decode cX7_goRound 74 = .ok (.iload 10, 2) := by decide +kernel
theorem dX7_goRound_76 : decode cX7_goRound 76 = .ok (.invokestatic 57, 3) := by decide +kernel
theorem dX7_goRound_79 : decode cX7_goRound 79 = .ok (.ifCond .eq 27, 3) := by decide +kernel
theorem dX7_goRound_82 : decode cX7_goRound 82 = .ok (.iload 7, 2) := by decide +kernel
theorem dX7_goRound_84 : decode cX7_goRound 84 = .ok (.aload_n 1, 1) := by decide +kernel
theorem dX7_goRound_85 : decode cX7_goRound 85 = .ok (.getfield 61, 3) := by decide +kernel
theorem dX7_goRound_88 : decode cX7_goRound 88 = .ok (.iload 10, 2) := by decide +kernel
theorem dX7_goRound_90 : decode cX7_goRound 90 = .ok (.iaload, 1) := by decide +kernel
theorem dX7_goRound_91 : decode cX7_goRound 91 = .ok (.iadd, 1) := by decide +kernel
theorem dX7_goRound_92 : decode cX7_goRound 92 = .ok (.istore 7, 2) := by decide +kernel
theorem dX7_goRound_94 : decode cX7_goRound 94 = .ok (.iload 8, 2) := by decide +kernel
theorem dX7_goRound_96 : decode cX7_goRound 96 = .ok (.iconst 1, 1) := by decide +kernel
theorem dX7_goRound_97 : decode cX7_goRound 97 = .ok (.iload 10, 2) := by decide +kernel
theorem dX7_goRound_99 : decode cX7_goRound 99 = .ok (.ishl, 1) := by decide +kernel
theorem dX7_goRound_100 : decode cX7_goRound 100 = .ok (.ior, 1) := by decide +kernel
theorem dX7_goRound_101 : decode cX7_goRound 101 = .ok (.istore 8, 2) := by decide +kernel
theorem dX7_goRound_103 : decode cX7_goRound 103 = .ok (.goto 26, 3) := by decide +kernel
theorem dX7_goRound_106 : decode cX7_goRound 106 = .ok (.iload 10, 2) := by decide +kernel
theorem dX7_goRound_108 : decode cX7_goRound 108 = .ok (.iload 4, 2) := by decide +kernel
theorem dX7_goRound_110 : decode cX7_goRound 110 = .ok (.if_icmp .eq 19, 3) := by decide +kernel
theorem dX7_goRound_113 : decode cX7_goRound 113 = .ok (.aload_n 0, 1) := by decide +kernel
theorem dX7_goRound_114 : decode cX7_goRound 114 = .ok (.iload 10, 2) := by decide +kernel
theorem dX7_goRound_116 : decode cX7_goRound 116 = .ok (.iload 7, 2) := by decide +kernel
theorem dX7_goRound_118 : decode cX7_goRound 118 = .ok (.aload_n 1, 1) := by decide +kernel
theorem dX7_goRound_119 : decode cX7_goRound 119 = .ok (.getfield 64, 3) := by decide +kernel
theorem dX7_goRound_122 : decode cX7_goRound 122 = .ok (.iload 10, 2) := by decide +kernel
theorem dX7_goRound_124 : decode cX7_goRound 124 = .ok (.iaload, 1) := by decide +kernel
theorem dX7_goRound_125 : decode cX7_goRound 125 = .ok (.iadd, 1) := by decide +kernel
theorem dX7_goRound_126 : decode cX7_goRound 126 = .ok (.invokevirtual 34, 3) := by decide +kernel
theorem dX7_goRound_129 : decode cX7_goRound 129 = .ok (.iinc 9 1, 3) := by decide +kernel
theorem dX7_goRound_132 : decode cX7_goRound 132 = .ok (.goto (-115), 3) := by decide +kernel
theorem dX7_goRound_135 : decode cX7_goRound 135 = .ok (.iconst 0, 1) := by decide +kernel
theorem dX7_goRound_136 : decode cX7_goRound 136 = .ok (.istore 9, 2) := by decide +kernel
theorem dX7_goRound_138 : decode cX7_goRound 138 = .ok (.iload 9, 2) := by decide +kernel
theorem dX7_goRound_140 : decode cX7_goRound 140 = .ok (.aload_n 1, 1) := by decide +kernel
theorem dX7_goRound_141 : decode cX7_goRound 141 = .ok (.getfield 67, 3) := by decide +kernel
theorem dX7_goRound_144 : decode cX7_goRound 144 = .ok (.if_icmp .ge 37, 3) := by decide +kernel
theorem dX7_goRound_147 : decode cX7_goRound 147 = .ok (.iload 8, 2) := by decide +kernel
theorem dX7_goRound_149 : decode cX7_goRound 149 = .ok (.iload 9, 2) := by decide +kernel
theorem dX7_goRound_151 : decode cX7_goRound 151 = .ok (.invokestatic 57, 3) := by decide +kernel
theorem dX7_goRound_154 : decode cX7_goRound 154 = .ok (.ifCond .eq 21, 3) := by decide +kernel
theorem dX7_goRound_157 : decode cX7_goRound 157 = .ok (.aload_n 0, 1) := by decide +kernel
theorem dX7_goRound_158 : decode cX7_goRound 158 = .ok (.getfield 15, 3) := by decide +kernel
theorem dX7_goRound_161 : decode cX7_goRound 161 = .ok (.iload 9, 2) := by decide +kernel
theorem dX7_goRound_163 : decode cX7_goRound 163 = .ok (.iload 7, 2) := by decide +kernel
theorem dX7_goRound_165 : decode cX7_goRound 165 = .ok (.iastore, 1) := by decide +kernel
theorem dX7_goRound_166 : decode cX7_goRound 166 = .ok (.aload_n 0, 1) := by decide +kernel
theorem dX7_goRound_167 : decode cX7_goRound 167 = .ok (.getfield 18, 3) := by decide +kernel
theorem dX7_goRound_170 : decode cX7_goRound 170 = .ok (.iload 9, 2) := by decide +kernel
theorem dX7_goRound_172 : decode cX7_goRound 172 = .ok (.iload 6, 2) := by decide +kernel
theorem dX7_goRound_174 : decode cX7_goRound 174 = .ok (.iastore, 1) := by decide +kernel
theorem dX7_goRound_175 : decode cX7_goRound 175 = .ok (.iinc 9 1, 3) := by decide +kernel
theorem dX7_goRound_178 : decode cX7_goRound 178 = .ok (.goto (-40), 3) := by decide +kernel
theorem dX7_goRound_181 : decode cX7_goRound 181 = .ok (.return_, 1) := by decide +kernel
end
section
theorem dX8_init_0 : decode cX8_init 0 = .ok (.aload_n 0, 1) := by decide +kernel
theorem dX8_init_1 : decode cX8_init 1 = .ok (.invokespecial 3, 3) := by decide +kernel
theorem dX8_init_4 : decode cX8_init 4 = .ok (.aload_n 0, 1) := by decide +kernel
theorem dX8_init_5 : decode cX8_init 5 = .ok (.new 9, 3) := by decide +kernel
theorem dX8_init_8 : decode cX8_init 8 = .ok (.dup, 1) := by decide +kernel
theorem dX8_init_9 : decode cX8_init 9 = .ok (.invokespecial 11, 3) := by decide +kernel
theorem dX8_init_12 : decode cX8_init 12 = .ok (.putfield 12, 3) := by decide +kernel
theorem dX8_init_15 : decode cX8_init 15 = .ok (.aload_n 0, 1) := by decide +kernel
theorem dX8_init_16 : decode cX8_init 16 = .ok (.new 16, 3) := by decide +kernel
theorem dX8_init_19 : decode cX8_init 19 = .ok (.dup, 1) := by decide +kernel
theorem dX8_init_20 : decode cX8_init 20 = .ok (.invokespecial 18, 3) := by decide +kernel
theorem dX8_init_23 : decode cX8_init 23 = .ok (.putfield 19, 3) := by decide +kernel
theorem dX8_init_26 : decode cX8_init 26 = .ok (.aload_n 0, 1) := by decide +kernel
theorem dX8_init_27 : decode cX8_init 27 = .ok (.new 16, 3) := by decide +kernel
theorem dX8_init_30 : decode cX8_init 30 = .ok (.dup, 1) := by decide +kernel
theorem dX8_init_31 : decode cX8_init 31 = .ok (.invokespecial 18, 3) := by decide +kernel
theorem dX8_init_34 : decode cX8_init 34 = .ok (.putfield 23, 3) := by decide +kernel
theorem dX8_init_37 : decode cX8_init 37 = .ok (.aload_n 0, 1) := by decide +kernel
theorem dX8_init_38 : decode cX8_init 38 = .ok (.new 16, 3) := by decide +kernel
theorem dX8_init_41 : decode cX8_init 41 = .ok (.dup, 1) := by decide +kernel
theorem dX8_init_42 : decode cX8_init 42 = .ok (.invokespecial 18, 3) := by decide +kernel
theorem dX8_init_45 : decode cX8_init 45 = .ok (.putfield 26, 3) := by decide +kernel
theorem dX8_init_48 : decode cX8_init 48 = .ok (.aload_n 0, 1) := by decide +kernel
theorem dX8_init_49 : decode cX8_init 49 = .ok (.new 29, 3) := by decide +kernel
theorem dX8_init_52 : decode cX8_init 52 = .ok (.dup, 1) := by decide +kernel
theorem dX8_init_53 : decode cX8_init 53 = .ok (.invokespecial 31, 3) := by decide +kernel
theorem dX8_init_56 : decode cX8_init 56 = .ok (.putfield 32, 3) := by decide +kernel
theorem dX8_init_59 : decode cX8_init 59 = .ok (.aload_n 0, 1) := by decide +kernel
theorem dX8_init_60 : decode cX8_init 60 = .ok (.new 36, 3) := by decide +kernel
theorem dX8_init_63 : decode cX8_init 63 = .ok (.dup, 1) := by decide +kernel
theorem dX8_init_64 : decode cX8_init 64 = .ok (.invokespecial 38, 3) := by decide +kernel
theorem dX8_init_67 : decode cX8_init 67 = .ok (.putfield 39, 3) := by decide +kernel
theorem dX8_init_70 : decode cX8_init 70 = .ok (.aload_n 0, 1) := by decide +kernel
theorem dX8_init_71 : decode cX8_init 71 = .ok (.new 36, 3) := by decide +kernel
theorem dX8_init_74 : decode cX8_init 74 = .ok (.dup, 1) := by decide +kernel
theorem dX8_init_75 : decode cX8_init 75 = .ok (.invokespecial 38, 3) := by decide +kernel
theorem dX8_init_78 : decode cX8_init 78 = .ok (.putfield 43, 3) := by decide +kernel
theorem dX8_init_81 : decode cX8_init 81 = .ok (.aload_n 0, 1) := by decide +kernel
theorem dX8_init_82 : decode cX8_init 82 = .ok (.new 46, 3) := by decide +kernel
theorem dX8_init_85 : decode cX8_init 85 = .ok (.dup, 1) := by decide +kernel
theorem dX8_init_86 : decode cX8_init 86 = .ok (.invokespecial 48, 3) := by decide +kernel
theorem dX8_init_89 : decode cX8_init 89 = .ok (.putfield 49, 3) := by decide +kernel
theorem dX8_init_92 : decode cX8_init 92 = .ok (.aload_n 0, 1) := by decide +kernel
theorem dX8_init_93 : decode cX8_init 93 = .ok (.bipush 12, 2) := by decide +kernel
theorem dX8_init_95 : decode cX8_init 95 = .ok (.newarray .int, 2) := by decide +kernel
theorem dX8_init_97 : decode cX8_init 97 = .ok (.putfield 53, 3) := by decide +kernel
theorem dX8_init_100 : decode cX8_init 100 = .ok (.aload_n 0, 1) := by decide +kernel
theorem dX8_init_101 : decode cX8_init 101 = .ok (.bipush 12, 2) := by decide +kernel
theorem dX8_init_103 : decode cX8_init 103 = .ok (.newarray .int, 2) := by decide +kernel
theorem dX8_init_105 : decode cX8_init 105 = .ok (.putfield 57, 3) := by decide +kernel
theorem dX8_init_108 : decode cX8_init 108 = .ok (.aload_n 0, 1) := by decide +kernel
theorem dX8_init_109 : decode cX8_init 109 = .ok (.sipush 4096, 3) := by decide +kernel
theorem dX8_init_112 : decode cX8_init 112 = .ok (.newarray .int, 2) := by decide +kernel
theorem dX8_init_114 : decode cX8_init 114 = .ok (.putfield 60, 3) := by decide +kernel
theorem dX8_init_117 : decode cX8_init 117 = .ok (.aload_n 0, 1) := by decide +kernel
theorem dX8_init_118 : decode cX8_init 118 = .ok (.new 63, 3) := by decide +kernel
theorem dX8_init_121 : decode cX8_init 121 = .ok (.dup, 1) := by decide +kernel
theorem dX8_init_122 : decode cX8_init 122 = .ok (.invokespecial 65, 3) := by decide +kernel
theorem dX8_init_125 : decode cX8_init 125 = .ok (.putfield 66, 3) := by decide +kernel
theorem dX8_init_128 : decode cX8_init 128 = .ok (.aload_n 0, 1) := by decide +kernel
theorem dX8_init_129 : decode cX8_init 129 = .ok (.new 63, 3) := by decide +kernel
theorem dX8_init_132 : decode cX8_init 132 = .ok (.dup, 1) := by decide +kernel
theorem dX8_init_133 : decode cX8_init 133 = .ok (.invokespecial 65, 3) := by decide +kernel
theorem dX8_init_136 : decode cX8_init 136 = .ok (.putfield 70, 3) := by decide +kernel
theorem dX8_init_139 : decode cX8_init 139 = .ok (.aload_n 0, 1) := by decide +kernel
theorem dX8_init_140 : decode cX8_init 140 = .ok (.new 73, 3) := by decide +kernel
theorem dX8_init_143 : decode cX8_init 143 = .ok (.dup, 1) := by decide +kernel
theorem dX8_init_144 : decode cX8_init 144 = .ok (.invokespecial 75, 3) := by decide +kernel
theorem dX8_init_147 : decode cX8_init 147 = .ok (.putfield 76, 3) := by decide +kernel
theorem dX8_init_150 : decode cX8_init 150 = .ok (.aload_n 0, 1) := by decide +kernel
theorem dX8_init_151 : decode cX8_init 151 = .ok (.new 73, 3) := by decide +kernel
theorem dX8_init_154 : decode cX8_init 154 = .ok (.dup, 1) := by decide +kernel
theorem dX8_init_155 : decode cX8_init 155 = .ok (.invokespecial 75, 3) := by decide +kernel
theorem dX8_init_158 : decode cX8_init 158 = .ok (.putfield 80, 3) := by decide +kernel
theorem dX8_init_161 : decode cX8_init 161 = .ok (.aload_n 0, 1) := by decide +kernel
theorem dX8_init_162 : decode cX8_init 162 = .ok (.new 83, 3) := by decide +kernel
theorem dX8_init_165 : decode cX8_init 165 = .ok (.dup, 1) := by decide +kernel
theorem dX8_init_166 : decode cX8_init 166 = .ok (.aload_n 0, 1) := by decide +kernel
theorem dX8_init_167 : decode cX8_init 167 = .ok (.getfield 32, 3) := by decide +kernel
theorem dX8_init_170 : decode cX8_init 170 = .ok (.aload_n 0, 1) := by decide +kernel
theorem dX8_init_171 : decode cX8_init 171 = .ok (.getfield 39, 3) := by decide +kernel
theorem dX8_init_174 : decode cX8_init 174 = .ok (.aload_n 0, 1) := by decide +kernel
theorem dX8_init_175 : decode cX8_init 175 = .ok (.getfield 66, 3) := by decide +kernel
theorem dX8_init_178 : decode cX8_init 178 = .ok (.invokespecial 85, 3) := by decide +kernel
theorem dX8_init_181 : decode cX8_init 181 = .ok (.putfield 88, 3) := by decide +kernel
theorem dX8_init_184 : decode cX8_init 184 = .ok (.aload_n 0, 1) := by decide +kernel
theorem dX8_init_185 : decode cX8_init 185 = .ok (.invokevirtual 92, 3) := by decide +kernel
theorem dX8_init_188 : decode cX8_init 188 = .ok (.return_, 1) := by decide +kernel
theorem dX8_feed_0 : decode cX8_feed 0 = .ok (.iload_n 1, 1) := by decide +kernel
theorem dX8_feed_1 : decode cX8_feed 1 = .ok (.iconst 1, 1) := by decide +kernel
theorem dX8_feed_2 : decode cX8_feed 2 = .ok (.if_icmp .lt 9, 3) := by decide +kernel
theorem dX8_feed_5 : decode cX8_feed 5 = .ok (.iload_n 1, 1) := by decide +kernel
theorem dX8_feed_6 : decode cX8_feed 6 = .ok (.bipush 8, 2) := by decide +kernel
theorem dX8_feed_8 : decode cX8_feed 8 = .ok (.if_icmp .le 6, 3) := by decide +kernel
theorem dX8_feed_11 : decode cX8_feed 11 = .ok (.ldc 95, 2) := by decide +kernel
theorem dX8_feed_13 : decode cX8_feed 13 = .ok (.ireturn, 1) := by decide +kernel
theorem dX8_feed_14 : decode cX8_feed 14 = .ok (.aload_n 0, 1) := by decide +kernel
theorem dX8_feed_15 : decode cX8_feed 15 = .ok (.getfield 12, 3) := by decide +kernel
theorem dX8_feed_18 : decode cX8_feed 18 = .ok (.getfield 96, 3) := by decide +kernel
theorem dX8_feed_21 : decode cX8_feed 21 = .ok (.iload_n 1, 1) := by decide +kernel
theorem dX8_feed_22 : decode cX8_feed 22 = .ok (.iadd, 1) := by decide +kernel
theorem dX8_feed_23 : decode cX8_feed 23 = .ok (.sipush 600, 3) := by decide +kernel
theorem dX8_feed_26 : decode cX8_feed 26 = .ok (.if_icmp .le 6, 3) := by decide +kernel
theorem dX8_feed_29 : decode cX8_feed 29 = .ok (.ldc 100, 2) := by decide +kernel
theorem dX8_feed_31 : decode cX8_feed 31 = .ok (.ireturn, 1) := by decide +kernel
theorem dX8_feed_32 : decode cX8_feed 32 = .ok (.aload_n 0, 1) := by decide +kernel
theorem dX8_feed_33 : decode cX8_feed 33 = .ok (.getfield 12, 3) := by decide +kernel
theorem dX8_feed_36 : decode cX8_feed 36 = .ok (.iload_n 1, 1) := by decide +kernel
theorem dX8_feed_37 : decode cX8_feed 37 = .ok (.lload_n 2, 1) := by decide +kernel
theorem dX8_feed_38 : decode cX8_feed 38 = .ok (.invokevirtual 101, 3) := by decide +kernel
theorem dX8_feed_41 : decode cX8_feed 41 = .ok (.aload_n 0, 1) := by decide +kernel
theorem dX8_feed_42 : decode cX8_feed 42 = .ok (.getfield 12, 3) := by decide +kernel
theorem dX8_feed_45 : decode cX8_feed 45 = .ok (.getfield 96, 3) := by decide +kernel
theorem dX8_feed_48 : decode cX8_feed 48 = .ok (.ireturn, 1) := by decide +kernel
theorem dX8_parish_0 : decode cX8_parish 0 = .ok (.aload_n 0, 1) := by decide +kernel
theorem dX8_parish_1 : decode cX8_parish 1 = .ok (.getfield 12, 3) := by decide +kernel
theorem dX8_parish_4 : decode cX8_parish 4 = .ok (.invokevirtual 105, 3) := by decide +kernel
theorem dX8_parish_7 : decode cX8_parish 7 = .ok (.aload_n 0, 1) := by decide +kernel
theorem dX8_parish_8 : decode cX8_parish 8 = .ok (.getfield 70, 3) := by decide +kernel
theorem dX8_parish_11 : decode cX8_parish 11 = .ok (.aload_n 0, 1) := by decide +kernel
theorem dX8_parish_12 : decode cX8_parish 12 = .ok (.getfield 12, 3) := by decide +kernel
theorem dX8_parish_15 : decode cX8_parish 15 = .ok (.invokevirtual 108, 3) := by decide +kernel
theorem dX8_parish_18 : decode cX8_parish 18 = .ok (.aload_n 0, 1) := by decide +kernel
theorem dX8_parish_19 : decode cX8_parish 19 = .ok (.getfield 12, 3) := by decide +kernel
theorem dX8_parish_22 : decode cX8_parish 22 = .ok (.iconst 0, 1) := by decide +kernel
theorem dX8_parish_23 : decode cX8_parish 23 = .ok (.putfield 96, 3) := by decide +kernel
theorem dX8_parish_26 : decode cX8_parish 26 = .ok (.aload_n 0, 1) := by decide +kernel
theorem dX8_parish_27 : decode cX8_parish 27 = .ok (.getfield 12, 3) := by decide +kernel
theorem dX8_parish_30 : decode cX8_parish 30 = .ok (.invokevirtual 112, 3) := by decide +kernel
theorem dX8_parish_33 : decode cX8_parish 33 = .ok (.ifCond .ne 14, 3) := by decide +kernel
theorem dX8_parish_36 : decode cX8_parish 36 = .ok (.bipush (-10), 2) := by decide +kernel
theorem dX8_parish_38 : decode cX8_parish 38 = .ok (.aload_n 0, 1) := by decide +kernel
theorem dX8_parish_39 : decode cX8_parish 39 = .ok (.getfield 12, 3) := by decide +kernel
theorem dX8_parish_42 : decode cX8_parish 42 = .ok (.getfield 116, 3) := by decide +kernel
theorem dX8_parish_45 : decode cX8_parish 45 = .ok (.isub, 1) := by decide +kernel
theorem dX8_parish_46 : decode cX8_parish 46 = .ok (.ireturn, 1) := by decide +kernel
theorem dX8_parish_47 : decode cX8_parish 47 = .ok (.aload_n 0, 1) := by decide +kernel
theorem dX8_parish_48 : decode cX8_parish 48 = .ok (.getfield 66, 3) := by decide +kernel
theorem dX8_parish_51 : decode cX8_parish 51 = .ok (.astore_n 1, 1) := by decide +kernel
theorem dX8_parish_52 : decode cX8_parish 52 = .ok (.aload_n 0, 1) := by decide +kernel
theorem dX8_parish_53 : decode cX8_parish 53 = .ok (.aload_n 0, 1) := by decide +kernel
theorem dX8_parish_54 : decode cX8_parish 54 = .ok (.getfield 70, 3) := by decide +kernel
theorem dX8_parish_57 : decode cX8_parish 57 = .ok (.putfield 66, 3) := by decide +kernel
theorem dX8_parish_60 : decode cX8_parish 60 = .ok (.aload_n 0, 1) := by decide +kernel
theorem dX8_parish_61 : decode cX8_parish 61 = .ok (.aload_n 1, 1) := by decide +kernel
theorem dX8_parish_62 : decode cX8_parish 62 = .ok (.putfield 70, 3) := by decide +kernel
theorem dX8_parish_65 : decode cX8_parish 65 = .ok (.aload_n 0, 1) := by decide +kernel
theorem dX8_parish_66 : decode cX8_parish 66 = .ok (.invokevirtual 92, 3) := by decide +kernel
theorem dX8_parish_69 : decode cX8_parish 69 = .ok (.aload_n 0, 1) := by decide +kernel
theorem dX8_parish_70 : decode cX8_parish 70 = .ok (.getfield 66, 3) := by decide +kernel
theorem dX8_parish_73 : decode cX8_parish 73 = .ok (.getfield 119, 3) := by decide +kernel
theorem dX8_parish_76 : decode cX8_parish 76 = .ok (.ireturn, 1) := by decide +kernel
theorem dX8_plan_0 : decode cX8_plan 0 = .ok (.aload_n 0, 1) := by decide +kernel
theorem dX8_plan_1 : decode cX8_plan 1 = .ok (.getfield 12, 3) := by decide +kernel
theorem dX8_plan_4 : decode cX8_plan 4 = .ok (.getfield 96, 3) := by decide +kernel
theorem dX8_plan_7 : decode cX8_plan 7 = .ok (.sipush 200, 3) := by decide +kernel
theorem dX8_plan_10 : decode cX8_plan 10 = .ok (.if_icmp .le 6, 3) := by decide +kernel
theorem dX8_plan_13 : decode cX8_plan 13 = .ok (.ldc 122, 2) := by decide +kernel
theorem dX8_plan_15 : decode cX8_plan 15 = .ok (.ireturn, 1) := by decide +kernel
theorem dX8_plan_16 : decode cX8_plan 16 = .ok (.aload_n 0, 1) := by decide +kernel
theorem dX8_plan_17 : decode cX8_plan 17 = .ok (.getfield 12, 3) := by decide +kernel
theorem dX8_plan_20 : decode cX8_plan 20 = .ok (.invokevirtual 105, 3) := by decide +kernel
theorem dX8_plan_23 : decode cX8_plan 23 = .ok (.aload_n 0, 1) := by decide +kernel
theorem dX8_plan_24 : decode cX8_plan 24 = .ok (.getfield 80, 3) := by decide +kernel
theorem dX8_plan_27 : decode cX8_plan 27 = .ok (.aload_n 0, 1) := by decide +kernel
theorem dX8_plan_28 : decode cX8_plan 28 = .ok (.getfield 12, 3) := by decide +kernel
theorem dX8_plan_31 : decode cX8_plan 31 = .ok (.aload_n 0, 1) := by decide +kernel
theorem dX8_plan_32 : decode cX8_plan 32 = .ok (.getfield 66, 3) := by decide +kernel
theorem dX8_plan_35 : decode cX8_plan 35 = .ok (.getfield 119, 3) := by decide +kernel
theorem dX8_plan_38 : decode cX8_plan 38 = .ok (.invokevirtual 123, 3) := by decide +kernel
theorem dX8_plan_41 : decode cX8_plan 41 = .ok (.aload_n 0, 1) := by decide +kernel
theorem dX8_plan_42 : decode cX8_plan 42 = .ok (.getfield 12, 3) := by decide +kernel
theorem dX8_plan_45 : decode cX8_plan 45 = .ok (.iconst 0, 1) := by decide +kernel
theorem dX8_plan_46 : decode cX8_plan 46 = .ok (.putfield 96, 3) := by decide +kernel
theorem dX8_plan_49 : decode cX8_plan 49 = .ok (.aload_n 0, 1) := by decide +kernel
theorem dX8_plan_50 : decode cX8_plan 50 = .ok (.getfield 12, 3) := by decide +kernel
theorem dX8_plan_53 : decode cX8_plan 53 = .ok (.invokevirtual 112, 3) := by decide +kernel
theorem dX8_plan_56 : decode cX8_plan 56 = .ok (.ifCond .ne 14, 3) := by decide +kernel
theorem dX8_plan_59 : decode cX8_plan 59 = .ok (.bipush (-10), 2) := by decide +kernel
theorem dX8_plan_61 : decode cX8_plan 61 = .ok (.aload_n 0, 1) := by decide +kernel
theorem dX8_plan_62 : decode cX8_plan 62 = .ok (.getfield 12, 3) := by decide +kernel
theorem dX8_plan_65 : decode cX8_plan 65 = .ok (.getfield 116, 3) := by decide +kernel
theorem dX8_plan_68 : decode cX8_plan 68 = .ok (.isub, 1) := by decide +kernel
theorem dX8_plan_69 : decode cX8_plan 69 = .ok (.ireturn, 1) := by decide +kernel
theorem dX8_plan_70 : decode cX8_plan 70 = .ok (.aload_n 0, 1) := by decide +kernel
theorem dX8_plan_71 : decode cX8_plan 71 = .ok (.getfield 76, 3) := by decide +kernel
theorem dX8_plan_74 : decode cX8_plan 74 = .ok (.astore_n 1, 1) := by decide +kernel
theorem dX8_plan_75 : decode cX8_plan 75 = .ok (.aload_n 0, 1) := by decide +kernel
theorem dX8_plan_76 : decode cX8_plan 76 = .ok (.aload_n 0, 1) := by decide +kernel
theorem dX8_plan_77 : decode cX8_plan 77 = .ok (.getfield 80, 3) := by decide +kernel
theorem dX8_plan_80 : decode cX8_plan 80 = .ok (.putfield 76, 3) := by decide +kernel
theorem dX8_plan_83 : decode cX8_plan 83 = .ok (.aload_n 0, 1) := by decide +kernel
theorem dX8_plan_84 : decode cX8_plan 84 = .ok (.aload_n 1, 1) := by decide +kernel
theorem dX8_plan_85 : decode cX8_plan 85 = .ok (.putfield 80, 3) := by decide +kernel
theorem dX8_plan_88 : decode cX8_plan 88 = .ok (.aload_n 0, 1) := by decide +kernel
theorem dX8_plan_89 : decode cX8_plan 89 = .ok (.getfield 76, 3) := by decide +kernel
theorem dX8_plan_92 : decode cX8_plan 92 = .ok (.getfield 126, 3) := by decide +kernel
theorem dX8_plan_95 : decode cX8_plan 95 = .ok (.ireturn, 1) := by decide +kernel
theorem dX8_fault_0 : decode cX8_fault 0 = .ok (.aload_n 0, 1) := by decide +kernel
theorem dX8_fault_1 : decode cX8_fault 1 = .ok (.getfield 12, 3) := by decide +kernel
theorem dX8_fault_4 : decode cX8_fault 4 = .ok (.getfield 129, 3) := by decide +kernel
theorem dX8_fault_7 : decode cX8_fault 7 = .ok (.ireturn, 1) := by decide +kernel
theorem dX8_told_0 : decode cX8_told 0 = .ok (.iload_n 1, 1) := by decide +kernel
theorem dX8_told_1 : decode cX8_told 1 = .ok (.tableswitch 93 0 6 #[43, 51, 59, 67, 75, 83, 88], 43) := by decide +kernel
theorem dX8_told_44 : decode cX8_told 44 = .ok (.aload_n 0, 1) := by decide +kernel
theorem dX8_told_45 : decode cX8_told 45 = .ok (.getfield 66, 3) := by decide +kernel
theorem dX8_told_48 : decode cX8_told 48 = .ok (.getfield 119, 3) := by decide +kernel
theorem dX8_told_51 : decode cX8_told 51 = .ok (.ireturn, 1) := by decide +kernel
theorem dX8_told_52 : decode cX8_told 52 = .ok (.aload_n 0, 1) := by decide +kernel
theorem dX8_told_53 : decode cX8_told 53 = .ok (.getfield 66, 3) := by decide +kernel
theorem dX8_told_56 : decode cX8_told 56 = .ok (.getfield 132, 3) := by decide +kernel
theorem dX8_told_59 : decode cX8_told 59 = .ok (.ireturn, 1) := by decide +kernel
theorem dX8_told_60 : decode cX8_told 60 = .ok (.aload_n 0, 1) := by decide +kernel
theorem dX8_told_61 : decode cX8_told 61 = .ok (.getfield 76, 3) := by decide +kernel
theorem dX8_told_64 : decode cX8_told 64 = .ok (.getfield 126, 3) := by decide +kernel
theorem dX8_told_67 : decode cX8_told 67 = .ok (.ireturn, 1) := by decide +kernel
theorem dX8_told_68 : decode cX8_told 68 = .ok (.aload_n 0, 1) := by decide +kernel
theorem dX8_told_69 : decode cX8_told 69 = .ok (.getfield 12, 3) := by decide +kernel
theorem dX8_told_72 : decode cX8_told 72 = .ok (.getfield 96, 3) := by decide +kernel
theorem dX8_told_75 : decode cX8_told 75 = .ok (.ireturn, 1) := by decide +kernel
theorem dX8_told_76 : decode cX8_told 76 = .ok (.aload_n 0, 1) := by decide +kernel
theorem dX8_told_77 : decode cX8_told 77 = .ok (.getfield 19, 3) := by decide +kernel
theorem dX8_told_80 : decode cX8_told 80 = .ok (.getfield 135, 3) := by decide +kernel
theorem dX8_told_83 : decode cX8_told 83 = .ok (.ireturn, 1) := by decide +kernel
theorem dX8_told_84 : decode cX8_told 84 = .ok (.aload_n 0, 1) := by decide +kernel
theorem dX8_told_85 : decode cX8_told 85 = .ok (.getfield 138, 3) := by decide +kernel
theorem dX8_told_88 : decode cX8_told 88 = .ok (.ireturn, 1) := by decide +kernel
theorem dX8_told_89 : decode cX8_told 89 = .ok (.aload_n 0, 1) := by decide +kernel
theorem dX8_told_90 : decode cX8_told 90 = .ok (.invokevirtual 141, 3) := by decide +kernel
theorem dX8_told_93 : decode cX8_told 93 = .ok (.ireturn, 1) := by decide +kernel
theorem dX8_told_94 : decode cX8_told 94 = .ok (.ldc 95, 2) := by decide +kernel
theorem dX8_told_96 : decode cX8_told 96 = .ok (.ireturn, 1) := by decide +kernel
theorem dX8_house_0 : decode cX8_house 0 = .ok (.aload_n 0, 1) := by decide +kernel
theorem dX8_house_1 : decode cX8_house 1 = .ok (.iload_n 1, 1) := by decide +kernel
theorem dX8_house_2 : decode cX8_house 2 = .ok (.invokevirtual 145, 3) := by decide +kernel
theorem dX8_house_5 : decode cX8_house 5 = .ok (.ifCond .eq 6, 3) := by decide +kernel
theorem dX8_house_8 : decode cX8_house 8 = .ok (.ldc 149, 2) := by decide +kernel
theorem dX8_house_10 : decode cX8_house 10 = .ok (.ireturn, 1) := by decide +kernel
theorem dX8_house_11 : decode cX8_house 11 = .ok (.iload_n 2, 1) := by decide +kernel
theorem dX8_house_12 : decode cX8_house 12 = .ok (.tableswitch 94 0 6 #[44, 54, 64, 64, 64, 64, 78], 44) := by decide +kernel
theorem dX8_house_56 : decode cX8_house 56 = .ok (.aload_n 0, 1) := by decide +kernel
theorem dX8_house_57 : decode cX8_house 57 = .ok (.getfield 66, 3) := by decide +kernel
theorem dX8_house_60 : decode cX8_house 60 = .ok (.getfield 150, 3) := by decide +kernel
theorem dX8_house_63 : decode cX8_house 63 = .ok (.iload_n 1, 1) := by decide +kernel
theorem dX8_house_64 : decode cX8_house 64 = .ok (.iaload, 1) := by decide +kernel
theorem dX8_house_65 : decode cX8_house 65 = .ok (.ireturn, 1) := by decide +kernel
theorem dX8_house_66 : decode cX8_house 66 = .ok (.aload_n 0, 1) := by decide +kernel
theorem dX8_house_67 : decode cX8_house 67 = .ok (.getfield 66, 3) := by decide +kernel
theorem dX8_house_70 : decode cX8_house 70 = .ok (.getfield 153, 3) := by decide +kernel
theorem dX8_house_73 : decode cX8_house 73 = .ok (.iload_n 1, 1) := by decide +kernel
theorem dX8_house_74 : decode cX8_house 74 = .ok (.iaload, 1) := by decide +kernel
theorem dX8_house_75 : decode cX8_house 75 = .ok (.ireturn, 1) := by decide +kernel
theorem dX8_house_76 : decode cX8_house 76 = .ok (.aload_n 0, 1) := by decide +kernel
theorem dX8_house_77 : decode cX8_house 77 = .ok (.getfield 66, 3) := by decide +kernel
theorem dX8_house_80 : decode cX8_house 80 = .ok (.getfield 156, 3) := by decide +kernel
theorem dX8_house_83 : decode cX8_house 83 = .ok (.iload_n 2, 1) := by decide +kernel
theorem dX8_house_84 : decode cX8_house 84 = .ok (.iconst 2, 1) := by decide +kernel
theorem dX8_house_85 : decode cX8_house 85 = .ok (.isub, 1) := by decide +kernel
theorem dX8_house_86 : decode cX8_house 86 = .ok (.aaload, 1) := by decide +kernel
theorem dX8_house_87 : decode cX8_house 87 = .ok (.iload_n 1, 1) := by decide +kernel
theorem dX8_house_88 : decode cX8_house 88 = .ok (.iaload, 1) := by decide +kernel
theorem dX8_house_89 : decode cX8_house 89 = .ok (.ireturn, 1) := by decide +kernel
theorem dX8_house_90 : decode cX8_house 90 = .ok (.aload_n 0, 1) := by decide +kernel
theorem dX8_house_91 : decode cX8_house 91 = .ok (.getfield 19, 3) := by decide +kernel
theorem dX8_house_94 : decode cX8_house 94 = .ok (.iload_n 1, 1) := by decide +kernel
theorem dX8_house_95 : decode cX8_house 95 = .ok (.aload_n 0, 1) := by decide +kernel
theorem dX8_house_96 : decode cX8_house 96 = .ok (.getfield 66, 3) := by decide +kernel
theorem dX8_house_99 : decode cX8_house 99 = .ok (.getfield 132, 3) := by decide +kernel
theorem dX8_house_102 : decode cX8_house 102 = .ok (.invokevirtual 160, 3) := by decide +kernel
theorem dX8_house_105 : decode cX8_house 105 = .ok (.ireturn, 1) := by decide +kernel
theorem dX8_house_106 : decode cX8_house 106 = .ok (.ldc 95, 2) := by decide +kernel
theorem dX8_house_108 : decode cX8_house 108 = .ok (.ireturn, 1) := by decide +kernel
theorem dX8_far_0 : decode cX8_far 0 = .ok (.aload_n 0, 1) := by decide +kernel
theorem dX8_far_1 : decode cX8_far 1 = .ok (.iload_n 1, 1) := by decide +kernel
theorem dX8_far_2 : decode cX8_far 2 = .ok (.invokevirtual 145, 3) := by decide +kernel
theorem dX8_far_5 : decode cX8_far 5 = .ok (.ifCond .ne 11, 3) := by decide +kernel
theorem dX8_far_8 : decode cX8_far 8 = .ok (.aload_n 0, 1) := by decide +kernel
theorem dX8_far_9 : decode cX8_far 9 = .ok (.iload_n 2, 1) := by decide +kernel
theorem dX8_far_10 : decode cX8_far 10 = .ok (.invokevirtual 145, 3) := by decide +kernel
theorem dX8_far_13 : decode cX8_far 13 = .ok (.ifCond .eq 6, 3) := by decide +kernel
theorem dX8_far_16 : decode cX8_far 16 = .ok (.ldc 149, 2) := by decide +kernel
theorem dX8_far_18 : decode cX8_far 18 = .ok (.ireturn, 1) := by decide +kernel
theorem dX8_far_19 : decode cX8_far 19 = .ok (.aload_n 0, 1) := by decide +kernel
theorem dX8_far_20 : decode cX8_far 20 = .ok (.getfield 66, 3) := by decide +kernel
theorem dX8_far_23 : decode cX8_far 23 = .ok (.getfield 164, 3) := by decide +kernel
theorem dX8_far_26 : decode cX8_far 26 = .ok (.iload_n 1, 1) := by decide +kernel
theorem dX8_far_27 : decode cX8_far 27 = .ok (.aaload, 1) := by decide +kernel
theorem dX8_far_28 : decode cX8_far 28 = .ok (.iload_n 2, 1) := by decide +kernel
theorem dX8_far_29 : decode cX8_far 29 = .ok (.iaload, 1) := by decide +kernel
theorem dX8_far_30 : decode cX8_far 30 = .ok (.ireturn, 1) := by decide +kernel
theorem dX8_part_0 : decode cX8_part 0 = .ok (.aload_n 0, 1) := by decide +kernel
theorem dX8_part_1 : decode cX8_part 1 = .ok (.iload_n 1, 1) := by decide +kernel
theorem dX8_part_2 : decode cX8_part 2 = .ok (.invokevirtual 167, 3) := by decide +kernel
theorem dX8_part_5 : decode cX8_part 5 = .ok (.ifCond .eq 6, 3) := by decide +kernel
theorem dX8_part_8 : decode cX8_part 8 = .ok (.ldc 149, 2) := by decide +kernel
theorem dX8_part_10 : decode cX8_part 10 = .ok (.ireturn, 1) := by decide +kernel
theorem dX8_part_11 : decode cX8_part 11 = .ok (.iload_n 2, 1) := by decide +kernel
theorem dX8_part_12 : decode cX8_part 12 = .ok (.tableswitch 97 0 5 #[40, 50, 60, 70, 80, 87], 40) := by decide +kernel
theorem dX8_part_52 : decode cX8_part 52 = .ok (.aload_n 0, 1) := by decide +kernel
theorem dX8_part_53 : decode cX8_part 53 = .ok (.getfield 19, 3) := by decide +kernel
theorem dX8_part_56 : decode cX8_part 56 = .ok (.getfield 170, 3) := by decide +kernel
theorem dX8_part_59 : decode cX8_part 59 = .ok (.iload_n 1, 1) := by decide +kernel
theorem dX8_part_60 : decode cX8_part 60 = .ok (.iaload, 1) := by decide +kernel
theorem dX8_part_61 : decode cX8_part 61 = .ok (.ireturn, 1) := by decide +kernel
theorem dX8_part_62 : decode cX8_part 62 = .ok (.aload_n 0, 1) := by decide +kernel
theorem dX8_part_63 : decode cX8_part 63 = .ok (.getfield 66, 3) := by decide +kernel
theorem dX8_part_66 : decode cX8_part 66 = .ok (.getfield 173, 3) := by decide +kernel
theorem dX8_part_69 : decode cX8_part 69 = .ok (.iload_n 1, 1) := by decide +kernel
theorem dX8_part_70 : decode cX8_part 70 = .ok (.iaload, 1) := by decide +kernel
theorem dX8_part_71 : decode cX8_part 71 = .ok (.ireturn, 1) := by decide +kernel
theorem dX8_part_72 : decode cX8_part 72 = .ok (.aload_n 0, 1) := by decide +kernel
theorem dX8_part_73 : decode cX8_part 73 = .ok (.getfield 66, 3) := by decide +kernel
theorem dX8_part_76 : decode cX8_part 76 = .ok (.getfield 176, 3) := by decide +kernel
theorem dX8_part_79 : decode cX8_part 79 = .ok (.iload_n 1, 1) := by decide +kernel
theorem dX8_part_80 : decode cX8_part 80 = .ok (.iaload, 1) := by decide +kernel
theorem dX8_part_81 : decode cX8_part 81 = .ok (.ireturn, 1) := by decide +kernel
theorem dX8_part_82 : decode cX8_part 82 = .ok (.aload_n 0, 1) := by decide +kernel
theorem dX8_part_83 : decode cX8_part 83 = .ok (.getfield 66, 3) := by decide +kernel
theorem dX8_part_86 : decode cX8_part 86 = .ok (.getfield 179, 3) := by decide +kernel
theorem dX8_part_89 : decode cX8_part 89 = .ok (.iload_n 1, 1) := by decide +kernel
theorem dX8_part_90 : decode cX8_part 90 = .ok (.iaload, 1) := by decide +kernel
theorem dX8_part_91 : decode cX8_part 91 = .ok (.ireturn, 1) := by decide +kernel
theorem dX8_part_92 : decode cX8_part 92 = .ok (.aload_n 0, 1) := by decide +kernel
theorem dX8_part_93 : decode cX8_part 93 = .ok (.getfield 53, 3) := by decide +kernel
theorem dX8_part_96 : decode cX8_part 96 = .ok (.iload_n 1, 1) := by decide +kernel
theorem dX8_part_97 : decode cX8_part 97 = .ok (.iaload, 1) := by decide +kernel
theorem dX8_part_98 : decode cX8_part 98 = .ok (.ireturn, 1) := by decide +kernel
theorem dX8_part_99 : decode cX8_part 99 = .ok (.aload_n 0, 1) := by decide +kernel
theorem dX8_part_100 : decode cX8_part 100 = .ok (.getfield 19, 3) := by decide +kernel
theorem dX8_part_103 : decode cX8_part 103 = .ok (.getfield 182, 3) := by decide +kernel
theorem dX8_part_106 : decode cX8_part 106 = .ok (.iload_n 1, 1) := by decide +kernel
theorem dX8_part_107 : decode cX8_part 107 = .ok (.iaload, 1) := by decide +kernel
theorem dX8_part_108 : decode cX8_part 108 = .ok (.ireturn, 1) := by decide +kernel
theorem dX8_part_109 : decode cX8_part 109 = .ok (.ldc 95, 2) := by decide +kernel
theorem dX8_part_111 : decode cX8_part 111 = .ok (.ireturn, 1) := by decide +kernel
theorem dX8_away_0 : decode cX8_away 0 = .ok (.iload_n 1, 1) := by decide +kernel
theorem dX8_away_1 : decode cX8_away 1 = .ok (.aload_n 0, 1) := by decide +kernel
theorem dX8_away_2 : decode cX8_away 2 = .ok (.getfield 66, 3) := by decide +kernel
theorem dX8_away_5 : decode cX8_away 5 = .ok (.getfield 119, 3) := by decide +kernel
theorem dX8_away_8 : decode cX8_away 8 = .ok (.invokestatic 185, 3) := by decide +kernel
theorem dX8_away_11 : decode cX8_away 11 = .ok (.ifCond .eq 6, 3) := by decide +kernel
theorem dX8_away_14 : decode cX8_away 14 = .ok (.ldc 149, 2) := by decide +kernel
theorem dX8_away_16 : decode cX8_away 16 = .ok (.ireturn, 1) := by decide +kernel
theorem dX8_away_17 : decode cX8_away 17 = .ok (.aload_n 0, 1) := by decide +kernel
theorem dX8_away_18 : decode cX8_away 18 = .ok (.getfield 19, 3) := by decide +kernel
theorem dX8_away_21 : decode cX8_away 21 = .ok (.getfield 135, 3) := by decide +kernel
theorem dX8_away_24 : decode cX8_away 24 = .ok (.istore_n 2, 1) := by decide +kernel
theorem dX8_away_25 : decode cX8_away 25 = .ok (.aload_n 0, 1) := by decide +kernel
theorem dX8_away_26 : decode cX8_away 26 = .ok (.getfield 19, 3) := by decide +kernel
theorem dX8_away_29 : decode cX8_away 29 = .ok (.iload_n 1, 1) := by decide +kernel
theorem dX8_away_30 : decode cX8_away 30 = .ok (.putfield 135, 3) := by decide +kernel
theorem dX8_away_33 : decode cX8_away 33 = .ok (.iload_n 2, 1) := by decide +kernel
theorem dX8_away_34 : decode cX8_away 34 = .ok (.ireturn, 1) := by decide +kernel
theorem dX8_awake_0 : decode cX8_awake 0 = .ok (.aload_n 0, 1) := by decide +kernel
theorem dX8_awake_1 : decode cX8_awake 1 = .ok (.iload_n 1, 1) := by decide +kernel
theorem dX8_awake_2 : decode cX8_awake 2 = .ok (.invokevirtual 145, 3) := by decide +kernel
theorem dX8_awake_5 : decode cX8_awake 5 = .ok (.ifCond .ne 11, 3) := by decide +kernel
theorem dX8_awake_8 : decode cX8_awake 8 = .ok (.aload_n 0, 1) := by decide +kernel
theorem dX8_awake_9 : decode cX8_awake 9 = .ok (.iload_n 2, 1) := by decide +kernel
theorem dX8_awake_10 : decode cX8_awake 10 = .ok (.invokevirtual 145, 3) := by decide +kernel
theorem dX8_awake_13 : decode cX8_awake 13 = .ok (.ifCond .eq 6, 3) := by decide +kernel
theorem dX8_awake_16 : decode cX8_awake 16 = .ok (.ldc 149, 2) := by decide +kernel
theorem dX8_awake_18 : decode cX8_awake 18 = .ok (.ireturn, 1) := by decide +kernel
theorem dX8_awake_19 : decode cX8_awake 19 = .ok (.aload_n 0, 1) := by decide +kernel
theorem dX8_awake_20 : decode cX8_awake 20 = .ok (.iload_n 1, 1) := by decide +kernel
theorem dX8_awake_21 : decode cX8_awake 21 = .ok (.invokevirtual 189, 3) := by decide +kernel
theorem dX8_awake_24 : decode cX8_awake 24 = .ok (.aload_n 0, 1) := by decide +kernel
theorem dX8_awake_25 : decode cX8_awake 25 = .ok (.getfield 32, 3) := by decide +kernel
theorem dX8_awake_28 : decode cX8_awake 28 = .ok (.getfield 193, 3) := by decide +kernel
theorem dX8_awake_31 : decode cX8_awake 31 = .ok (.iload_n 2, 1) := by decide +kernel
theorem dX8_awake_32 : decode cX8_awake 32 = .ok (.iaload, 1) := by decide +kernel
theorem dX8_awake_33 : decode cX8_awake 33 = .ok (.ireturn, 1) := by decide +kernel
theorem dX8_comes_0 : decode cX8_comes 0 = .ok (.aload_n 0, 1) := by decide +kernel
theorem dX8_comes_1 : decode cX8_comes 1 = .ok (.iload_n 1, 1) := by decide +kernel
theorem dX8_comes_2 : decode cX8_comes 2 = .ok (.invokevirtual 145, 3) := by decide +kernel
theorem dX8_comes_5 : decode cX8_comes 5 = .ok (.ifCond .ne 19, 3) := by decide +kernel
theorem dX8_comes_8 : decode cX8_comes 8 = .ok (.aload_n 0, 1) := by decide +kernel
theorem dX8_comes_9 : decode cX8_comes 9 = .ok (.iload_n 2, 1) := by decide +kernel
theorem dX8_comes_10 : decode cX8_comes 10 = .ok (.invokevirtual 145, 3) := by decide +kernel
theorem dX8_comes_13 : decode cX8_comes 13 = .ok (.ifCond .ne 11, 3) := by decide +kernel
theorem dX8_comes_16 : decode cX8_comes 16 = .ok (.aload_n 0, 1) := by decide +kernel
theorem dX8_comes_17 : decode cX8_comes 17 = .ok (.iload_n 3, 1) := by decide +kernel
theorem dX8_comes_18 : decode cX8_comes 18 = .ok (.invokevirtual 167, 3) := by decide +kernel
theorem dX8_comes_21 : decode cX8_comes 21 = .ok (.ifCond .eq 6, 3) := by decide +kernel
theorem dX8_comes_24 : decode cX8_comes 24 = .ok (.ldc 149, 2) := by decide +kernel
theorem dX8_comes_26 : decode cX8_comes 26 = .ok (.ireturn, 1) := by decide +kernel
theorem dX8_comes_27 : decode cX8_comes 27 = .ok (.aload_n 0, 1) := by decide +kernel
theorem dX8_comes_28 : decode cX8_comes 28 = .ok (.iload_n 2, 1) := by decide +kernel
theorem dX8_comes_29 : decode cX8_comes 29 = .ok (.invokevirtual 189, 3) := by decide +kernel
theorem dX8_comes_32 : decode cX8_comes 32 = .ok (.aload_n 0, 1) := by decide +kernel
theorem dX8_comes_33 : decode cX8_comes 33 = .ok (.getfield 32, 3) := by decide +kernel
theorem dX8_comes_36 : decode cX8_comes 36 = .ok (.aload_n 0, 1) := by decide +kernel
theorem dX8_comes_37 : decode cX8_comes 37 = .ok (.getfield 66, 3) := by decide +kernel
theorem dX8_comes_40 : decode cX8_comes 40 = .ok (.aload_n 0, 1) := by decide +kernel
theorem dX8_comes_41 : decode cX8_comes 41 = .ok (.getfield 19, 3) := by decide +kernel
theorem dX8_comes_44 : decode cX8_comes 44 = .ok (.getfield 170, 3) := by decide +kernel
theorem dX8_comes_47 : decode cX8_comes 47 = .ok (.iload_n 3, 1) := by decide +kernel
theorem dX8_comes_48 : decode cX8_comes 48 = .ok (.iaload, 1) := by decide +kernel
theorem dX8_comes_49 : decode cX8_comes 49 = .ok (.iload_n 1, 1) := by decide +kernel
theorem dX8_comes_50 : decode cX8_comes 50 = .ok (.invokevirtual 196, 3) := by decide +kernel
theorem dX8_comes_53 : decode cX8_comes 53 = .ok (.ireturn, 1) := by decide +kernel
theorem dX8_stands_0 : decode cX8_stands 0 = .ok (.aload_n 0, 1) := by decide +kernel
theorem dX8_stands_1 : decode cX8_stands 1 = .ok (.iload_n 1, 1) := by decide +kernel
theorem dX8_stands_2 : decode cX8_stands 2 = .ok (.invokevirtual 145, 3) := by decide +kernel
theorem dX8_stands_5 : decode cX8_stands 5 = .ok (.ifCond .ne 11, 3) := by decide +kernel
theorem dX8_stands_8 : decode cX8_stands 8 = .ok (.aload_n 0, 1) := by decide +kernel
theorem dX8_stands_9 : decode cX8_stands 9 = .ok (.iload_n 2, 1) := by decide +kernel
theorem dX8_stands_10 : decode cX8_stands 10 = .ok (.invokevirtual 145, 3) := by decide +kernel
theorem dX8_stands_13 : decode cX8_stands 13 = .ok (.ifCond .eq 6, 3) := by decide +kernel
theorem dX8_stands_16 : decode cX8_stands 16 = .ok (.ldc 149, 2) := by decide +kernel
theorem dX8_stands_18 : decode cX8_stands 18 = .ok (.ireturn, 1) := by decide +kernel
theorem dX8_stands_19 : decode cX8_stands 19 = .ok (.aload_n 0, 1) := by decide +kernel
theorem dX8_stands_20 : decode cX8_stands 20 = .ok (.iload_n 1, 1) := by decide +kernel
theorem dX8_stands_21 : decode cX8_stands 21 = .ok (.iload_n 2, 1) := by decide +kernel
theorem dX8_stands_22 : decode cX8_stands 22 = .ok (.invokevirtual 200, 3) := by decide +kernel
theorem dX8_stands_25 : decode cX8_stands 25 = .ok (.ireturn, 1) := by decide +kernel
theorem dX8_put_0 : decode cX8_put 0 = .ok (.aload_n 0, 1) := by decide +kernel
theorem dX8_put_1 : decode cX8_put 1 = .ok (.iload_n 1, 1) := by decide +kernel
theorem dX8_put_2 : decode cX8_put 2 = .ok (.invokevirtual 145, 3) := by decide +kernel
theorem dX8_put_5 : decode cX8_put 5 = .ok (.ifCond .ne 11, 3) := by decide +kernel
theorem dX8_put_8 : decode cX8_put 8 = .ok (.aload_n 0, 1) := by decide +kernel
theorem dX8_put_9 : decode cX8_put 9 = .ok (.iload_n 2, 1) := by decide +kernel
theorem dX8_put_10 : decode cX8_put 10 = .ok (.invokevirtual 145, 3) := by decide +kernel
theorem dX8_put_13 : decode cX8_put 13 = .ok (.ifCond .eq 6, 3) := by decide +kernel
theorem dX8_put_16 : decode cX8_put 16 = .ok (.ldc 149, 2) := by decide +kernel
theorem dX8_put_18 : decode cX8_put 18 = .ok (.ireturn, 1) := by decide +kernel
theorem dX8_put_19 : decode cX8_put 19 = .ok (.aload_n 0, 1) := by decide +kernel
theorem dX8_put_20 : decode cX8_put 20 = .ok (.iload_n 1, 1) := by decide +kernel
theorem dX8_put_21 : decode cX8_put 21 = .ok (.iload_n 2, 1) := by decide +kernel
theorem dX8_put_22 : decode cX8_put 22 = .ok (.invokevirtual 200, 3) := by decide +kernel
theorem dX8_put_25 : decode cX8_put 25 = .ok (.iconst (-1), 1) := by decide +kernel
theorem dX8_put_26 : decode cX8_put 26 = .ok (.if_icmp .eq 18, 3) := by decide +kernel
theorem dX8_put_29 : decode cX8_put 29 = .ok (.iload_n 3, 1) := by decide +kernel
theorem dX8_put_30 : decode cX8_put 30 = .ok (.ifCond .lt 14, 3) := by decide +kernel
theorem dX8_put_33 : decode cX8_put 33 = .ok (.iload_n 3, 1) := by decide +kernel
theorem dX8_put_34 : decode cX8_put 34 = .ok (.aload_n 0, 1) := by decide +kernel
theorem dX8_put_35 : decode cX8_put 35 = .ok (.getfield 39, 3) := by decide +kernel
theorem dX8_put_38 : decode cX8_put 38 = .ok (.getfield 203, 3) := by decide +kernel
theorem dX8_put_41 : decode cX8_put 41 = .ok (.if_icmp .lt 5, 3) := by decide +kernel
theorem dX8_put_44 : decode cX8_put 44 = .ok (.iconst (-1), 1) := by decide +kernel
theorem dX8_put_45 : decode cX8_put 45 = .ok (.ireturn, 1) := by decide +kernel
theorem dX8_put_46 : decode cX8_put 46 = .ok (.aload_n 0, 1) := by decide +kernel
theorem dX8_put_47 : decode cX8_put 47 = .ok (.getfield 39, 3) := by decide +kernel
theorem dX8_put_50 : decode cX8_put 50 = .ok (.getfield 204, 3) := by decide +kernel
theorem dX8_put_53 : decode cX8_put 53 = .ok (.iload_n 3, 1) := by decide +kernel
theorem dX8_put_54 : decode cX8_put 54 = .ok (.iaload, 1) := by decide +kernel
theorem dX8_put_55 : decode cX8_put 55 = .ok (.ireturn, 1) := by decide +kernel
theorem dX8_waited_0 : decode cX8_waited 0 = .ok (.aload_n 0, 1) := by decide +kernel
theorem dX8_waited_1 : decode cX8_waited 1 = .ok (.iload_n 1, 1) := by decide +kernel
theorem dX8_waited_2 : decode cX8_waited 2 = .ok (.invokevirtual 145, 3) := by decide +kernel
theorem dX8_waited_5 : decode cX8_waited 5 = .ok (.ifCond .ne 11, 3) := by decide +kernel
theorem dX8_waited_8 : decode cX8_waited 8 = .ok (.aload_n 0, 1) := by decide +kernel
theorem dX8_waited_9 : decode cX8_waited 9 = .ok (.iload_n 2, 1) := by decide +kernel
theorem dX8_waited_10 : decode cX8_waited 10 = .ok (.invokevirtual 145, 3) := by decide +kernel
theorem dX8_waited_13 : decode cX8_waited 13 = .ok (.ifCond .eq 6, 3) := by decide +kernel
theorem dX8_waited_16 : decode cX8_waited 16 = .ok (.ldc 149, 2) := by decide +kernel
theorem dX8_waited_18 : decode cX8_waited 18 = .ok (.ireturn, 1) := by decide +kernel
theorem dX8_waited_19 : decode cX8_waited 19 = .ok (.aload_n 0, 1) := by decide +kernel
theorem dX8_waited_20 : decode cX8_waited 20 = .ok (.iload_n 1, 1) := by decide +kernel
theorem dX8_waited_21 : decode cX8_waited 21 = .ok (.iload_n 2, 1) := by decide +kernel
theorem dX8_waited_22 : decode cX8_waited 22 = .ok (.invokevirtual 200, 3) := by decide +kernel
theorem dX8_waited_25 : decode cX8_waited 25 = .ok (.pop, 1) := by decide +kernel
theorem dX8_waited_26 : decode cX8_waited 26 = .ok (.aload_n 0, 1) := by decide +kernel
theorem dX8_waited_27 : decode cX8_waited 27 = .ok (.getfield 39, 3) := by decide +kernel
theorem dX8_waited_30 : decode cX8_waited 30 = .ok (.getfield 207, 3) := by decide +kernel
theorem dX8_waited_33 : decode cX8_waited 33 = .ok (.ireturn, 1) := by decide +kernel
theorem dX8_odds_0 : decode cX8_odds 0 = .ok (.aload_n 0, 1) := by decide +kernel
theorem dX8_odds_1 : decode cX8_odds 1 = .ok (.iload_n 1, 1) := by decide +kernel
theorem dX8_odds_2 : decode cX8_odds 2 = .ok (.invokevirtual 145, 3) := by decide +kernel
theorem dX8_odds_5 : decode cX8_odds 5 = .ok (.ifCond .ne 11, 3) := by decide +kernel
theorem dX8_odds_8 : decode cX8_odds 8 = .ok (.aload_n 0, 1) := by decide +kernel
theorem dX8_odds_9 : decode cX8_odds 9 = .ok (.iload_n 2, 1) := by decide +kernel
theorem dX8_odds_10 : decode cX8_odds 10 = .ok (.invokevirtual 145, 3) := by decide +kernel
theorem dX8_odds_13 : decode cX8_odds 13 = .ok (.ifCond .eq 6, 3) := by decide +kernel
theorem dX8_odds_16 : decode cX8_odds 16 = .ok (.ldc 149, 2) := by decide +kernel
theorem dX8_odds_18 : decode cX8_odds 18 = .ok (.ireturn, 1) := by decide +kernel
theorem dX8_odds_19 : decode cX8_odds 19 = .ok (.iload_n 3, 1) := by decide +kernel
theorem dX8_odds_20 : decode cX8_odds 20 = .ok (.ifCond .lt 19, 3) := by decide +kernel
theorem dX8_odds_23 : decode cX8_odds 23 = .ok (.iload_n 3, 1) := by decide +kernel
theorem dX8_odds_24 : decode cX8_odds 24 = .ok (.iconst 4, 1) := by decide +kernel
theorem dX8_odds_25 : decode cX8_odds 25 = .ok (.if_icmp .ge 14, 3) := by decide +kernel
theorem dX8_odds_28 : decode cX8_odds 28 = .ok (.iload 4, 2) := by decide +kernel
theorem dX8_odds_30 : decode cX8_odds 30 = .ok (.ifCond .lt 9, 3) := by decide +kernel
theorem dX8_odds_33 : decode cX8_odds 33 = .ok (.iload 4, 2) := by decide +kernel
theorem dX8_odds_35 : decode cX8_odds 35 = .ok (.iconst 1, 1) := by decide +kernel
theorem dX8_odds_36 : decode cX8_odds 36 = .ok (.if_icmp .le 6, 3) := by decide +kernel
theorem dX8_odds_39 : decode cX8_odds 39 = .ok (.ldc 95, 2) := by decide +kernel
theorem dX8_odds_41 : decode cX8_odds 41 = .ok (.ireturn, 1) := by decide +kernel
theorem dX8_odds_42 : decode cX8_odds 42 = .ok (.lconst 0, 1) := by decide +kernel
theorem dX8_odds_43 : decode cX8_odds 43 = .ok (.lstore 5, 2) := by decide +kernel
theorem dX8_odds_45 : decode cX8_odds 45 = .ok (.iconst 0, 1) := by decide +kernel
theorem dX8_odds_46 : decode cX8_odds 46 = .ok (.istore 7, 2) := by decide +kernel
theorem dX8_odds_48 : decode cX8_odds 48 = .ok (.iconst 0, 1) := by decide +kernel
theorem dX8_odds_49 : decode cX8_odds 49 = .ok (.istore 8, 2) := by decide +kernel
theorem dX8_odds_51 : decode cX8_odds 51 = .ok (.iload 8, 2) := by decide +kernel
theorem dX8_odds_53 : decode cX8_odds 53 = .ok (.aload_n 0, 1) := by decide +kernel
theorem dX8_odds_54 : decode cX8_odds 54 = .ok (.getfield 66, 3) := by decide +kernel
theorem dX8_odds_57 : decode cX8_odds 57 = .ok (.getfield 119, 3) := by decide +kernel
theorem dX8_odds_60 : decode cX8_odds 60 = .ok (.invokestatic 210, 3) := by decide +kernel
theorem dX8_odds_63 : decode cX8_odds 63 = .ok (.if_icmp .gt 126, 3) := by decide +kernel
theorem dX8_odds_66 : decode cX8_odds 66 = .ok (.iload 8, 2) := by decide +kernel
theorem dX8_odds_68 : decode cX8_odds 68 = .ok (.iload_n 2, 1) := by decide +kernel
theorem dX8_odds_69 : decode cX8_odds 69 = .ok (.invokestatic 214, 3) := by decide +kernel
theorem dX8_odds_72 : decode cX8_odds 72 = .ok (.ifCond .eq 7, 3) := by decide +kernel
theorem dX8_odds_75 : decode cX8_odds 75 = .ok (.lconst 0, 1) := by decide +kernel
theorem dX8_odds_76 : decode cX8_odds 76 = .ok (.goto 14, 3) := by decide +kernel
theorem dX8_odds_79 : decode cX8_odds 79 = .ok (.aload_n 0, 1) := by decide +kernel
theorem dX8_odds_80 : decode cX8_odds 80 = .ok (.getfield 66, 3) := by decide +kernel
theorem dX8_odds_83 : decode cX8_odds 83 = .ok (.iload 8, 2) := by decide +kernel
theorem dX8_odds_85 : decode cX8_odds 85 = .ok (.iload_n 2, 1) := by decide +kernel
theorem dX8_odds_86 : decode cX8_odds 86 = .ok (.iload_n 3, 1) := by decide +kernel
theorem dX8_odds_87 : decode cX8_odds 87 = .ok (.invokevirtual 217, 3) := by decide +kernel
theorem dX8_odds_90 : decode cX8_odds 90 = .ok (.lstore 9, 2) := by decide +kernel
theorem dX8_odds_92 : decode cX8_odds 92 = .ok (.lload 9, 2) := by decide +kernel
theorem dX8_odds_94 : decode cX8_odds 94 = .ok (.lconst 0, 1) := by decide +kernel
theorem dX8_odds_95 : decode cX8_odds 95 = .ok (.lcmp, 1) := by decide +kernel
theorem dX8_odds_96 : decode cX8_odds 96 = .ok (.ifCond .le 87, 3) := by decide +kernel
theorem dX8_odds_99 : decode cX8_odds 99 = .ok (.aload_n 0, 1) := by decide +kernel
theorem dX8_odds_100 : decode cX8_odds 100 = .ok (.getfield 32, 3) := by decide +kernel
theorem dX8_odds_103 : decode cX8_odds 103 = .ok (.aload_n 0, 1) := by decide +kernel
theorem dX8_odds_104 : decode cX8_odds 104 = .ok (.getfield 66, 3) := by decide +kernel
theorem dX8_odds_107 : decode cX8_odds 107 = .ok (.aload_n 0, 1) := by decide +kernel
theorem dX8_odds_108 : decode cX8_odds 108 = .ok (.getfield 76, 3) := by decide +kernel
theorem dX8_odds_111 : decode cX8_odds 111 = .ok (.iload_n 2, 1) := by decide +kernel
theorem dX8_odds_112 : decode cX8_odds 112 = .ok (.iload 8, 2) := by decide +kernel
theorem dX8_odds_114 : decode cX8_odds 114 = .ok (.invokevirtual 221, 3) := by decide +kernel
theorem dX8_odds_117 : decode cX8_odds 117 = .ok (.aload_n 0, 1) := by decide +kernel
theorem dX8_odds_118 : decode cX8_odds 118 = .ok (.getfield 39, 3) := by decide +kernel
theorem dX8_odds_121 : decode cX8_odds 121 = .ok (.aload_n 0, 1) := by decide +kernel
theorem dX8_odds_122 : decode cX8_odds 122 = .ok (.getfield 66, 3) := by decide +kernel
theorem dX8_odds_125 : decode cX8_odds 125 = .ok (.aload_n 0, 1) := by decide +kernel
theorem dX8_odds_126 : decode cX8_odds 126 = .ok (.getfield 32, 3) := by decide +kernel
theorem dX8_odds_129 : decode cX8_odds 129 = .ok (.aload_n 0, 1) := by decide +kernel
theorem dX8_odds_130 : decode cX8_odds 130 = .ok (.getfield 19, 3) := by decide +kernel
theorem dX8_odds_133 : decode cX8_odds 133 = .ok (.getfield 170, 3) := by decide +kernel
theorem dX8_odds_136 : decode cX8_odds 136 = .ok (.iload_n 1, 1) := by decide +kernel
theorem dX8_odds_137 : decode cX8_odds 137 = .ok (.invokevirtual 225, 3) := by decide +kernel
theorem dX8_odds_140 : decode cX8_odds 140 = .ok (.aload_n 0, 1) := by decide +kernel
theorem dX8_odds_141 : decode cX8_odds 141 = .ok (.getfield 39, 3) := by decide +kernel
theorem dX8_odds_144 : decode cX8_odds 144 = .ok (.aload_n 0, 1) := by decide +kernel
theorem dX8_odds_145 : decode cX8_odds 145 = .ok (.getfield 66, 3) := by decide +kernel
theorem dX8_odds_148 : decode cX8_odds 148 = .ok (.aload_n 0, 1) := by decide +kernel
theorem dX8_odds_149 : decode cX8_odds 149 = .ok (.getfield 66, 3) := by decide +kernel
theorem dX8_odds_152 : decode cX8_odds 152 = .ok (.invokevirtual 229, 3) := by decide +kernel
theorem dX8_odds_155 : decode cX8_odds 155 = .ok (.invokevirtual 232, 3) := by decide +kernel
theorem dX8_odds_158 : decode cX8_odds 158 = .ok (.invokestatic 235, 3) := by decide +kernel
theorem dX8_odds_161 : decode cX8_odds 161 = .ok (.istore 11, 2) := by decide +kernel
theorem dX8_odds_163 : decode cX8_odds 163 = .ok (.lload 5, 2) := by decide +kernel
theorem dX8_odds_165 : decode cX8_odds 165 = .ok (.lload 9, 2) := by decide +kernel
theorem dX8_odds_167 : decode cX8_odds 167 = .ok (.iload 11, 2) := by decide +kernel
theorem dX8_odds_169 : decode cX8_odds 169 = .ok (.i2l, 1) := by decide +kernel
theorem dX8_odds_170 : decode cX8_odds 170 = .ok (.lmul, 1) := by decide +kernel
theorem dX8_odds_171 : decode cX8_odds 171 = .ok (.ladd, 1) := by decide +kernel
theorem dX8_odds_172 : decode cX8_odds 172 = .ok (.lstore 5, 2) := by decide +kernel
theorem dX8_odds_174 : decode cX8_odds 174 = .ok (.iload 7, 2) := by decide +kernel
theorem dX8_odds_176 : decode cX8_odds 176 = .ok (.iload 11, 2) := by decide +kernel
theorem dX8_odds_178 : decode cX8_odds 178 = .ok (.invokestatic 238, 3) := by decide +kernel
theorem dX8_odds_181 : decode cX8_odds 181 = .ok (.istore 7, 2) := by decide +kernel
theorem dX8_odds_183 : decode cX8_odds 183 = .ok (.iinc 8 1, 3) := by decide +kernel
theorem dX8_odds_186 : decode cX8_odds 186 = .ok (.goto (-135), 3) := by decide +kernel
theorem dX8_odds_189 : decode cX8_odds 189 = .ok (.iload 4, 2) := by decide +kernel
theorem dX8_odds_191 : decode cX8_odds 191 = .ok (.ifCond .ne 13, 3) := by decide +kernel
theorem dX8_odds_194 : decode cX8_odds 194 = .ok (.lload 5, 2) := by decide +kernel
theorem dX8_odds_196 : decode cX8_odds 196 = .ok (.ldc2_w 243, 3) := by decide +kernel
theorem dX8_odds_199 : decode cX8_odds 199 = .ok (.ldiv, 1) := by decide +kernel
theorem dX8_odds_200 : decode cX8_odds 200 = .ok (.l2i, 1) := by decide +kernel
theorem dX8_odds_201 : decode cX8_odds 201 = .ok (.goto 5, 3) := by decide +kernel
theorem dX8_odds_204 : decode cX8_odds 204 = .ok (.iload 7, 2) := by decide +kernel
theorem dX8_odds_206 : decode cX8_odds 206 = .ok (.ireturn, 1) := by decide +kernel
theorem dX8_night_0 : decode cX8_night 0 = .ok (.iload_n 1, 1) := by decide +kernel
theorem dX8_night_1 : decode cX8_night 1 = .ok (.ifCond .lt 8, 3) := by decide +kernel
theorem dX8_night_4 : decode cX8_night 4 = .ok (.iload_n 1, 1) := by decide +kernel
theorem dX8_night_5 : decode cX8_night 5 = .ok (.iconst 4, 1) := by decide +kernel
theorem dX8_night_6 : decode cX8_night 6 = .ok (.if_icmp .lt 6, 3) := by decide +kernel
theorem dX8_night_9 : decode cX8_night 9 = .ok (.ldc 95, 2) := by decide +kernel
theorem dX8_night_11 : decode cX8_night 11 = .ok (.ireturn, 1) := by decide +kernel
theorem dX8_night_12 : decode cX8_night 12 = .ok (.iconst 0, 1) := by decide +kernel
theorem dX8_night_13 : decode cX8_night 13 = .ok (.istore_n 2, 1) := by decide +kernel
theorem dX8_night_14 : decode cX8_night 14 = .ok (.iconst 0, 1) := by decide +kernel
theorem dX8_night_15 : decode cX8_night 15 = .ok (.istore_n 3, 1) := by decide +kernel
theorem dX8_night_16 : decode cX8_night 16 = .ok (.iload_n 3, 1) := by decide +kernel
theorem dX8_night_17 : decode cX8_night 17 = .ok (.aload_n 0, 1) := by decide +kernel
theorem dX8_night_18 : decode cX8_night 18 = .ok (.getfield 66, 3) := by decide +kernel
theorem dX8_night_21 : decode cX8_night 21 = .ok (.getfield 119, 3) := by decide +kernel
theorem dX8_night_24 : decode cX8_night 24 = .ok (.if_icmp .ge 38, 3) := by decide +kernel
theorem dX8_night_27 : decode cX8_night 27 = .ok (.aload_n 0, 1) := by decide +kernel
theorem dX8_night_28 : decode cX8_night 28 = .ok (.getfield 19, 3) := by decide +kernel
theorem dX8_night_31 : decode cX8_night 31 = .ok (.bipush 100, 2) := by decide +kernel
theorem dX8_night_33 : decode cX8_night 33 = .ok (.invokevirtual 245, 3) := by decide +kernel
theorem dX8_night_36 : decode cX8_night 36 = .ok (.aload_n 0, 1) := by decide +kernel
theorem dX8_night_37 : decode cX8_night 37 = .ok (.getfield 66, 3) := by decide +kernel
theorem dX8_night_40 : decode cX8_night 40 = .ok (.getfield 156, 3) := by decide +kernel
theorem dX8_night_43 : decode cX8_night 43 = .ok (.iload_n 1, 1) := by decide +kernel
theorem dX8_night_44 : decode cX8_night 44 = .ok (.aaload, 1) := by decide +kernel
theorem dX8_night_45 : decode cX8_night 45 = .ok (.iload_n 3, 1) := by decide +kernel
theorem dX8_night_46 : decode cX8_night 46 = .ok (.iaload, 1) := by decide +kernel
theorem dX8_night_47 : decode cX8_night 47 = .ok (.if_icmp .ge 9, 3) := by decide +kernel
theorem dX8_night_50 : decode cX8_night 50 = .ok (.iload_n 2, 1) := by decide +kernel
theorem dX8_night_51 : decode cX8_night 51 = .ok (.iconst 1, 1) := by decide +kernel
theorem dX8_night_52 : decode cX8_night 52 = .ok (.iload_n 3, 1) := by decide +kernel
theorem dX8_night_53 : decode cX8_night 53 = .ok (.ishl, 1) := by decide +kernel
theorem dX8_night_54 : decode cX8_night 54 = .ok (.ior, 1) := by decide +kernel
theorem dX8_night_55 : decode cX8_night 55 = .ok (.istore_n 2, 1) := by decide +kernel
theorem dX8_night_56 : decode cX8_night 56 = .ok (.iinc 3 1, 3) := by decide +kernel
theorem dX8_night_59 : decode cX8_night 59 = .ok (.goto (-43), 3) := by decide +kernel
theorem dX8_night_62 : decode cX8_night 62 = .ok (.aload_n 0, 1) := by decide +kernel
theorem dX8_night_63 : decode cX8_night 63 = .ok (.getfield 19, 3) := by decide +kernel
theorem dX8_night_66 : decode cX8_night 66 = .ok (.iload_n 2, 1) := by decide +kernel
theorem dX8_night_67 : decode cX8_night 67 = .ok (.putfield 135, 3) := by decide +kernel
theorem dX8_night_70 : decode cX8_night 70 = .ok (.iload_n 2, 1) := by decide +kernel
theorem dX8_night_71 : decode cX8_night 71 = .ok (.ireturn, 1) := by decide +kernel
theorem dX8_crier_0 : decode cX8_crier 0 = .ok (.aload_n 0, 1) := by decide +kernel
theorem dX8_crier_1 : decode cX8_crier 1 = .ok (.iload_n 1, 1) := by decide +kernel
theorem dX8_crier_2 : decode cX8_crier 2 = .ok (.invokevirtual 145, 3) := by decide +kernel
theorem dX8_crier_5 : decode cX8_crier 5 = .ok (.ifCond .ne 11, 3) := by decide +kernel
theorem dX8_crier_8 : decode cX8_crier 8 = .ok (.aload_n 0, 1) := by decide +kernel
theorem dX8_crier_9 : decode cX8_crier 9 = .ok (.iload_n 2, 1) := by decide +kernel
theorem dX8_crier_10 : decode cX8_crier 10 = .ok (.invokevirtual 145, 3) := by decide +kernel
theorem dX8_crier_13 : decode cX8_crier 13 = .ok (.ifCond .eq 6, 3) := by decide +kernel
theorem dX8_crier_16 : decode cX8_crier 16 = .ok (.ldc 149, 2) := by decide +kernel
theorem dX8_crier_18 : decode cX8_crier 18 = .ok (.ireturn, 1) := by decide +kernel
theorem dX8_crier_19 : decode cX8_crier 19 = .ok (.aload_n 0, 1) := by decide +kernel
theorem dX8_crier_20 : decode cX8_crier 20 = .ok (.getfield 49, 3) := by decide +kernel
theorem dX8_crier_23 : decode cX8_crier 23 = .ok (.aload_n 0, 1) := by decide +kernel
theorem dX8_crier_24 : decode cX8_crier 24 = .ok (.getfield 66, 3) := by decide +kernel
theorem dX8_crier_27 : decode cX8_crier 27 = .ok (.aload_n 0, 1) := by decide +kernel
theorem dX8_crier_28 : decode cX8_crier 28 = .ok (.getfield 19, 3) := by decide +kernel
theorem dX8_crier_31 : decode cX8_crier 31 = .ok (.iload_n 2, 1) := by decide +kernel
theorem dX8_crier_32 : decode cX8_crier 32 = .ok (.invokevirtual 248, 3) := by decide +kernel
theorem dX8_crier_35 : decode cX8_crier 35 = .ok (.ifCond .ne 6, 3) := by decide +kernel
theorem dX8_crier_38 : decode cX8_crier 38 = .ok (.ldc 122, 2) := by decide +kernel
theorem dX8_crier_40 : decode cX8_crier 40 = .ok (.ireturn, 1) := by decide +kernel
theorem dX8_crier_41 : decode cX8_crier 41 = .ok (.aload_n 0, 1) := by decide +kernel
theorem dX8_crier_42 : decode cX8_crier 42 = .ok (.getfield 49, 3) := by decide +kernel
theorem dX8_crier_45 : decode cX8_crier 45 = .ok (.aload_n 0, 1) := by decide +kernel
theorem dX8_crier_46 : decode cX8_crier 46 = .ok (.getfield 66, 3) := by decide +kernel
theorem dX8_crier_49 : decode cX8_crier 49 = .ok (.aload_n 0, 1) := by decide +kernel
theorem dX8_crier_50 : decode cX8_crier 50 = .ok (.getfield 19, 3) := by decide +kernel
theorem dX8_crier_53 : decode cX8_crier 53 = .ok (.aload_n 0, 1) := by decide +kernel
theorem dX8_crier_54 : decode cX8_crier 54 = .ok (.getfield 32, 3) := by decide +kernel
theorem dX8_crier_57 : decode cX8_crier 57 = .ok (.aload_n 0, 1) := by decide +kernel
theorem dX8_crier_58 : decode cX8_crier 58 = .ok (.getfield 39, 3) := by decide +kernel
theorem dX8_crier_61 : decode cX8_crier 61 = .ok (.iload_n 1, 1) := by decide +kernel
theorem dX8_crier_62 : decode cX8_crier 62 = .ok (.invokevirtual 252, 3) := by decide +kernel
theorem dX8_crier_65 : decode cX8_crier 65 = .ok (.iload_n 3, 1) := by decide +kernel
theorem dX8_crier_66 : decode cX8_crier 66 = .ok (.iconst (-1), 1) := by decide +kernel
theorem dX8_crier_67 : decode cX8_crier 67 = .ok (.if_icmp .ne 11, 3) := by decide +kernel
theorem dX8_crier_70 : decode cX8_crier 70 = .ok (.aload_n 0, 1) := by decide +kernel
theorem dX8_crier_71 : decode cX8_crier 71 = .ok (.getfield 49, 3) := by decide +kernel
theorem dX8_crier_74 : decode cX8_crier 74 = .ok (.getfield 256, 3) := by decide +kernel
theorem dX8_crier_77 : decode cX8_crier 77 = .ok (.ireturn, 1) := by decide +kernel
theorem dX8_crier_78 : decode cX8_crier 78 = .ok (.iload_n 3, 1) := by decide +kernel
theorem dX8_crier_79 : decode cX8_crier 79 = .ok (.ifCond .lt 17, 3) := by decide +kernel
theorem dX8_crier_82 : decode cX8_crier 82 = .ok (.iload_n 3, 1) := by decide +kernel
theorem dX8_crier_83 : decode cX8_crier 83 = .ok (.aload_n 0, 1) := by decide +kernel
theorem dX8_crier_84 : decode cX8_crier 84 = .ok (.getfield 49, 3) := by decide +kernel
theorem dX8_crier_87 : decode cX8_crier 87 = .ok (.getfield 259, 3) := by decide +kernel
theorem dX8_crier_90 : decode cX8_crier 90 = .ok (.getfield 126, 3) := by decide +kernel
theorem dX8_crier_93 : decode cX8_crier 93 = .ok (.if_icmp .lt 5, 3) := by decide +kernel
theorem dX8_crier_96 : decode cX8_crier 96 = .ok (.iconst (-1), 1) := by decide +kernel
theorem dX8_crier_97 : decode cX8_crier 97 = .ok (.ireturn, 1) := by decide +kernel
theorem dX8_crier_98 : decode cX8_crier 98 = .ok (.aload_n 0, 1) := by decide +kernel
theorem dX8_crier_99 : decode cX8_crier 99 = .ok (.getfield 49, 3) := by decide +kernel
theorem dX8_crier_102 : decode cX8_crier 102 = .ok (.getfield 260, 3) := by decide +kernel
theorem dX8_crier_105 : decode cX8_crier 105 = .ok (.iload_n 3, 1) := by decide +kernel
theorem dX8_crier_106 : decode cX8_crier 106 = .ok (.iaload, 1) := by decide +kernel
theorem dX8_crier_107 : decode cX8_crier 107 = .ok (.ireturn, 1) := by decide +kernel
theorem dX8_keepAt_0 : decode cX8_keepAt 0 = .ok (.aload_n 0, 1) := by decide +kernel
theorem dX8_keepAt_1 : decode cX8_keepAt 1 = .ok (.iload_n 1, 1) := by decide +kernel
theorem dX8_keepAt_2 : decode cX8_keepAt 2 = .ok (.invokevirtual 167, 3) := by decide +kernel
theorem dX8_keepAt_5 : decode cX8_keepAt 5 = .ok (.ifCond .ne 11, 3) := by decide +kernel
theorem dX8_keepAt_8 : decode cX8_keepAt 8 = .ok (.aload_n 0, 1) := by decide +kernel
theorem dX8_keepAt_9 : decode cX8_keepAt 9 = .ok (.iload_n 2, 1) := by decide +kernel
theorem dX8_keepAt_10 : decode cX8_keepAt 10 = .ok (.invokevirtual 145, 3) := by decide +kernel
theorem dX8_keepAt_13 : decode cX8_keepAt 13 = .ok (.ifCond .eq 6, 3) := by decide +kernel
theorem dX8_keepAt_16 : decode cX8_keepAt 16 = .ok (.ldc 149, 2) := by decide +kernel
theorem dX8_keepAt_18 : decode cX8_keepAt 18 = .ok (.ireturn, 1) := by decide +kernel
theorem dX8_keepAt_19 : decode cX8_keepAt 19 = .ok (.aload_n 0, 1) := by decide +kernel
theorem dX8_keepAt_20 : decode cX8_keepAt 20 = .ok (.getfield 19, 3) := by decide +kernel
theorem dX8_keepAt_23 : decode cX8_keepAt 23 = .ok (.getfield 170, 3) := by decide +kernel
theorem dX8_keepAt_26 : decode cX8_keepAt 26 = .ok (.iload_n 1, 1) := by decide +kernel
theorem dX8_keepAt_27 : decode cX8_keepAt 27 = .ok (.iaload, 1) := by decide +kernel
theorem dX8_keepAt_28 : decode cX8_keepAt 28 = .ok (.istore_n 3, 1) := by decide +kernel
theorem dX8_keepAt_29 : decode cX8_keepAt 29 = .ok (.aload_n 0, 1) := by decide +kernel
theorem dX8_keepAt_30 : decode cX8_keepAt 30 = .ok (.getfield 19, 3) := by decide +kernel
theorem dX8_keepAt_33 : decode cX8_keepAt 33 = .ok (.getfield 170, 3) := by decide +kernel
theorem dX8_keepAt_36 : decode cX8_keepAt 36 = .ok (.iload_n 1, 1) := by decide +kernel
theorem dX8_keepAt_37 : decode cX8_keepAt 37 = .ok (.iload_n 2, 1) := by decide +kernel
theorem dX8_keepAt_38 : decode cX8_keepAt 38 = .ok (.iastore, 1) := by decide +kernel
theorem dX8_keepAt_39 : decode cX8_keepAt 39 = .ok (.iload_n 3, 1) := by decide +kernel
theorem dX8_keepAt_40 : decode cX8_keepAt 40 = .ok (.ireturn, 1) := by decide +kernel
theorem dX8_kept_0 : decode cX8_kept 0 = .ok (.aload_n 0, 1) := by decide +kernel
theorem dX8_kept_1 : decode cX8_kept 1 = .ok (.iload_n 1, 1) := by decide +kernel
theorem dX8_kept_2 : decode cX8_kept 2 = .ok (.invokevirtual 145, 3) := by decide +kernel
theorem dX8_kept_5 : decode cX8_kept 5 = .ok (.ifCond .eq 6, 3) := by decide +kernel
theorem dX8_kept_8 : decode cX8_kept 8 = .ok (.ldc 149, 2) := by decide +kernel
theorem dX8_kept_10 : decode cX8_kept 10 = .ok (.ireturn, 1) := by decide +kernel
theorem dX8_kept_11 : decode cX8_kept 11 = .ok (.iload_n 2, 1) := by decide +kernel
theorem dX8_kept_12 : decode cX8_kept 12 = .ok (.ifCond .lt 19, 3) := by decide +kernel
theorem dX8_kept_15 : decode cX8_kept 15 = .ok (.iload_n 2, 1) := by decide +kernel
theorem dX8_kept_16 : decode cX8_kept 16 = .ok (.sipush 999, 3) := by decide +kernel
theorem dX8_kept_19 : decode cX8_kept 19 = .ok (.if_icmp .gt 12, 3) := by decide +kernel
theorem dX8_kept_22 : decode cX8_kept 22 = .ok (.iload_n 3, 1) := by decide +kernel
theorem dX8_kept_23 : decode cX8_kept 23 = .ok (.ifCond .lt 8, 3) := by decide +kernel
theorem dX8_kept_26 : decode cX8_kept 26 = .ok (.iload_n 3, 1) := by decide +kernel
theorem dX8_kept_27 : decode cX8_kept 27 = .ok (.iconst 4, 1) := by decide +kernel
theorem dX8_kept_28 : decode cX8_kept 28 = .ok (.if_icmp .le 6, 3) := by decide +kernel
theorem dX8_kept_31 : decode cX8_kept 31 = .ok (.ldc 95, 2) := by decide +kernel
theorem dX8_kept_33 : decode cX8_kept 33 = .ok (.ireturn, 1) := by decide +kernel
theorem dX8_kept_34 : decode cX8_kept 34 = .ok (.aload_n 0, 1) := by decide +kernel
theorem dX8_kept_35 : decode cX8_kept 35 = .ok (.getfield 32, 3) := by decide +kernel
theorem dX8_kept_38 : decode cX8_kept 38 = .ok (.aload_n 0, 1) := by decide +kernel
theorem dX8_kept_39 : decode cX8_kept 39 = .ok (.getfield 66, 3) := by decide +kernel
theorem dX8_kept_42 : decode cX8_kept 42 = .ok (.aload_n 0, 1) := by decide +kernel
theorem dX8_kept_43 : decode cX8_kept 43 = .ok (.getfield 76, 3) := by decide +kernel
theorem dX8_kept_46 : decode cX8_kept 46 = .ok (.iload_n 1, 1) := by decide +kernel
theorem dX8_kept_47 : decode cX8_kept 47 = .ok (.iconst 0, 1) := by decide +kernel
theorem dX8_kept_48 : decode cX8_kept 48 = .ok (.invokevirtual 221, 3) := by decide +kernel
theorem dX8_kept_51 : decode cX8_kept 51 = .ok (.aload_n 0, 1) := by decide +kernel
theorem dX8_kept_52 : decode cX8_kept 52 = .ok (.getfield 88, 3) := by decide +kernel
theorem dX8_kept_55 : decode cX8_kept 55 = .ok (.aload_n 0, 1) := by decide +kernel
theorem dX8_kept_56 : decode cX8_kept 56 = .ok (.getfield 66, 3) := by decide +kernel
theorem dX8_kept_59 : decode cX8_kept 59 = .ok (.aload_n 0, 1) := by decide +kernel
theorem dX8_kept_60 : decode cX8_kept 60 = .ok (.getfield 19, 3) := by decide +kernel
theorem dX8_kept_63 : decode cX8_kept 63 = .ok (.getfield 170, 3) := by decide +kernel
theorem dX8_kept_66 : decode cX8_kept 66 = .ok (.iload_n 2, 1) := by decide +kernel
theorem dX8_kept_67 : decode cX8_kept 67 = .ok (.invokevirtual 263, 3) := by decide +kernel
theorem dX8_kept_70 : decode cX8_kept 70 = .ok (.iload_n 3, 1) := by decide +kernel
theorem dX8_kept_71 : decode cX8_kept 71 = .ok (.ifCond .ne 11, 3) := by decide +kernel
theorem dX8_kept_74 : decode cX8_kept 74 = .ok (.aload_n 0, 1) := by decide +kernel
theorem dX8_kept_75 : decode cX8_kept 75 = .ok (.getfield 88, 3) := by decide +kernel
theorem dX8_kept_78 : decode cX8_kept 78 = .ok (.getfield 267, 3) := by decide +kernel
theorem dX8_kept_81 : decode cX8_kept 81 = .ok (.ireturn, 1) := by decide +kernel
theorem dX8_kept_82 : decode cX8_kept 82 = .ok (.iload_n 3, 1) := by decide +kernel
theorem dX8_kept_83 : decode cX8_kept 83 = .ok (.iconst 1, 1) := by decide +kernel
theorem dX8_kept_84 : decode cX8_kept 84 = .ok (.isub, 1) := by decide +kernel
theorem dX8_kept_85 : decode cX8_kept 85 = .ok (.iconst 2, 1) := by decide +kernel
theorem dX8_kept_86 : decode cX8_kept 86 = .ok (.idiv, 1) := by decide +kernel
theorem dX8_kept_87 : decode cX8_kept 87 = .ok (.istore 4, 2) := by decide +kernel
theorem dX8_kept_89 : decode cX8_kept 89 = .ok (.iload 4, 2) := by decide +kernel
theorem dX8_kept_91 : decode cX8_kept 91 = .ok (.aload_n 0, 1) := by decide +kernel
theorem dX8_kept_92 : decode cX8_kept 92 = .ok (.getfield 88, 3) := by decide +kernel
theorem dX8_kept_95 : decode cX8_kept 95 = .ok (.getfield 267, 3) := by decide +kernel
theorem dX8_kept_98 : decode cX8_kept 98 = .ok (.if_icmp .lt 5, 3) := by decide +kernel
theorem dX8_kept_101 : decode cX8_kept 101 = .ok (.iconst (-1), 1) := by decide +kernel
theorem dX8_kept_102 : decode cX8_kept 102 = .ok (.ireturn, 1) := by decide +kernel
theorem dX8_kept_103 : decode cX8_kept 103 = .ok (.iload_n 3, 1) := by decide +kernel
theorem dX8_kept_104 : decode cX8_kept 104 = .ok (.iconst 2, 1) := by decide +kernel
theorem dX8_kept_105 : decode cX8_kept 105 = .ok (.irem, 1) := by decide +kernel
theorem dX8_kept_106 : decode cX8_kept 106 = .ok (.iconst 1, 1) := by decide +kernel
theorem dX8_kept_107 : decode cX8_kept 107 = .ok (.if_icmp .ne 16, 3) := by decide +kernel
theorem dX8_kept_110 : decode cX8_kept 110 = .ok (.aload_n 0, 1) := by decide +kernel
theorem dX8_kept_111 : decode cX8_kept 111 = .ok (.getfield 88, 3) := by decide +kernel
theorem dX8_kept_114 : decode cX8_kept 114 = .ok (.getfield 268, 3) := by decide +kernel
theorem dX8_kept_117 : decode cX8_kept 117 = .ok (.iload 4, 2) := by decide +kernel
theorem dX8_kept_119 : decode cX8_kept 119 = .ok (.iaload, 1) := by decide +kernel
theorem dX8_kept_120 : decode cX8_kept 120 = .ok (.goto 13, 3) := by decide +kernel
theorem dX8_kept_123 : decode cX8_kept 123 = .ok (.aload_n 0, 1) := by decide +kernel
theorem dX8_kept_124 : decode cX8_kept 124 = .ok (.getfield 88, 3) := by decide +kernel
theorem dX8_kept_127 : decode cX8_kept 127 = .ok (.getfield 271, 3) := by decide +kernel
theorem dX8_kept_130 : decode cX8_kept 130 = .ok (.iload 4, 2) := by decide +kernel
theorem dX8_kept_132 : decode cX8_kept 132 = .ok (.iaload, 1) := by decide +kernel
theorem dX8_kept_133 : decode cX8_kept 133 = .ok (.ireturn, 1) := by decide +kernel
theorem dX8_reach_0 : decode cX8_reach 0 = .ok (.iload_n 1, 1) := by decide +kernel
theorem dX8_reach_1 : decode cX8_reach 1 = .ok (.aload_n 0, 1) := by decide +kernel
theorem dX8_reach_2 : decode cX8_reach 2 = .ok (.getfield 66, 3) := by decide +kernel
theorem dX8_reach_5 : decode cX8_reach 5 = .ok (.getfield 132, 3) := by decide +kernel
theorem dX8_reach_8 : decode cX8_reach 8 = .ok (.invokestatic 185, 3) := by decide +kernel
theorem dX8_reach_11 : decode cX8_reach 11 = .ok (.ifCond .eq 6, 3) := by decide +kernel
theorem dX8_reach_14 : decode cX8_reach 14 = .ok (.ldc 149, 2) := by decide +kernel
theorem dX8_reach_16 : decode cX8_reach 16 = .ok (.ireturn, 1) := by decide +kernel
theorem dX8_reach_17 : decode cX8_reach 17 = .ok (.aload_n 0, 1) := by decide +kernel
theorem dX8_reach_18 : decode cX8_reach 18 = .ok (.getfield 66, 3) := by decide +kernel
theorem dX8_reach_21 : decode cX8_reach 21 = .ok (.aload_n 0, 1) := by decide +kernel
theorem dX8_reach_22 : decode cX8_reach 22 = .ok (.getfield 66, 3) := by decide +kernel
theorem dX8_reach_25 : decode cX8_reach 25 = .ok (.iload_n 1, 1) := by decide +kernel
theorem dX8_reach_26 : decode cX8_reach 26 = .ok (.invokevirtual 274, 3) := by decide +kernel
theorem dX8_reach_29 : decode cX8_reach 29 = .ok (.invokevirtual 277, 3) := by decide +kernel
theorem dX8_reach_32 : decode cX8_reach 32 = .ok (.ireturn, 1) := by decide +kernel
theorem dX8_needed_0 : decode cX8_needed 0 = .ok (.iload_n 1, 1) := by decide +kernel
theorem dX8_needed_1 : decode cX8_needed 1 = .ok (.ifCond .lt 10, 3) := by decide +kernel
theorem dX8_needed_4 : decode cX8_needed 4 = .ok (.iload_n 1, 1) := by decide +kernel
theorem dX8_needed_5 : decode cX8_needed 5 = .ok (.sipush 9999, 3) := by decide +kernel
theorem dX8_needed_8 : decode cX8_needed 8 = .ok (.if_icmp .le 6, 3) := by decide +kernel
theorem dX8_needed_11 : decode cX8_needed 11 = .ok (.ldc 95, 2) := by decide +kernel
theorem dX8_needed_13 : decode cX8_needed 13 = .ok (.ireturn, 1) := by decide +kernel
theorem dX8_needed_14 : decode cX8_needed 14 = .ok (.iconst (-1), 1) := by decide +kernel
theorem dX8_needed_15 : decode cX8_needed 15 = .ok (.istore_n 2, 1) := by decide +kernel
theorem dX8_needed_16 : decode cX8_needed 16 = .ok (.iconst 0, 1) := by decide +kernel
theorem dX8_needed_17 : decode cX8_needed 17 = .ok (.istore_n 3, 1) := by decide +kernel
theorem dX8_needed_18 : decode cX8_needed 18 = .ok (.iload_n 3, 1) := by decide +kernel
theorem dX8_needed_19 : decode cX8_needed 19 = .ok (.aload_n 0, 1) := by decide +kernel
theorem dX8_needed_20 : decode cX8_needed 20 = .ok (.getfield 66, 3) := by decide +kernel
theorem dX8_needed_23 : decode cX8_needed 23 = .ok (.invokevirtual 229, 3) := by decide +kernel
theorem dX8_needed_26 : decode cX8_needed 26 = .ok (.if_icmp .gt 58, 3) := by decide +kernel
theorem dX8_needed_29 : decode cX8_needed 29 = .ok (.iload_n 2, 1) := by decide +kernel
theorem dX8_needed_30 : decode cX8_needed 30 = .ok (.iconst (-1), 1) := by decide +kernel
theorem dX8_needed_31 : decode cX8_needed 31 = .ok (.if_icmp .eq 14, 3) := by decide +kernel
theorem dX8_needed_34 : decode cX8_needed 34 = .ok (.iload_n 3, 1) := by decide +kernel
theorem dX8_needed_35 : decode cX8_needed 35 = .ok (.invokestatic 280, 3) := by decide +kernel
theorem dX8_needed_38 : decode cX8_needed 38 = .ok (.iload_n 2, 1) := by decide +kernel
theorem dX8_needed_39 : decode cX8_needed 39 = .ok (.invokestatic 280, 3) := by decide +kernel
theorem dX8_needed_42 : decode cX8_needed 42 = .ok (.if_icmp .ge 7, 3) := by decide +kernel
theorem dX8_needed_45 : decode cX8_needed 45 = .ok (.iconst 1, 1) := by decide +kernel
theorem dX8_needed_46 : decode cX8_needed 46 = .ok (.goto 4, 3) := by decide +kernel
theorem dX8_needed_49 : decode cX8_needed 49 = .ok (.iconst 0, 1) := by decide +kernel
theorem dX8_needed_50 : decode cX8_needed 50 = .ok (.istore 4, 2) := by decide +kernel
theorem dX8_needed_52 : decode cX8_needed 52 = .ok (.iload 4, 2) := by decide +kernel
theorem dX8_needed_54 : decode cX8_needed 54 = .ok (.ifCond .eq 24, 3) := by decide +kernel
theorem dX8_needed_57 : decode cX8_needed 57 = .ok (.aload_n 0, 1) := by decide +kernel
theorem dX8_needed_58 : decode cX8_needed 58 = .ok (.getfield 66, 3) := by decide +kernel
theorem dX8_needed_61 : decode cX8_needed 61 = .ok (.aload_n 0, 1) := by decide +kernel
theorem dX8_needed_62 : decode cX8_needed 62 = .ok (.getfield 66, 3) := by decide +kernel
theorem dX8_needed_65 : decode cX8_needed 65 = .ok (.iload_n 3, 1) := by decide +kernel
theorem dX8_needed_66 : decode cX8_needed 66 = .ok (.invokevirtual 274, 3) := by decide +kernel
theorem dX8_needed_69 : decode cX8_needed 69 = .ok (.invokevirtual 277, 3) := by decide +kernel
theorem dX8_needed_72 : decode cX8_needed 72 = .ok (.iload_n 1, 1) := by decide +kernel
theorem dX8_needed_73 : decode cX8_needed 73 = .ok (.if_icmp .lt 5, 3) := by decide +kernel
theorem dX8_needed_76 : decode cX8_needed 76 = .ok (.iload_n 3, 1) := by decide +kernel
theorem dX8_needed_77 : decode cX8_needed 77 = .ok (.istore_n 2, 1) := by decide +kernel
theorem dX8_needed_78 : decode cX8_needed 78 = .ok (.iinc 3 1, 3) := by decide +kernel
theorem dX8_needed_81 : decode cX8_needed 81 = .ok (.goto (-63), 3) := by decide +kernel
theorem dX8_needed_84 : decode cX8_needed 84 = .ok (.iload_n 2, 1) := by decide +kernel
theorem dX8_needed_85 : decode cX8_needed 85 = .ok (.ireturn, 1) := by decide +kernel
theorem dX8_fit_0 : decode cX8_fit 0 = .ok (.aload_n 0, 1) := by decide +kernel
theorem dX8_fit_1 : decode cX8_fit 1 = .ok (.iload_n 1, 1) := by decide +kernel
theorem dX8_fit_2 : decode cX8_fit 2 = .ok (.invokevirtual 167, 3) := by decide +kernel
theorem dX8_fit_5 : decode cX8_fit 5 = .ok (.ifCond .ne 17, 3) := by decide +kernel
theorem dX8_fit_8 : decode cX8_fit 8 = .ok (.iload_n 2, 1) := by decide +kernel
theorem dX8_fit_9 : decode cX8_fit 9 = .ok (.aload_n 0, 1) := by decide +kernel
theorem dX8_fit_10 : decode cX8_fit 10 = .ok (.getfield 66, 3) := by decide +kernel
theorem dX8_fit_13 : decode cX8_fit 13 = .ok (.getfield 132, 3) := by decide +kernel
theorem dX8_fit_16 : decode cX8_fit 16 = .ok (.invokestatic 185, 3) := by decide +kernel
theorem dX8_fit_19 : decode cX8_fit 19 = .ok (.ifCond .eq 6, 3) := by decide +kernel
theorem dX8_fit_22 : decode cX8_fit 22 = .ok (.ldc 149, 2) := by decide +kernel
theorem dX8_fit_24 : decode cX8_fit 24 = .ok (.ireturn, 1) := by decide +kernel
theorem dX8_fit_25 : decode cX8_fit 25 = .ok (.aload_n 0, 1) := by decide +kernel
theorem dX8_fit_26 : decode cX8_fit 26 = .ok (.getfield 19, 3) := by decide +kernel
theorem dX8_fit_29 : decode cX8_fit 29 = .ok (.getfield 182, 3) := by decide +kernel
theorem dX8_fit_32 : decode cX8_fit 32 = .ok (.iload_n 1, 1) := by decide +kernel
theorem dX8_fit_33 : decode cX8_fit 33 = .ok (.iaload, 1) := by decide +kernel
theorem dX8_fit_34 : decode cX8_fit 34 = .ok (.istore_n 3, 1) := by decide +kernel
theorem dX8_fit_35 : decode cX8_fit 35 = .ok (.aload_n 0, 1) := by decide +kernel
theorem dX8_fit_36 : decode cX8_fit 36 = .ok (.getfield 19, 3) := by decide +kernel
theorem dX8_fit_39 : decode cX8_fit 39 = .ok (.getfield 182, 3) := by decide +kernel
theorem dX8_fit_42 : decode cX8_fit 42 = .ok (.iload_n 1, 1) := by decide +kernel
theorem dX8_fit_43 : decode cX8_fit 43 = .ok (.iload_n 2, 1) := by decide +kernel
theorem dX8_fit_44 : decode cX8_fit 44 = .ok (.iconst 1, 1) := by decide +kernel
theorem dX8_fit_45 : decode cX8_fit 45 = .ok (.iload_n 1, 1) := by decide +kernel
theorem dX8_fit_46 : decode cX8_fit 46 = .ok (.ishl, 1) := by decide +kernel
theorem dX8_fit_47 : decode cX8_fit 47 = .ok (.ior, 1) := by decide +kernel
theorem dX8_fit_48 : decode cX8_fit 48 = .ok (.iastore, 1) := by decide +kernel
theorem dX8_fit_49 : decode cX8_fit 49 = .ok (.iload_n 3, 1) := by decide +kernel
theorem dX8_fit_50 : decode cX8_fit 50 = .ok (.ireturn, 1) := by decide +kernel
theorem dX8_ladders_0 : decode cX8_ladders 0 = .ok (.iload_n 1, 1) := by decide +kernel
theorem dX8_ladders_1 : decode cX8_ladders 1 = .ok (.aload_n 0, 1) := by decide +kernel
theorem dX8_ladders_2 : decode cX8_ladders 2 = .ok (.getfield 66, 3) := by decide +kernel
theorem dX8_ladders_5 : decode cX8_ladders 5 = .ok (.getfield 132, 3) := by decide +kernel
theorem dX8_ladders_8 : decode cX8_ladders 8 = .ok (.invokestatic 185, 3) := by decide +kernel
theorem dX8_ladders_11 : decode cX8_ladders 11 = .ok (.ifCond .eq 6, 3) := by decide +kernel
theorem dX8_ladders_14 : decode cX8_ladders 14 = .ok (.ldc 149, 2) := by decide +kernel
theorem dX8_ladders_16 : decode cX8_ladders 16 = .ok (.ireturn, 1) := by decide +kernel
theorem dX8_ladders_17 : decode cX8_ladders 17 = .ok (.iload_n 2, 1) := by decide +kernel
theorem dX8_ladders_18 : decode cX8_ladders 18 = .ok (.ifCond .lt 14, 3) := by decide +kernel
theorem dX8_ladders_21 : decode cX8_ladders 21 = .ok (.iload_n 2, 1) := by decide +kernel
theorem dX8_ladders_22 : decode cX8_ladders 22 = .ok (.aload_n 0, 1) := by decide +kernel
theorem dX8_ladders_23 : decode cX8_ladders 23 = .ok (.getfield 66, 3) := by decide +kernel
theorem dX8_ladders_26 : decode cX8_ladders 26 = .ok (.getfield 132, 3) := by decide +kernel
theorem dX8_ladders_29 : decode cX8_ladders 29 = .ok (.if_icmp .le 6, 3) := by decide +kernel
theorem dX8_ladders_32 : decode cX8_ladders 32 = .ok (.ldc 95, 2) := by decide +kernel
theorem dX8_ladders_34 : decode cX8_ladders 34 = .ok (.ireturn, 1) := by decide +kernel
theorem dX8_ladders_35 : decode cX8_ladders 35 = .ok (.aload_n 0, 1) := by decide +kernel
theorem dX8_ladders_36 : decode cX8_ladders 36 = .ok (.iload_n 1, 1) := by decide +kernel
theorem dX8_ladders_37 : decode cX8_ladders 37 = .ok (.invokevirtual 285, 3) := by decide +kernel
theorem dX8_ladders_40 : decode cX8_ladders 40 = .ok (.iconst 0, 1) := by decide +kernel
theorem dX8_ladders_41 : decode cX8_ladders 41 = .ok (.istore_n 3, 1) := by decide +kernel
theorem dX8_ladders_42 : decode cX8_ladders 42 = .ok (.iconst 0, 1) := by decide +kernel
theorem dX8_ladders_43 : decode cX8_ladders 43 = .ok (.istore 4, 2) := by decide +kernel
theorem dX8_ladders_45 : decode cX8_ladders 45 = .ok (.iload 4, 2) := by decide +kernel
theorem dX8_ladders_47 : decode cX8_ladders 47 = .ok (.aload_n 0, 1) := by decide +kernel
theorem dX8_ladders_48 : decode cX8_ladders 48 = .ok (.getfield 66, 3) := by decide +kernel
theorem dX8_ladders_51 : decode cX8_ladders 51 = .ok (.invokevirtual 229, 3) := by decide +kernel
theorem dX8_ladders_54 : decode cX8_ladders 54 = .ok (.if_icmp .gt 28, 3) := by decide +kernel
theorem dX8_ladders_57 : decode cX8_ladders 57 = .ok (.iload 4, 2) := by decide +kernel
theorem dX8_ladders_59 : decode cX8_ladders 59 = .ok (.invokestatic 280, 3) := by decide +kernel
theorem dX8_ladders_62 : decode cX8_ladders 62 = .ok (.iload_n 2, 1) := by decide +kernel
theorem dX8_ladders_63 : decode cX8_ladders 63 = .ok (.if_icmp .ne 13, 3) := by decide +kernel
theorem dX8_ladders_66 : decode cX8_ladders 66 = .ok (.iload_n 3, 1) := by decide +kernel
theorem dX8_ladders_67 : decode cX8_ladders 67 = .ok (.aload_n 0, 1) := by decide +kernel
theorem dX8_ladders_68 : decode cX8_ladders 68 = .ok (.getfield 60, 3) := by decide +kernel
theorem dX8_ladders_71 : decode cX8_ladders 71 = .ok (.iload 4, 2) := by decide +kernel
theorem dX8_ladders_73 : decode cX8_ladders 73 = .ok (.iaload, 1) := by decide +kernel
theorem dX8_ladders_74 : decode cX8_ladders 74 = .ok (.iadd, 1) := by decide +kernel
theorem dX8_ladders_75 : decode cX8_ladders 75 = .ok (.istore_n 3, 1) := by decide +kernel
theorem dX8_ladders_76 : decode cX8_ladders 76 = .ok (.iinc 4 1, 3) := by decide +kernel
theorem dX8_ladders_79 : decode cX8_ladders 79 = .ok (.goto (-34), 3) := by decide +kernel
theorem dX8_ladders_82 : decode cX8_ladders 82 = .ok (.iload_n 3, 1) := by decide +kernel
theorem dX8_ladders_83 : decode cX8_ladders 83 = .ok (.ireturn, 1) := by decide +kernel
theorem dX8_longest_0 : decode cX8_longest 0 = .ok (.iload_n 1, 1) := by decide +kernel
theorem dX8_longest_1 : decode cX8_longest 1 = .ok (.aload_n 0, 1) := by decide +kernel
theorem dX8_longest_2 : decode cX8_longest 2 = .ok (.getfield 66, 3) := by decide +kernel
theorem dX8_longest_5 : decode cX8_longest 5 = .ok (.getfield 132, 3) := by decide +kernel
theorem dX8_longest_8 : decode cX8_longest 8 = .ok (.invokestatic 185, 3) := by decide +kernel
theorem dX8_longest_11 : decode cX8_longest 11 = .ok (.ifCond .eq 6, 3) := by decide +kernel
theorem dX8_longest_14 : decode cX8_longest 14 = .ok (.ldc 149, 2) := by decide +kernel
theorem dX8_longest_16 : decode cX8_longest 16 = .ok (.ireturn, 1) := by decide +kernel
theorem dX8_longest_17 : decode cX8_longest 17 = .ok (.aload_n 0, 1) := by decide +kernel
theorem dX8_longest_18 : decode cX8_longest 18 = .ok (.iload_n 1, 1) := by decide +kernel
theorem dX8_longest_19 : decode cX8_longest 19 = .ok (.invokevirtual 285, 3) := by decide +kernel
theorem dX8_longest_22 : decode cX8_longest 22 = .ok (.iconst 0, 1) := by decide +kernel
theorem dX8_longest_23 : decode cX8_longest 23 = .ok (.istore_n 2, 1) := by decide +kernel
theorem dX8_longest_24 : decode cX8_longest 24 = .ok (.iconst 0, 1) := by decide +kernel
theorem dX8_longest_25 : decode cX8_longest 25 = .ok (.istore_n 3, 1) := by decide +kernel
theorem dX8_longest_26 : decode cX8_longest 26 = .ok (.iload_n 3, 1) := by decide +kernel
theorem dX8_longest_27 : decode cX8_longest 27 = .ok (.aload_n 0, 1) := by decide +kernel
theorem dX8_longest_28 : decode cX8_longest 28 = .ok (.getfield 66, 3) := by decide +kernel
theorem dX8_longest_31 : decode cX8_longest 31 = .ok (.invokevirtual 229, 3) := by decide +kernel
theorem dX8_longest_34 : decode cX8_longest 34 = .ok (.if_icmp .gt 27, 3) := by decide +kernel
theorem dX8_longest_37 : decode cX8_longest 37 = .ok (.aload_n 0, 1) := by decide +kernel
theorem dX8_longest_38 : decode cX8_longest 38 = .ok (.getfield 60, 3) := by decide +kernel
theorem dX8_longest_41 : decode cX8_longest 41 = .ok (.iload_n 3, 1) := by decide +kernel
theorem dX8_longest_42 : decode cX8_longest 42 = .ok (.iaload, 1) := by decide +kernel
theorem dX8_longest_43 : decode cX8_longest 43 = .ok (.ifCond .le 12, 3) := by decide +kernel
theorem dX8_longest_46 : decode cX8_longest 46 = .ok (.iload_n 2, 1) := by decide +kernel
theorem dX8_longest_47 : decode cX8_longest 47 = .ok (.iload_n 3, 1) := by decide +kernel
theorem dX8_longest_48 : decode cX8_longest 48 = .ok (.invokestatic 280, 3) := by decide +kernel
theorem dX8_longest_51 : decode cX8_longest 51 = .ok (.invokestatic 238, 3) := by decide +kernel
theorem dX8_longest_54 : decode cX8_longest 54 = .ok (.istore_n 2, 1) := by decide +kernel
theorem dX8_longest_55 : decode cX8_longest 55 = .ok (.iinc 3 1, 3) := by decide +kernel
theorem dX8_longest_58 : decode cX8_longest 58 = .ok (.goto (-32), 3) := by decide +kernel
theorem dX8_longest_61 : decode cX8_longest 61 = .ok (.iload_n 2, 1) := by decide +kernel
theorem dX8_longest_62 : decode cX8_longest 62 = .ok (.ireturn, 1) := by decide +kernel
theorem dX8_cost_0 : decode cX8_cost 0 = .ok (.aload_n 0, 1) := by decide +kernel
theorem dX8_cost_1 : decode cX8_cost 1 = .ok (.iload_n 1, 1) := by decide +kernel
theorem dX8_cost_2 : decode cX8_cost 2 = .ok (.invokevirtual 167, 3) := by decide +kernel
theorem dX8_cost_5 : decode cX8_cost 5 = .ok (.ifCond .eq 6, 3) := by decide +kernel
theorem dX8_cost_8 : decode cX8_cost 8 = .ok (.ldc 149, 2) := by decide +kernel
theorem dX8_cost_10 : decode cX8_cost 10 = .ok (.ireturn, 1) := by decide +kernel
theorem dX8_cost_11 : decode cX8_cost 11 = .ok (.iload_n 2, 1) := by decide +kernel
theorem dX8_cost_12 : decode cX8_cost 12 = .ok (.ifCond .lt 9, 3) := by decide +kernel
theorem dX8_cost_15 : decode cX8_cost 15 = .ok (.iload_n 2, 1) := by decide +kernel
theorem dX8_cost_16 : decode cX8_cost 16 = .ok (.bipush 99, 2) := by decide +kernel
theorem dX8_cost_18 : decode cX8_cost 18 = .ok (.if_icmp .le 6, 3) := by decide +kernel
theorem dX8_cost_21 : decode cX8_cost 21 = .ok (.ldc 95, 2) := by decide +kernel
theorem dX8_cost_23 : decode cX8_cost 23 = .ok (.ireturn, 1) := by decide +kernel
theorem dX8_cost_24 : decode cX8_cost 24 = .ok (.aload_n 0, 1) := by decide +kernel
theorem dX8_cost_25 : decode cX8_cost 25 = .ok (.getfield 53, 3) := by decide +kernel
theorem dX8_cost_28 : decode cX8_cost 28 = .ok (.iload_n 1, 1) := by decide +kernel
theorem dX8_cost_29 : decode cX8_cost 29 = .ok (.iaload, 1) := by decide +kernel
theorem dX8_cost_30 : decode cX8_cost 30 = .ok (.istore_n 3, 1) := by decide +kernel
theorem dX8_cost_31 : decode cX8_cost 31 = .ok (.aload_n 0, 1) := by decide +kernel
theorem dX8_cost_32 : decode cX8_cost 32 = .ok (.getfield 53, 3) := by decide +kernel
theorem dX8_cost_35 : decode cX8_cost 35 = .ok (.iload_n 1, 1) := by decide +kernel
theorem dX8_cost_36 : decode cX8_cost 36 = .ok (.iload_n 2, 1) := by decide +kernel
theorem dX8_cost_37 : decode cX8_cost 37 = .ok (.iastore, 1) := by decide +kernel
theorem dX8_cost_38 : decode cX8_cost 38 = .ok (.iload_n 3, 1) := by decide +kernel
theorem dX8_cost_39 : decode cX8_cost 39 = .ok (.ireturn, 1) := by decide +kernel
theorem dX8_store_0 : decode cX8_store 0 = .ok (.aload_n 0, 1) := by decide +kernel
theorem dX8_store_1 : decode cX8_store 1 = .ok (.iload_n 1, 1) := by decide +kernel
theorem dX8_store_2 : decode cX8_store 2 = .ok (.invokevirtual 145, 3) := by decide +kernel
theorem dX8_store_5 : decode cX8_store 5 = .ok (.ifCond .eq 6, 3) := by decide +kernel
theorem dX8_store_8 : decode cX8_store 8 = .ok (.ldc 149, 2) := by decide +kernel
theorem dX8_store_10 : decode cX8_store 10 = .ok (.ireturn, 1) := by decide +kernel
theorem dX8_store_11 : decode cX8_store 11 = .ok (.aload_n 0, 1) := by decide +kernel
theorem dX8_store_12 : decode cX8_store 12 = .ok (.getfield 138, 3) := by decide +kernel
theorem dX8_store_15 : decode cX8_store 15 = .ok (.istore_n 2, 1) := by decide +kernel
theorem dX8_store_16 : decode cX8_store 16 = .ok (.aload_n 0, 1) := by decide +kernel
theorem dX8_store_17 : decode cX8_store 17 = .ok (.iload_n 1, 1) := by decide +kernel
theorem dX8_store_18 : decode cX8_store 18 = .ok (.putfield 138, 3) := by decide +kernel
theorem dX8_store_21 : decode cX8_store 21 = .ok (.iload_n 2, 1) := by decide +kernel
theorem dX8_store_22 : decode cX8_store 22 = .ok (.ireturn, 1) := by decide +kernel
theorem dX8_spares_0 : decode cX8_spares 0 = .ok (.aload_n 0, 1) := by decide +kernel
theorem dX8_spares_1 : decode cX8_spares 1 = .ok (.iload_n 1, 1) := by decide +kernel
theorem dX8_spares_2 : decode cX8_spares 2 = .ok (.invokevirtual 145, 3) := by decide +kernel
theorem dX8_spares_5 : decode cX8_spares 5 = .ok (.ifCond .ne 11, 3) := by decide +kernel
theorem dX8_spares_8 : decode cX8_spares 8 = .ok (.aload_n 0, 1) := by decide +kernel
theorem dX8_spares_9 : decode cX8_spares 9 = .ok (.iload_n 2, 1) := by decide +kernel
theorem dX8_spares_10 : decode cX8_spares 10 = .ok (.invokevirtual 145, 3) := by decide +kernel
theorem dX8_spares_13 : decode cX8_spares 13 = .ok (.ifCond .eq 6, 3) := by decide +kernel
theorem dX8_spares_16 : decode cX8_spares 16 = .ok (.ldc 149, 2) := by decide +kernel
theorem dX8_spares_18 : decode cX8_spares 18 = .ok (.ireturn, 1) := by decide +kernel
theorem dX8_spares_19 : decode cX8_spares 19 = .ok (.iload_n 3, 1) := by decide +kernel
theorem dX8_spares_20 : decode cX8_spares 20 = .ok (.ifCond .lt 21, 3) := by decide +kernel
theorem dX8_spares_23 : decode cX8_spares 23 = .ok (.iload_n 3, 1) := by decide +kernel
theorem dX8_spares_24 : decode cX8_spares 24 = .ok (.sipush 999, 3) := by decide +kernel
theorem dX8_spares_27 : decode cX8_spares 27 = .ok (.if_icmp .gt 14, 3) := by decide +kernel
theorem dX8_spares_30 : decode cX8_spares 30 = .ok (.iload 4, 2) := by decide +kernel
theorem dX8_spares_32 : decode cX8_spares 32 = .ok (.ifCond .lt 9, 3) := by decide +kernel
theorem dX8_spares_35 : decode cX8_spares 35 = .ok (.iload 4, 2) := by decide +kernel
theorem dX8_spares_37 : decode cX8_spares 37 = .ok (.iconst 1, 1) := by decide +kernel
theorem dX8_spares_38 : decode cX8_spares 38 = .ok (.if_icmp .le 6, 3) := by decide +kernel
theorem dX8_spares_41 : decode cX8_spares 41 = .ok (.ldc 95, 2) := by decide +kernel
theorem dX8_spares_43 : decode cX8_spares 43 = .ok (.ireturn, 1) := by decide +kernel
theorem dX8_spares_44 : decode cX8_spares 44 = .ok (.aload_n 0, 1) := by decide +kernel
theorem dX8_spares_45 : decode cX8_spares 45 = .ok (.iload_n 2, 1) := by decide +kernel
theorem dX8_spares_46 : decode cX8_spares 46 = .ok (.invokevirtual 189, 3) := by decide +kernel
theorem dX8_spares_49 : decode cX8_spares 49 = .ok (.aload_n 0, 1) := by decide +kernel
theorem dX8_spares_50 : decode cX8_spares 50 = .ok (.getfield 39, 3) := by decide +kernel
theorem dX8_spares_53 : decode cX8_spares 53 = .ok (.aload_n 0, 1) := by decide +kernel
theorem dX8_spares_54 : decode cX8_spares 54 = .ok (.getfield 66, 3) := by decide +kernel
theorem dX8_spares_57 : decode cX8_spares 57 = .ok (.aload_n 0, 1) := by decide +kernel
theorem dX8_spares_58 : decode cX8_spares 58 = .ok (.getfield 32, 3) := by decide +kernel
theorem dX8_spares_61 : decode cX8_spares 61 = .ok (.aload_n 0, 1) := by decide +kernel
theorem dX8_spares_62 : decode cX8_spares 62 = .ok (.getfield 19, 3) := by decide +kernel
theorem dX8_spares_65 : decode cX8_spares 65 = .ok (.getfield 170, 3) := by decide +kernel
theorem dX8_spares_68 : decode cX8_spares 68 = .ok (.iload_n 1, 1) := by decide +kernel
theorem dX8_spares_69 : decode cX8_spares 69 = .ok (.invokevirtual 225, 3) := by decide +kernel
theorem dX8_spares_72 : decode cX8_spares 72 = .ok (.aload_n 0, 1) := by decide +kernel
theorem dX8_spares_73 : decode cX8_spares 73 = .ok (.getfield 32, 3) := by decide +kernel
theorem dX8_spares_76 : decode cX8_spares 76 = .ok (.aload_n 0, 1) := by decide +kernel
theorem dX8_spares_77 : decode cX8_spares 77 = .ok (.getfield 66, 3) := by decide +kernel
theorem dX8_spares_80 : decode cX8_spares 80 = .ok (.aload_n 0, 1) := by decide +kernel
theorem dX8_spares_81 : decode cX8_spares 81 = .ok (.getfield 138, 3) := by decide +kernel
theorem dX8_spares_84 : decode cX8_spares 84 = .ok (.iload_n 1, 1) := by decide +kernel
theorem dX8_spares_85 : decode cX8_spares 85 = .ok (.invokevirtual 196, 3) := by decide +kernel
theorem dX8_spares_88 : decode cX8_spares 88 = .ok (.istore 5, 2) := by decide +kernel
theorem dX8_spares_90 : decode cX8_spares 90 = .ok (.aload_n 0, 1) := by decide +kernel
theorem dX8_spares_91 : decode cX8_spares 91 = .ok (.getfield 39, 3) := by decide +kernel
theorem dX8_spares_94 : decode cX8_spares 94 = .ok (.iload 5, 2) := by decide +kernel
theorem dX8_spares_96 : decode cX8_spares 96 = .ok (.aload_n 0, 1) := by decide +kernel
theorem dX8_spares_97 : decode cX8_spares 97 = .ok (.getfield 66, 3) := by decide +kernel
theorem dX8_spares_100 : decode cX8_spares 100 = .ok (.getfield 132, 3) := by decide +kernel
theorem dX8_spares_103 : decode cX8_spares 103 = .ok (.invokevirtual 288, 3) := by decide +kernel
theorem dX8_spares_106 : decode cX8_spares 106 = .ok (.istore 6, 2) := by decide +kernel
theorem dX8_spares_108 : decode cX8_spares 108 = .ok (.iconst 0, 1) := by decide +kernel
theorem dX8_spares_109 : decode cX8_spares 109 = .ok (.istore 7, 2) := by decide +kernel
theorem dX8_spares_111 : decode cX8_spares 111 = .ok (.aload_n 0, 1) := by decide +kernel
theorem dX8_spares_112 : decode cX8_spares 112 = .ok (.iconst 0, 1) := by decide +kernel
theorem dX8_spares_113 : decode cX8_spares 113 = .ok (.iload 5, 2) := by decide +kernel
theorem dX8_spares_115 : decode cX8_spares 115 = .ok (.invokevirtual 291, 3) := by decide +kernel
theorem dX8_spares_118 : decode cX8_spares 118 = .ok (.istore 8, 2) := by decide +kernel
theorem dX8_spares_120 : decode cX8_spares 120 = .ok (.iconst 1, 1) := by decide +kernel
theorem dX8_spares_121 : decode cX8_spares 121 = .ok (.istore 9, 2) := by decide +kernel
theorem dX8_spares_123 : decode cX8_spares 123 = .ok (.iload 9, 2) := by decide +kernel
theorem dX8_spares_125 : decode cX8_spares 125 = .ok (.iload 6, 2) := by decide +kernel
theorem dX8_spares_127 : decode cX8_spares 127 = .ok (.if_icmp .gt 76, 3) := by decide +kernel
theorem dX8_spares_130 : decode cX8_spares 130 = .ok (.iload 9, 2) := by decide +kernel
theorem dX8_spares_132 : decode cX8_spares 132 = .ok (.iload 6, 2) := by decide +kernel
theorem dX8_spares_134 : decode cX8_spares 134 = .ok (.iconst (-1), 1) := by decide +kernel
theorem dX8_spares_135 : decode cX8_spares 135 = .ok (.ixor, 1) := by decide +kernel
theorem dX8_spares_136 : decode cX8_spares 136 = .ok (.iand, 1) := by decide +kernel
theorem dX8_spares_137 : decode cX8_spares 137 = .ok (.ifCond .ne 60, 3) := by decide +kernel
theorem dX8_spares_140 : decode cX8_spares 140 = .ok (.aload_n 0, 1) := by decide +kernel
theorem dX8_spares_141 : decode cX8_spares 141 = .ok (.iload 9, 2) := by decide +kernel
theorem dX8_spares_143 : decode cX8_spares 143 = .ok (.invokevirtual 294, 3) := by decide +kernel
theorem dX8_spares_146 : decode cX8_spares 146 = .ok (.iload_n 3, 1) := by decide +kernel
theorem dX8_spares_147 : decode cX8_spares 147 = .ok (.if_icmp .gt 50, 3) := by decide +kernel
theorem dX8_spares_150 : decode cX8_spares 150 = .ok (.aload_n 0, 1) := by decide +kernel
theorem dX8_spares_151 : decode cX8_spares 151 = .ok (.iload 9, 2) := by decide +kernel
theorem dX8_spares_153 : decode cX8_spares 153 = .ok (.iload 5, 2) := by decide +kernel
theorem dX8_spares_155 : decode cX8_spares 155 = .ok (.invokevirtual 291, 3) := by decide +kernel
theorem dX8_spares_158 : decode cX8_spares 158 = .ok (.istore 10, 2) := by decide +kernel
theorem dX8_spares_160 : decode cX8_spares 160 = .ok (.iload 10, 2) := by decide +kernel
theorem dX8_spares_162 : decode cX8_spares 162 = .ok (.iload 8, 2) := by decide +kernel
theorem dX8_spares_164 : decode cX8_spares 164 = .ok (.if_icmp .lt 25, 3) := by decide +kernel
theorem dX8_spares_167 : decode cX8_spares 167 = .ok (.iload 10, 2) := by decide +kernel
theorem dX8_spares_169 : decode cX8_spares 169 = .ok (.iload 8, 2) := by decide +kernel
theorem dX8_spares_171 : decode cX8_spares 171 = .ok (.if_icmp .ne 26, 3) := by decide +kernel
theorem dX8_spares_174 : decode cX8_spares 174 = .ok (.aload_n 0, 1) := by decide +kernel
theorem dX8_spares_175 : decode cX8_spares 175 = .ok (.iload 9, 2) := by decide +kernel
theorem dX8_spares_177 : decode cX8_spares 177 = .ok (.invokevirtual 294, 3) := by decide +kernel
theorem dX8_spares_180 : decode cX8_spares 180 = .ok (.aload_n 0, 1) := by decide +kernel
theorem dX8_spares_181 : decode cX8_spares 181 = .ok (.iload 7, 2) := by decide +kernel
theorem dX8_spares_183 : decode cX8_spares 183 = .ok (.invokevirtual 294, 3) := by decide +kernel
theorem dX8_spares_186 : decode cX8_spares 186 = .ok (.if_icmp .ge 11, 3) := by decide +kernel
theorem dX8_spares_189 : decode cX8_spares 189 = .ok (.iload 9, 2) := by decide +kernel
theorem dX8_spares_191 : decode cX8_spares 191 = .ok (.istore 7, 2) := by decide +kernel
theorem dX8_spares_193 : decode cX8_spares 193 = .ok (.iload 10, 2) := by decide +kernel
theorem dX8_spares_195 : decode cX8_spares 195 = .ok (.istore 8, 2) := by decide +kernel
theorem dX8_spares_197 : decode cX8_spares 197 = .ok (.iinc 9 1, 3) := by decide +kernel
theorem dX8_spares_200 : decode cX8_spares 200 = .ok (.goto (-77), 3) := by decide +kernel
theorem dX8_spares_203 : decode cX8_spares 203 = .ok (.iload 4, 2) := by decide +kernel
theorem dX8_spares_205 : decode cX8_spares 205 = .ok (.ifCond .ne 8, 3) := by decide +kernel
theorem dX8_spares_208 : decode cX8_spares 208 = .ok (.iload 7, 2) := by decide +kernel
theorem dX8_spares_210 : decode cX8_spares 210 = .ok (.goto 5, 3) := by decide +kernel
theorem dX8_spares_213 : decode cX8_spares 213 = .ok (.iload 8, 2) := by decide +kernel
theorem dX8_spares_215 : decode cX8_spares 215 = .ok (.ireturn, 1) := by decide +kernel
theorem dX8_two_0 : decode cX8_two 0 = .ok (.aload_n 0, 1) := by decide +kernel
theorem dX8_two_1 : decode cX8_two 1 = .ok (.iload_n 1, 1) := by decide +kernel
theorem dX8_two_2 : decode cX8_two 2 = .ok (.invokevirtual 145, 3) := by decide +kernel
theorem dX8_two_5 : decode cX8_two 5 = .ok (.ifCond .ne 19, 3) := by decide +kernel
theorem dX8_two_8 : decode cX8_two 8 = .ok (.aload_n 0, 1) := by decide +kernel
theorem dX8_two_9 : decode cX8_two 9 = .ok (.iload_n 2, 1) := by decide +kernel
theorem dX8_two_10 : decode cX8_two 10 = .ok (.invokevirtual 145, 3) := by decide +kernel
theorem dX8_two_13 : decode cX8_two 13 = .ok (.ifCond .ne 11, 3) := by decide +kernel
theorem dX8_two_16 : decode cX8_two 16 = .ok (.aload_n 0, 1) := by decide +kernel
theorem dX8_two_17 : decode cX8_two 17 = .ok (.iload_n 3, 1) := by decide +kernel
theorem dX8_two_18 : decode cX8_two 18 = .ok (.invokevirtual 145, 3) := by decide +kernel
theorem dX8_two_21 : decode cX8_two 21 = .ok (.ifCond .eq 6, 3) := by decide +kernel
theorem dX8_two_24 : decode cX8_two 24 = .ok (.ldc 149, 2) := by decide +kernel
theorem dX8_two_26 : decode cX8_two 26 = .ok (.ireturn, 1) := by decide +kernel
theorem dX8_two_27 : decode cX8_two 27 = .ok (.iload 4, 2) := by decide +kernel
theorem dX8_two_29 : decode cX8_two 29 = .ok (.ifCond .lt 11, 3) := by decide +kernel
theorem dX8_two_32 : decode cX8_two 32 = .ok (.iload 4, 2) := by decide +kernel
theorem dX8_two_34 : decode cX8_two 34 = .ok (.sipush 9999, 3) := by decide +kernel
theorem dX8_two_37 : decode cX8_two 37 = .ok (.if_icmp .le 6, 3) := by decide +kernel
theorem dX8_two_40 : decode cX8_two 40 = .ok (.ldc 95, 2) := by decide +kernel
theorem dX8_two_42 : decode cX8_two 42 = .ok (.ireturn, 1) := by decide +kernel
theorem dX8_two_43 : decode cX8_two 43 = .ok (.aload_n 0, 1) := by decide +kernel
theorem dX8_two_44 : decode cX8_two 44 = .ok (.iload_n 3, 1) := by decide +kernel
theorem dX8_two_45 : decode cX8_two 45 = .ok (.invokevirtual 189, 3) := by decide +kernel
theorem dX8_two_48 : decode cX8_two 48 = .ok (.aload_n 0, 1) := by decide +kernel
theorem dX8_two_49 : decode cX8_two 49 = .ok (.getfield 39, 3) := by decide +kernel
theorem dX8_two_52 : decode cX8_two 52 = .ok (.aload_n 0, 1) := by decide +kernel
theorem dX8_two_53 : decode cX8_two 53 = .ok (.getfield 66, 3) := by decide +kernel
theorem dX8_two_56 : decode cX8_two 56 = .ok (.aload_n 0, 1) := by decide +kernel
theorem dX8_two_57 : decode cX8_two 57 = .ok (.getfield 32, 3) := by decide +kernel
theorem dX8_two_60 : decode cX8_two 60 = .ok (.aload_n 0, 1) := by decide +kernel
theorem dX8_two_61 : decode cX8_two 61 = .ok (.getfield 19, 3) := by decide +kernel
theorem dX8_two_64 : decode cX8_two 64 = .ok (.getfield 170, 3) := by decide +kernel
theorem dX8_two_67 : decode cX8_two 67 = .ok (.iload_n 1, 1) := by decide +kernel
theorem dX8_two_68 : decode cX8_two 68 = .ok (.invokevirtual 225, 3) := by decide +kernel
theorem dX8_two_71 : decode cX8_two 71 = .ok (.aload_n 0, 1) := by decide +kernel
theorem dX8_two_72 : decode cX8_two 72 = .ok (.getfield 39, 3) := by decide +kernel
theorem dX8_two_75 : decode cX8_two 75 = .ok (.aload_n 0, 1) := by decide +kernel
theorem dX8_two_76 : decode cX8_two 76 = .ok (.getfield 66, 3) := by decide +kernel
theorem dX8_two_79 : decode cX8_two 79 = .ok (.getfield 132, 3) := by decide +kernel
theorem dX8_two_82 : decode cX8_two 82 = .ok (.invokevirtual 297, 3) := by decide +kernel
theorem dX8_two_85 : decode cX8_two 85 = .ok (.aload_n 0, 1) := by decide +kernel
theorem dX8_two_86 : decode cX8_two 86 = .ok (.getfield 43, 3) := by decide +kernel
theorem dX8_two_89 : decode cX8_two 89 = .ok (.aload_n 0, 1) := by decide +kernel
theorem dX8_two_90 : decode cX8_two 90 = .ok (.getfield 66, 3) := by decide +kernel
theorem dX8_two_93 : decode cX8_two 93 = .ok (.aload_n 0, 1) := by decide +kernel
theorem dX8_two_94 : decode cX8_two 94 = .ok (.getfield 32, 3) := by decide +kernel
theorem dX8_two_97 : decode cX8_two 97 = .ok (.aload_n 0, 1) := by decide +kernel
theorem dX8_two_98 : decode cX8_two 98 = .ok (.getfield 19, 3) := by decide +kernel
theorem dX8_two_101 : decode cX8_two 101 = .ok (.getfield 170, 3) := by decide +kernel
theorem dX8_two_104 : decode cX8_two 104 = .ok (.iload_n 2, 1) := by decide +kernel
theorem dX8_two_105 : decode cX8_two 105 = .ok (.invokevirtual 225, 3) := by decide +kernel
theorem dX8_two_108 : decode cX8_two 108 = .ok (.aload_n 0, 1) := by decide +kernel
theorem dX8_two_109 : decode cX8_two 109 = .ok (.getfield 43, 3) := by decide +kernel
theorem dX8_two_112 : decode cX8_two 112 = .ok (.aload_n 0, 1) := by decide +kernel
theorem dX8_two_113 : decode cX8_two 113 = .ok (.getfield 66, 3) := by decide +kernel
theorem dX8_two_116 : decode cX8_two 116 = .ok (.getfield 132, 3) := by decide +kernel
theorem dX8_two_119 : decode cX8_two 119 = .ok (.invokevirtual 297, 3) := by decide +kernel
theorem dX8_two_122 : decode cX8_two 122 = .ok (.aload_n 0, 1) := by decide +kernel
theorem dX8_two_123 : decode cX8_two 123 = .ok (.getfield 66, 3) := by decide +kernel
theorem dX8_two_126 : decode cX8_two 126 = .ok (.invokevirtual 229, 3) := by decide +kernel
theorem dX8_two_129 : decode cX8_two 129 = .ok (.istore 5, 2) := by decide +kernel
theorem dX8_two_131 : decode cX8_two 131 = .ok (.iconst (-1), 1) := by decide +kernel
theorem dX8_two_132 : decode cX8_two 132 = .ok (.istore 6, 2) := by decide +kernel
theorem dX8_two_134 : decode cX8_two 134 = .ok (.iconst 0, 1) := by decide +kernel
theorem dX8_two_135 : decode cX8_two 135 = .ok (.istore 7, 2) := by decide +kernel
theorem dX8_two_137 : decode cX8_two 137 = .ok (.iload 7, 2) := by decide +kernel
theorem dX8_two_139 : decode cX8_two 139 = .ok (.iload 5, 2) := by decide +kernel
theorem dX8_two_141 : decode cX8_two 141 = .ok (.if_icmp .gt 132, 3) := by decide +kernel
theorem dX8_two_144 : decode cX8_two 144 = .ok (.aload_n 0, 1) := by decide +kernel
theorem dX8_two_145 : decode cX8_two 145 = .ok (.getfield 66, 3) := by decide +kernel
theorem dX8_two_148 : decode cX8_two 148 = .ok (.iload 7, 2) := by decide +kernel
theorem dX8_two_150 : decode cX8_two 150 = .ok (.invokevirtual 274, 3) := by decide +kernel
theorem dX8_two_153 : decode cX8_two 153 = .ok (.istore 8, 2) := by decide +kernel
theorem dX8_two_155 : decode cX8_two 155 = .ok (.aload_n 0, 1) := by decide +kernel
theorem dX8_two_156 : decode cX8_two 156 = .ok (.getfield 66, 3) := by decide +kernel
theorem dX8_two_159 : decode cX8_two 159 = .ok (.iload 5, 2) := by decide +kernel
theorem dX8_two_161 : decode cX8_two 161 = .ok (.iload 7, 2) := by decide +kernel
theorem dX8_two_163 : decode cX8_two 163 = .ok (.iconst (-1), 1) := by decide +kernel
theorem dX8_two_164 : decode cX8_two 164 = .ok (.ixor, 1) := by decide +kernel
theorem dX8_two_165 : decode cX8_two 165 = .ok (.iand, 1) := by decide +kernel
theorem dX8_two_166 : decode cX8_two 166 = .ok (.invokevirtual 274, 3) := by decide +kernel
theorem dX8_two_169 : decode cX8_two 169 = .ok (.istore 9, 2) := by decide +kernel
theorem dX8_two_171 : decode cX8_two 171 = .ok (.aload_n 0, 1) := by decide +kernel
theorem dX8_two_172 : decode cX8_two 172 = .ok (.getfield 66, 3) := by decide +kernel
theorem dX8_two_175 : decode cX8_two 175 = .ok (.iload 8, 2) := by decide +kernel
theorem dX8_two_177 : decode cX8_two 177 = .ok (.invokevirtual 277, 3) := by decide +kernel
theorem dX8_two_180 : decode cX8_two 180 = .ok (.iload 4, 2) := by decide +kernel
theorem dX8_two_182 : decode cX8_two 182 = .ok (.if_icmp .lt 85, 3) := by decide +kernel
theorem dX8_two_185 : decode cX8_two 185 = .ok (.aload_n 0, 1) := by decide +kernel
theorem dX8_two_186 : decode cX8_two 186 = .ok (.getfield 66, 3) := by decide +kernel
theorem dX8_two_189 : decode cX8_two 189 = .ok (.iload 9, 2) := by decide +kernel
theorem dX8_two_191 : decode cX8_two 191 = .ok (.invokevirtual 277, 3) := by decide +kernel
theorem dX8_two_194 : decode cX8_two 194 = .ok (.iload 4, 2) := by decide +kernel
theorem dX8_two_196 : decode cX8_two 196 = .ok (.if_icmp .lt 71, 3) := by decide +kernel
theorem dX8_two_199 : decode cX8_two 199 = .ok (.aload_n 0, 1) := by decide +kernel
theorem dX8_two_200 : decode cX8_two 200 = .ok (.getfield 39, 3) := by decide +kernel
theorem dX8_two_203 : decode cX8_two 203 = .ok (.aload_n 0, 1) := by decide +kernel
theorem dX8_two_204 : decode cX8_two 204 = .ok (.getfield 66, 3) := by decide +kernel
theorem dX8_two_207 : decode cX8_two 207 = .ok (.iload 8, 2) := by decide +kernel
theorem dX8_two_209 : decode cX8_two 209 = .ok (.invokevirtual 232, 3) := by decide +kernel
theorem dX8_two_212 : decode cX8_two 212 = .ok (.istore 10, 2) := by decide +kernel
theorem dX8_two_214 : decode cX8_two 214 = .ok (.iload 6, 2) := by decide +kernel
theorem dX8_two_216 : decode cX8_two 216 = .ok (.iconst (-1), 1) := by decide +kernel
theorem dX8_two_217 : decode cX8_two 217 = .ok (.if_icmp .eq 10, 3) := by decide +kernel
theorem dX8_two_220 : decode cX8_two 220 = .ok (.iload 10, 2) := by decide +kernel
theorem dX8_two_222 : decode cX8_two 222 = .ok (.iload 6, 2) := by decide +kernel
theorem dX8_two_224 : decode cX8_two 224 = .ok (.if_icmp .ge 43, 3) := by decide +kernel
theorem dX8_two_227 : decode cX8_two 227 = .ok (.iload 10, 2) := by decide +kernel
theorem dX8_two_229 : decode cX8_two 229 = .ok (.aload_n 0, 1) := by decide +kernel
theorem dX8_two_230 : decode cX8_two 230 = .ok (.getfield 43, 3) := by decide +kernel
theorem dX8_two_233 : decode cX8_two 233 = .ok (.aload_n 0, 1) := by decide +kernel
theorem dX8_two_234 : decode cX8_two 234 = .ok (.getfield 66, 3) := by decide +kernel
theorem dX8_two_237 : decode cX8_two 237 = .ok (.iload 9, 2) := by decide +kernel
theorem dX8_two_239 : decode cX8_two 239 = .ok (.invokevirtual 232, 3) := by decide +kernel
theorem dX8_two_242 : decode cX8_two 242 = .ok (.invokestatic 238, 3) := by decide +kernel
theorem dX8_two_245 : decode cX8_two 245 = .ok (.istore 10, 2) := by decide +kernel
theorem dX8_two_247 : decode cX8_two 247 = .ok (.iload 6, 2) := by decide +kernel
theorem dX8_two_249 : decode cX8_two 249 = .ok (.iconst (-1), 1) := by decide +kernel
theorem dX8_two_250 : decode cX8_two 250 = .ok (.if_icmp .ne 8, 3) := by decide +kernel
theorem dX8_two_253 : decode cX8_two 253 = .ok (.iload 10, 2) := by decide +kernel
theorem dX8_two_255 : decode cX8_two 255 = .ok (.goto 10, 3) := by decide +kernel
theorem dX8_two_258 : decode cX8_two 258 = .ok (.iload 6, 2) := by decide +kernel
theorem dX8_two_260 : decode cX8_two 260 = .ok (.iload 10, 2) := by decide +kernel
theorem dX8_two_262 : decode cX8_two 262 = .ok (.invokestatic 300, 3) := by decide +kernel
theorem dX8_two_265 : decode cX8_two 265 = .ok (.istore 6, 2) := by decide +kernel
theorem dX8_two_267 : decode cX8_two 267 = .ok (.iinc 7 1, 3) := by decide +kernel
theorem dX8_two_270 : decode cX8_two 270 = .ok (.goto (-133), 3) := by decide +kernel
theorem dX8_two_273 : decode cX8_two 273 = .ok (.iload 6, 2) := by decide +kernel
theorem dX8_two_275 : decode cX8_two 275 = .ok (.ireturn, 1) := by decide +kernel
theorem dX8_log_0 : decode cX8_log 0 = .ok (.aload_n 0, 1) := by decide +kernel
theorem dX8_log_1 : decode cX8_log 1 = .ok (.iload_n 1, 1) := by decide +kernel
theorem dX8_log_2 : decode cX8_log 2 = .ok (.invokevirtual 167, 3) := by decide +kernel
theorem dX8_log_5 : decode cX8_log 5 = .ok (.ifCond .eq 6, 3) := by decide +kernel
theorem dX8_log_8 : decode cX8_log 8 = .ok (.ldc 149, 2) := by decide +kernel
theorem dX8_log_10 : decode cX8_log 10 = .ok (.ireturn, 1) := by decide +kernel
theorem dX8_log_11 : decode cX8_log 11 = .ok (.iload_n 2, 1) := by decide +kernel
theorem dX8_log_12 : decode cX8_log 12 = .ok (.ifCond .lt 10, 3) := by decide +kernel
theorem dX8_log_15 : decode cX8_log 15 = .ok (.iload_n 2, 1) := by decide +kernel
theorem dX8_log_16 : decode cX8_log 16 = .ok (.sipush 999, 3) := by decide +kernel
theorem dX8_log_19 : decode cX8_log 19 = .ok (.if_icmp .le 6, 3) := by decide +kernel
theorem dX8_log_22 : decode cX8_log 22 = .ok (.ldc 95, 2) := by decide +kernel
theorem dX8_log_24 : decode cX8_log 24 = .ok (.ireturn, 1) := by decide +kernel
theorem dX8_log_25 : decode cX8_log 25 = .ok (.aload_n 0, 1) := by decide +kernel
theorem dX8_log_26 : decode cX8_log 26 = .ok (.getfield 57, 3) := by decide +kernel
theorem dX8_log_29 : decode cX8_log 29 = .ok (.iload_n 1, 1) := by decide +kernel
theorem dX8_log_30 : decode cX8_log 30 = .ok (.iload_n 2, 1) := by decide +kernel
theorem dX8_log_31 : decode cX8_log 31 = .ok (.iastore, 1) := by decide +kernel
theorem dX8_log_32 : decode cX8_log 32 = .ok (.aload_n 0, 1) := by decide +kernel
theorem dX8_log_33 : decode cX8_log 33 = .ok (.invokevirtual 141, 3) := by decide +kernel
theorem dX8_log_36 : decode cX8_log 36 = .ok (.ireturn, 1) := by decide +kernel
theorem dX8_clear_0 : decode cX8_clear 0 = .ok (.aload_n 0, 1) := by decide +kernel
theorem dX8_clear_1 : decode cX8_clear 1 = .ok (.invokevirtual 141, 3) := by decide +kernel
theorem dX8_clear_4 : decode cX8_clear 4 = .ok (.istore_n 1, 1) := by decide +kernel
theorem dX8_clear_5 : decode cX8_clear 5 = .ok (.aload_n 0, 1) := by decide +kernel
theorem dX8_clear_6 : decode cX8_clear 6 = .ok (.getfield 57, 3) := by decide +kernel
theorem dX8_clear_9 : decode cX8_clear 9 = .ok (.iconst (-1), 1) := by decide +kernel
theorem dX8_clear_10 : decode cX8_clear 10 = .ok (.invokestatic 303, 3) := by decide +kernel
theorem dX8_clear_13 : decode cX8_clear 13 = .ok (.iload_n 1, 1) := by decide +kernel
theorem dX8_clear_14 : decode cX8_clear 14 = .ok (.ireturn, 1) := by decide +kernel
theorem dX8_late_0 : decode cX8_late 0 = .ok (.aload_n 0, 1) := by decide +kernel
theorem dX8_late_1 : decode cX8_late 1 = .ok (.iload_n 1, 1) := by decide +kernel
theorem dX8_late_2 : decode cX8_late 2 = .ok (.invokevirtual 145, 3) := by decide +kernel
theorem dX8_late_5 : decode cX8_late 5 = .ok (.ifCond .ne 19, 3) := by decide +kernel
theorem dX8_late_8 : decode cX8_late 8 = .ok (.aload_n 0, 1) := by decide +kernel
theorem dX8_late_9 : decode cX8_late 9 = .ok (.iload_n 2, 1) := by decide +kernel
theorem dX8_late_10 : decode cX8_late 10 = .ok (.invokevirtual 145, 3) := by decide +kernel
theorem dX8_late_13 : decode cX8_late 13 = .ok (.ifCond .ne 11, 3) := by decide +kernel
theorem dX8_late_16 : decode cX8_late 16 = .ok (.aload_n 0, 1) := by decide +kernel
theorem dX8_late_17 : decode cX8_late 17 = .ok (.iload_n 3, 1) := by decide +kernel
theorem dX8_late_18 : decode cX8_late 18 = .ok (.invokevirtual 167, 3) := by decide +kernel
theorem dX8_late_21 : decode cX8_late 21 = .ok (.ifCond .eq 6, 3) := by decide +kernel
theorem dX8_late_24 : decode cX8_late 24 = .ok (.ldc 149, 2) := by decide +kernel
theorem dX8_late_26 : decode cX8_late 26 = .ok (.ireturn, 1) := by decide +kernel
theorem dX8_late_27 : decode cX8_late 27 = .ok (.aload_n 0, 1) := by decide +kernel
theorem dX8_late_28 : decode cX8_late 28 = .ok (.iload_n 2, 1) := by decide +kernel
theorem dX8_late_29 : decode cX8_late 29 = .ok (.invokevirtual 189, 3) := by decide +kernel
theorem dX8_late_32 : decode cX8_late 32 = .ok (.aload_n 0, 1) := by decide +kernel
theorem dX8_late_33 : decode cX8_late 33 = .ok (.iload_n 3, 1) := by decide +kernel
theorem dX8_late_34 : decode cX8_late 34 = .ok (.aload_n 0, 1) := by decide +kernel
theorem dX8_late_35 : decode cX8_late 35 = .ok (.getfield 32, 3) := by decide +kernel
theorem dX8_late_38 : decode cX8_late 38 = .ok (.aload_n 0, 1) := by decide +kernel
theorem dX8_late_39 : decode cX8_late 39 = .ok (.getfield 66, 3) := by decide +kernel
theorem dX8_late_42 : decode cX8_late 42 = .ok (.aload_n 0, 1) := by decide +kernel
theorem dX8_late_43 : decode cX8_late 43 = .ok (.getfield 19, 3) := by decide +kernel
theorem dX8_late_46 : decode cX8_late 46 = .ok (.getfield 170, 3) := by decide +kernel
theorem dX8_late_49 : decode cX8_late 49 = .ok (.iload_n 3, 1) := by decide +kernel
theorem dX8_late_50 : decode cX8_late 50 = .ok (.iaload, 1) := by decide +kernel
theorem dX8_late_51 : decode cX8_late 51 = .ok (.iload_n 1, 1) := by decide +kernel
theorem dX8_late_52 : decode cX8_late 52 = .ok (.invokevirtual 196, 3) := by decide +kernel
theorem dX8_late_55 : decode cX8_late 55 = .ok (.invokevirtual 309, 3) := by decide +kernel
theorem dX8_late_58 : decode cX8_late 58 = .ok (.ireturn, 1) := by decide +kernel
theorem dX8_judge_0 : decode cX8_judge 0 = .ok (.aload_n 0, 1) := by decide +kernel
theorem dX8_judge_1 : decode cX8_judge 1 = .ok (.iload_n 1, 1) := by decide +kernel
theorem dX8_judge_2 : decode cX8_judge 2 = .ok (.invokevirtual 145, 3) := by decide +kernel
theorem dX8_judge_5 : decode cX8_judge 5 = .ok (.ifCond .ne 11, 3) := by decide +kernel
theorem dX8_judge_8 : decode cX8_judge 8 = .ok (.aload_n 0, 1) := by decide +kernel
theorem dX8_judge_9 : decode cX8_judge 9 = .ok (.iload_n 2, 1) := by decide +kernel
theorem dX8_judge_10 : decode cX8_judge 10 = .ok (.invokevirtual 145, 3) := by decide +kernel
theorem dX8_judge_13 : decode cX8_judge 13 = .ok (.ifCond .eq 6, 3) := by decide +kernel
theorem dX8_judge_16 : decode cX8_judge 16 = .ok (.ldc 149, 2) := by decide +kernel
theorem dX8_judge_18 : decode cX8_judge 18 = .ok (.ireturn, 1) := by decide +kernel
theorem dX8_judge_19 : decode cX8_judge 19 = .ok (.iload_n 3, 1) := by decide +kernel
theorem dX8_judge_20 : decode cX8_judge 20 = .ok (.ifCond .lt 8, 3) := by decide +kernel
theorem dX8_judge_23 : decode cX8_judge 23 = .ok (.iload_n 3, 1) := by decide +kernel
theorem dX8_judge_24 : decode cX8_judge 24 = .ok (.iconst 1, 1) := by decide +kernel
theorem dX8_judge_25 : decode cX8_judge 25 = .ok (.if_icmp .le 6, 3) := by decide +kernel
theorem dX8_judge_28 : decode cX8_judge 28 = .ok (.ldc 95, 2) := by decide +kernel
theorem dX8_judge_30 : decode cX8_judge 30 = .ok (.ireturn, 1) := by decide +kernel
theorem dX8_judge_31 : decode cX8_judge 31 = .ok (.aload_n 0, 1) := by decide +kernel
theorem dX8_judge_32 : decode cX8_judge 32 = .ok (.iload_n 2, 1) := by decide +kernel
theorem dX8_judge_33 : decode cX8_judge 33 = .ok (.invokevirtual 189, 3) := by decide +kernel
theorem dX8_judge_36 : decode cX8_judge 36 = .ok (.aload_n 0, 1) := by decide +kernel
theorem dX8_judge_37 : decode cX8_judge 37 = .ok (.getfield 39, 3) := by decide +kernel
theorem dX8_judge_40 : decode cX8_judge 40 = .ok (.aload_n 0, 1) := by decide +kernel
theorem dX8_judge_41 : decode cX8_judge 41 = .ok (.getfield 66, 3) := by decide +kernel
theorem dX8_judge_44 : decode cX8_judge 44 = .ok (.aload_n 0, 1) := by decide +kernel
theorem dX8_judge_45 : decode cX8_judge 45 = .ok (.getfield 32, 3) := by decide +kernel
theorem dX8_judge_48 : decode cX8_judge 48 = .ok (.aload_n 0, 1) := by decide +kernel
theorem dX8_judge_49 : decode cX8_judge 49 = .ok (.getfield 19, 3) := by decide +kernel
theorem dX8_judge_52 : decode cX8_judge 52 = .ok (.getfield 170, 3) := by decide +kernel
theorem dX8_judge_55 : decode cX8_judge 55 = .ok (.iload_n 1, 1) := by decide +kernel
theorem dX8_judge_56 : decode cX8_judge 56 = .ok (.invokevirtual 225, 3) := by decide +kernel
theorem dX8_judge_59 : decode cX8_judge 59 = .ok (.iload_n 3, 1) := by decide +kernel
theorem dX8_judge_60 : decode cX8_judge 60 = .ok (.ifCond .ne 10, 3) := by decide +kernel
theorem dX8_judge_63 : decode cX8_judge 63 = .ok (.aload_n 0, 1) := by decide +kernel
theorem dX8_judge_64 : decode cX8_judge 64 = .ok (.invokevirtual 312, 3) := by decide +kernel
theorem dX8_judge_67 : decode cX8_judge 67 = .ok (.goto 7, 3) := by decide +kernel
theorem dX8_judge_70 : decode cX8_judge 70 = .ok (.aload_n 0, 1) := by decide +kernel
theorem dX8_judge_71 : decode cX8_judge 71 = .ok (.invokevirtual 315, 3) := by decide +kernel
theorem dX8_judge_74 : decode cX8_judge 74 = .ok (.ireturn, 1) := by decide +kernel
theorem dX8_seed_0 : decode cX8_seed 0 = .ok (.iload_n 1, 1) := by decide +kernel
theorem dX8_seed_1 : decode cX8_seed 1 = .ok (.ifCond .ge 6, 3) := by decide +kernel
theorem dX8_seed_4 : decode cX8_seed 4 = .ok (.ldc 95, 2) := by decide +kernel
theorem dX8_seed_6 : decode cX8_seed 6 = .ok (.ireturn, 1) := by decide +kernel
theorem dX8_seed_7 : decode cX8_seed 7 = .ok (.aload_n 0, 1) := by decide +kernel
theorem dX8_seed_8 : decode cX8_seed 8 = .ok (.getfield 19, 3) := by decide +kernel
theorem dX8_seed_11 : decode cX8_seed 11 = .ok (.getfield 318, 3) := by decide +kernel
theorem dX8_seed_14 : decode cX8_seed 14 = .ok (.istore_n 2, 1) := by decide +kernel
theorem dX8_seed_15 : decode cX8_seed 15 = .ok (.aload_n 0, 1) := by decide +kernel
theorem dX8_seed_16 : decode cX8_seed 16 = .ok (.getfield 19, 3) := by decide +kernel
theorem dX8_seed_19 : decode cX8_seed 19 = .ok (.iload_n 1, 1) := by decide +kernel
theorem dX8_seed_20 : decode cX8_seed 20 = .ok (.putfield 318, 3) := by decide +kernel
theorem dX8_seed_23 : decode cX8_seed 23 = .ok (.iload_n 2, 1) := by decide +kernel
theorem dX8_seed_24 : decode cX8_seed 24 = .ok (.ireturn, 1) := by decide +kernel
theorem dX8_keep_0 : decode cX8_keep 0 = .ok (.iload_n 1, 1) := by decide +kernel
theorem dX8_keep_1 : decode cX8_keep 1 = .ok (.ifCond .lt 8, 3) := by decide +kernel
theorem dX8_keep_4 : decode cX8_keep 4 = .ok (.iload_n 1, 1) := by decide +kernel
theorem dX8_keep_5 : decode cX8_keep 5 = .ok (.iconst 2, 1) := by decide +kernel
theorem dX8_keep_6 : decode cX8_keep 6 = .ok (.if_icmp .lt 6, 3) := by decide +kernel
theorem dX8_keep_9 : decode cX8_keep 9 = .ok (.ldc 149, 2) := by decide +kernel
theorem dX8_keep_11 : decode cX8_keep 11 = .ok (.ireturn, 1) := by decide +kernel
theorem dX8_keep_12 : decode cX8_keep 12 = .ok (.iload_n 1, 1) := by decide +kernel
theorem dX8_keep_13 : decode cX8_keep 13 = .ok (.ifCond .ne 10, 3) := by decide +kernel
theorem dX8_keep_16 : decode cX8_keep 16 = .ok (.aload_n 0, 1) := by decide +kernel
theorem dX8_keep_17 : decode cX8_keep 17 = .ok (.getfield 23, 3) := by decide +kernel
theorem dX8_keep_20 : decode cX8_keep 20 = .ok (.goto 7, 3) := by decide +kernel
theorem dX8_keep_23 : decode cX8_keep 23 = .ok (.aload_n 0, 1) := by decide +kernel
theorem dX8_keep_24 : decode cX8_keep 24 = .ok (.getfield 26, 3) := by decide +kernel
theorem dX8_keep_27 : decode cX8_keep 27 = .ok (.astore_n 2, 1) := by decide +kernel
theorem dX8_keep_28 : decode cX8_keep 28 = .ok (.aload_n 2, 1) := by decide +kernel
theorem dX8_keep_29 : decode cX8_keep 29 = .ok (.aload_n 0, 1) := by decide +kernel
theorem dX8_keep_30 : decode cX8_keep 30 = .ok (.getfield 19, 3) := by decide +kernel
theorem dX8_keep_33 : decode cX8_keep 33 = .ok (.invokevirtual 321, 3) := by decide +kernel
theorem dX8_keep_36 : decode cX8_keep 36 = .ok (.aload_n 2, 1) := by decide +kernel
theorem dX8_keep_37 : decode cX8_keep 37 = .ok (.iconst 1, 1) := by decide +kernel
theorem dX8_keep_38 : decode cX8_keep 38 = .ok (.putfield 325, 3) := by decide +kernel
theorem dX8_keep_41 : decode cX8_keep 41 = .ok (.iconst 1, 1) := by decide +kernel
theorem dX8_keep_42 : decode cX8_keep 42 = .ok (.ireturn, 1) := by decide +kernel
theorem dX8_goBack_0 : decode cX8_goBack 0 = .ok (.iload_n 1, 1) := by decide +kernel
theorem dX8_goBack_1 : decode cX8_goBack 1 = .ok (.ifCond .lt 8, 3) := by decide +kernel
theorem dX8_goBack_4 : decode cX8_goBack 4 = .ok (.iload_n 1, 1) := by decide +kernel
theorem dX8_goBack_5 : decode cX8_goBack 5 = .ok (.iconst 2, 1) := by decide +kernel
theorem dX8_goBack_6 : decode cX8_goBack 6 = .ok (.if_icmp .lt 6, 3) := by decide +kernel
theorem dX8_goBack_9 : decode cX8_goBack 9 = .ok (.ldc 149, 2) := by decide +kernel
theorem dX8_goBack_11 : decode cX8_goBack 11 = .ok (.ireturn, 1) := by decide +kernel
theorem dX8_goBack_12 : decode cX8_goBack 12 = .ok (.iload_n 1, 1) := by decide +kernel
theorem dX8_goBack_13 : decode cX8_goBack 13 = .ok (.ifCond .ne 10, 3) := by decide +kernel
theorem dX8_goBack_16 : decode cX8_goBack 16 = .ok (.aload_n 0, 1) := by decide +kernel
theorem dX8_goBack_17 : decode cX8_goBack 17 = .ok (.getfield 23, 3) := by decide +kernel
theorem dX8_goBack_20 : decode cX8_goBack 20 = .ok (.goto 7, 3) := by decide +kernel
theorem dX8_goBack_23 : decode cX8_goBack 23 = .ok (.aload_n 0, 1) := by decide +kernel
theorem dX8_goBack_24 : decode cX8_goBack 24 = .ok (.getfield 26, 3) := by decide +kernel
theorem dX8_goBack_27 : decode cX8_goBack 27 = .ok (.astore_n 2, 1) := by decide +kernel
theorem dX8_goBack_28 : decode cX8_goBack 28 = .ok (.aload_n 2, 1) := by decide +kernel
theorem dX8_goBack_29 : decode cX8_goBack 29 = .ok (.getfield 325, 3) := by decide +kernel
theorem dX8_goBack_32 : decode cX8_goBack 32 = .ok (.ifCond .ne 6, 3) := by decide +kernel
theorem dX8_goBack_35 : decode cX8_goBack 35 = .ok (.ldc 122, 2) := by decide +kernel
theorem dX8_goBack_37 : decode cX8_goBack 37 = .ok (.ireturn, 1) := by decide +kernel
theorem dX8_goBack_38 : decode cX8_goBack 38 = .ok (.aload_n 0, 1) := by decide +kernel
theorem dX8_goBack_39 : decode cX8_goBack 39 = .ok (.getfield 19, 3) := by decide +kernel
theorem dX8_goBack_42 : decode cX8_goBack 42 = .ok (.aload_n 2, 1) := by decide +kernel
theorem dX8_goBack_43 : decode cX8_goBack 43 = .ok (.invokevirtual 321, 3) := by decide +kernel
theorem dX8_goBack_46 : decode cX8_goBack 46 = .ok (.iconst 1, 1) := by decide +kernel
theorem dX8_goBack_47 : decode cX8_goBack 47 = .ok (.ireturn, 1) := by decide +kernel
theorem dX8_startAnew_0 : decode cX8_startAnew 0 = .ok (.aload_n 0, 1) := by decide +kernel
theorem dX8_startAnew_1 : decode cX8_startAnew 1 = .ok (.getfield 76, 3) := by decide +kernel
theorem dX8_startAnew_4 : decode cX8_startAnew 4 = .ok (.iconst 0, 1) := by decide +kernel
theorem dX8_startAnew_5 : decode cX8_startAnew 5 = .ok (.putfield 126, 3) := by decide +kernel
theorem dX8_startAnew_8 : decode cX8_startAnew 8 = .ok (.aload_n 0, 1) := by decide +kernel
theorem dX8_startAnew_9 : decode cX8_startAnew 9 = .ok (.getfield 19, 3) := by decide +kernel
theorem dX8_startAnew_12 : decode cX8_startAnew 12 = .ok (.aload_n 0, 1) := by decide +kernel
theorem dX8_startAnew_13 : decode cX8_startAnew 13 = .ok (.getfield 66, 3) := by decide +kernel
theorem dX8_startAnew_16 : decode cX8_startAnew 16 = .ok (.invokevirtual 329, 3) := by decide +kernel
theorem dX8_startAnew_19 : decode cX8_startAnew 19 = .ok (.aload_n 0, 1) := by decide +kernel
theorem dX8_startAnew_20 : decode cX8_startAnew 20 = .ok (.getfield 23, 3) := by decide +kernel
theorem dX8_startAnew_23 : decode cX8_startAnew 23 = .ok (.iconst 0, 1) := by decide +kernel
theorem dX8_startAnew_24 : decode cX8_startAnew 24 = .ok (.putfield 325, 3) := by decide +kernel
theorem dX8_startAnew_27 : decode cX8_startAnew 27 = .ok (.aload_n 0, 1) := by decide +kernel
theorem dX8_startAnew_28 : decode cX8_startAnew 28 = .ok (.getfield 26, 3) := by decide +kernel
theorem dX8_startAnew_31 : decode cX8_startAnew 31 = .ok (.iconst 0, 1) := by decide +kernel
theorem dX8_startAnew_32 : decode cX8_startAnew 32 = .ok (.putfield 325, 3) := by decide +kernel
theorem dX8_startAnew_35 : decode cX8_startAnew 35 = .ok (.aload_n 0, 1) := by decide +kernel
theorem dX8_startAnew_36 : decode cX8_startAnew 36 = .ok (.getfield 53, 3) := by decide +kernel
theorem dX8_startAnew_39 : decode cX8_startAnew 39 = .ok (.bipush 10, 2) := by decide +kernel
theorem dX8_startAnew_41 : decode cX8_startAnew 41 = .ok (.invokestatic 303, 3) := by decide +kernel
theorem dX8_startAnew_44 : decode cX8_startAnew 44 = .ok (.aload_n 0, 1) := by decide +kernel
theorem dX8_startAnew_45 : decode cX8_startAnew 45 = .ok (.getfield 57, 3) := by decide +kernel
theorem dX8_startAnew_48 : decode cX8_startAnew 48 = .ok (.iconst (-1), 1) := by decide +kernel
theorem dX8_startAnew_49 : decode cX8_startAnew 49 = .ok (.invokestatic 303, 3) := by decide +kernel
theorem dX8_startAnew_52 : decode cX8_startAnew 52 = .ok (.aload_n 0, 1) := by decide +kernel
theorem dX8_startAnew_53 : decode cX8_startAnew 53 = .ok (.iconst 0, 1) := by decide +kernel
theorem dX8_startAnew_54 : decode cX8_startAnew 54 = .ok (.putfield 138, 3) := by decide +kernel
theorem dX8_startAnew_57 : decode cX8_startAnew 57 = .ok (.return_, 1) := by decide +kernel
theorem dX8_noHouse_0 : decode cX8_noHouse 0 = .ok (.iload_n 1, 1) := by decide +kernel
theorem dX8_noHouse_1 : decode cX8_noHouse 1 = .ok (.ifCond .lt 14, 3) := by decide +kernel
theorem dX8_noHouse_4 : decode cX8_noHouse 4 = .ok (.iload_n 1, 1) := by decide +kernel
theorem dX8_noHouse_5 : decode cX8_noHouse 5 = .ok (.aload_n 0, 1) := by decide +kernel
theorem dX8_noHouse_6 : decode cX8_noHouse 6 = .ok (.getfield 66, 3) := by decide +kernel
theorem dX8_noHouse_9 : decode cX8_noHouse 9 = .ok (.getfield 119, 3) := by decide +kernel
theorem dX8_noHouse_12 : decode cX8_noHouse 12 = .ok (.if_icmp .lt 7, 3) := by decide +kernel
theorem dX8_noHouse_15 : decode cX8_noHouse 15 = .ok (.iconst 1, 1) := by decide +kernel
theorem dX8_noHouse_16 : decode cX8_noHouse 16 = .ok (.goto 4, 3) := by decide +kernel
theorem dX8_noHouse_19 : decode cX8_noHouse 19 = .ok (.iconst 0, 1) := by decide +kernel
theorem dX8_noHouse_20 : decode cX8_noHouse 20 = .ok (.ireturn, 1) := by decide +kernel
theorem dX8_noPart_0 : decode cX8_noPart 0 = .ok (.iload_n 1, 1) := by decide +kernel
theorem dX8_noPart_1 : decode cX8_noPart 1 = .ok (.ifCond .lt 14, 3) := by decide +kernel
theorem dX8_noPart_4 : decode cX8_noPart 4 = .ok (.iload_n 1, 1) := by decide +kernel
theorem dX8_noPart_5 : decode cX8_noPart 5 = .ok (.aload_n 0, 1) := by decide +kernel
theorem dX8_noPart_6 : decode cX8_noPart 6 = .ok (.getfield 66, 3) := by decide +kernel
theorem dX8_noPart_9 : decode cX8_noPart 9 = .ok (.getfield 132, 3) := by decide +kernel
theorem dX8_noPart_12 : decode cX8_noPart 12 = .ok (.if_icmp .lt 7, 3) := by decide +kernel
theorem dX8_noPart_15 : decode cX8_noPart 15 = .ok (.iconst 1, 1) := by decide +kernel
theorem dX8_noPart_16 : decode cX8_noPart 16 = .ok (.goto 4, 3) := by decide +kernel
theorem dX8_noPart_19 : decode cX8_noPart 19 = .ok (.iconst 0, 1) := by decide +kernel
theorem dX8_noPart_20 : decode cX8_noPart 20 = .ok (.ireturn, 1) := by decide +kernel
theorem dX8_beyond_0 : decode cX8_beyond 0 = .ok (.iload_n 0, 1) := by decide +kernel
theorem dX8_beyond_1 : decode cX8_beyond 1 = .ok (.iload_n 1, 1) := by decide +kernel
theorem dX8_beyond_2 : decode cX8_beyond 2 = .ok (.invokestatic 210, 3) := by decide +kernel
theorem dX8_beyond_5 : decode cX8_beyond 5 = .ok (.iconst (-1), 1) := by decide +kernel
theorem dX8_beyond_6 : decode cX8_beyond 6 = .ok (.ixor, 1) := by decide +kernel
theorem dX8_beyond_7 : decode cX8_beyond 7 = .ok (.iand, 1) := by decide +kernel
theorem dX8_beyond_8 : decode cX8_beyond 8 = .ok (.ifCond .eq 7, 3) := by decide +kernel
theorem dX8_beyond_11 : decode cX8_beyond 11 = .ok (.iconst 1, 1) := by decide +kernel
theorem dX8_beyond_12 : decode cX8_beyond 12 = .ok (.goto 4, 3) := by decide +kernel
theorem dX8_beyond_15 : decode cX8_beyond 15 = .ok (.iconst 0, 1) := by decide +kernel
theorem dX8_beyond_16 : decode cX8_beyond 16 = .ok (.ireturn, 1) := by decide +kernel
theorem dX8_fullSet_0 : decode cX8_fullSet 0 = .ok (.iconst 1, 1) := by decide +kernel
theorem dX8_fullSet_1 : decode cX8_fullSet 1 = .ok (.iload_n 0, 1) := by decide +kernel
theorem dX8_fullSet_2 : decode cX8_fullSet 2 = .ok (.ishl, 1) := by decide +kernel
theorem dX8_fullSet_3 : decode cX8_fullSet 3 = .ok (.iconst 1, 1) := by decide +kernel
theorem dX8_fullSet_4 : decode cX8_fullSet 4 = .ok (.isub, 1) := by decide +kernel
theorem dX8_fullSet_5 : decode cX8_fullSet 5 = .ok (.ireturn, 1) := by decide +kernel
theorem dX8_has_0 : decode cX8_has 0 = .ok (.iload_n 0, 1) := by decide +kernel
theorem dX8_has_1 : decode cX8_has 1 = .ok (.iload_n 1, 1) := by decide +kernel
theorem dX8_has_2 : decode cX8_has 2 = .ok (.ishr, 1) := by decide +kernel
theorem dX8_has_3 : decode cX8_has 3 = .ok (.iconst 1, 1) := by decide +kernel
theorem dX8_has_4 : decode cX8_has 4 = .ok (.iand, 1) := by decide +kernel
theorem dX8_has_5 : decode cX8_has 5 = .ok (.iconst 1, 1) := by decide +kernel
theorem dX8_has_6 : decode cX8_has 6 = .ok (.if_icmp .ne 7, 3) := by decide +kernel
theorem dX8_has_9 : decode cX8_has 9 = .ok (.iconst 1, 1) := by decide +kernel
theorem dX8_has_10 : decode cX8_has 10 = .ok (.goto 4, 3) := by decide +kernel
theorem dX8_has_13 : decode cX8_has 13 = .ok (.iconst 0, 1) := by decide +kernel
theorem dX8_has_14 : decode cX8_has 14 = .ok (.ireturn, 1) := by decide +kernel
theorem dX8_counted_0 : decode cX8_counted 0 = .ok (.iload_n 0, 1) := by decide +kernel
theorem dX8_counted_1 : decode cX8_counted 1 = .ok (.iconst (-1), 1) := by decide +kernel
theorem dX8_counted_2 : decode cX8_counted 2 = .ok (.if_icmp .ne 9, 3) := by decide +kernel
theorem dX8_counted_5 : decode cX8_counted 5 = .ok (.sipush 500, 3) := by decide +kernel
theorem dX8_counted_8 : decode cX8_counted 8 = .ok (.goto 4, 3) := by decide +kernel
theorem dX8_counted_11 : decode cX8_counted 11 = .ok (.iload_n 0, 1) := by decide +kernel
theorem dX8_counted_12 : decode cX8_counted 12 = .ok (.ireturn, 1) := by decide +kernel
theorem dX8_wakeAll_0 : decode cX8_wakeAll 0 = .ok (.aload_n 0, 1) := by decide +kernel
theorem dX8_wakeAll_1 : decode cX8_wakeAll 1 = .ok (.getfield 32, 3) := by decide +kernel
theorem dX8_wakeAll_4 : decode cX8_wakeAll 4 = .ok (.aload_n 0, 1) := by decide +kernel
theorem dX8_wakeAll_5 : decode cX8_wakeAll 5 = .ok (.getfield 66, 3) := by decide +kernel
theorem dX8_wakeAll_8 : decode cX8_wakeAll 8 = .ok (.aload_n 0, 1) := by decide +kernel
theorem dX8_wakeAll_9 : decode cX8_wakeAll 9 = .ok (.getfield 76, 3) := by decide +kernel
theorem dX8_wakeAll_12 : decode cX8_wakeAll 12 = .ok (.iload_n 1, 1) := by decide +kernel
theorem dX8_wakeAll_13 : decode cX8_wakeAll 13 = .ok (.aload_n 0, 1) := by decide +kernel
theorem dX8_wakeAll_14 : decode cX8_wakeAll 14 = .ok (.getfield 19, 3) := by decide +kernel
theorem dX8_wakeAll_17 : decode cX8_wakeAll 17 = .ok (.getfield 135, 3) := by decide +kernel
theorem dX8_wakeAll_20 : decode cX8_wakeAll 20 = .ok (.invokevirtual 221, 3) := by decide +kernel
theorem dX8_wakeAll_23 : decode cX8_wakeAll 23 = .ok (.return_, 1) := by decide +kernel
theorem dX8_raiseAll_0 : decode cX8_raiseAll 0 = .ok (.aload_n 0, 1) := by decide +kernel
theorem dX8_raiseAll_1 : decode cX8_raiseAll 1 = .ok (.iload_n 2, 1) := by decide +kernel
theorem dX8_raiseAll_2 : decode cX8_raiseAll 2 = .ok (.invokevirtual 189, 3) := by decide +kernel
theorem dX8_raiseAll_5 : decode cX8_raiseAll 5 = .ok (.aload_n 0, 1) := by decide +kernel
theorem dX8_raiseAll_6 : decode cX8_raiseAll 6 = .ok (.getfield 39, 3) := by decide +kernel
theorem dX8_raiseAll_9 : decode cX8_raiseAll 9 = .ok (.aload_n 0, 1) := by decide +kernel
theorem dX8_raiseAll_10 : decode cX8_raiseAll 10 = .ok (.getfield 66, 3) := by decide +kernel
theorem dX8_raiseAll_13 : decode cX8_raiseAll 13 = .ok (.aload_n 0, 1) := by decide +kernel
theorem dX8_raiseAll_14 : decode cX8_raiseAll 14 = .ok (.getfield 32, 3) := by decide +kernel
theorem dX8_raiseAll_17 : decode cX8_raiseAll 17 = .ok (.aload_n 0, 1) := by decide +kernel
theorem dX8_raiseAll_18 : decode cX8_raiseAll 18 = .ok (.getfield 19, 3) := by decide +kernel
theorem dX8_raiseAll_21 : decode cX8_raiseAll 21 = .ok (.getfield 170, 3) := by decide +kernel
theorem dX8_raiseAll_24 : decode cX8_raiseAll 24 = .ok (.iload_n 1, 1) := by decide +kernel
theorem dX8_raiseAll_25 : decode cX8_raiseAll 25 = .ok (.invokevirtual 225, 3) := by decide +kernel
theorem dX8_raiseAll_28 : decode cX8_raiseAll 28 = .ok (.aload_n 0, 1) := by decide +kernel
theorem dX8_raiseAll_29 : decode cX8_raiseAll 29 = .ok (.getfield 39, 3) := by decide +kernel
theorem dX8_raiseAll_32 : decode cX8_raiseAll 32 = .ok (.aload_n 0, 1) := by decide +kernel
theorem dX8_raiseAll_33 : decode cX8_raiseAll 33 = .ok (.getfield 66, 3) := by decide +kernel
theorem dX8_raiseAll_36 : decode cX8_raiseAll 36 = .ok (.aload_n 0, 1) := by decide +kernel
theorem dX8_raiseAll_37 : decode cX8_raiseAll 37 = .ok (.getfield 66, 3) := by decide +kernel
theorem dX8_raiseAll_40 : decode cX8_raiseAll 40 = .ok (.invokevirtual 229, 3) := by decide +kernel
theorem dX8_raiseAll_43 : decode cX8_raiseAll 43 = .ok (.invokevirtual 232, 3) := by decide +kernel
theorem dX8_raiseAll_46 : decode cX8_raiseAll 46 = .ok (.ireturn, 1) := by decide +kernel
theorem dX8_countWays_0 : decode cX8_countWays 0 = .ok (.aload_n 0, 1) := by decide +kernel
theorem dX8_countWays_1 : decode cX8_countWays 1 = .ok (.getfield 60, 3) := by decide +kernel
theorem dX8_countWays_4 : decode cX8_countWays 4 = .ok (.iconst 0, 1) := by decide +kernel
theorem dX8_countWays_5 : decode cX8_countWays 5 = .ok (.invokestatic 303, 3) := by decide +kernel
theorem dX8_countWays_8 : decode cX8_countWays 8 = .ok (.aload_n 0, 1) := by decide +kernel
theorem dX8_countWays_9 : decode cX8_countWays 9 = .ok (.getfield 60, 3) := by decide +kernel
theorem dX8_countWays_12 : decode cX8_countWays 12 = .ok (.iconst 0, 1) := by decide +kernel
theorem dX8_countWays_13 : decode cX8_countWays 13 = .ok (.iconst 1, 1) := by decide +kernel
theorem dX8_countWays_14 : decode cX8_countWays 14 = .ok (.iastore, 1) := by decide +kernel
theorem dX8_countWays_15 : decode cX8_countWays 15 = .ok (.iconst 0, 1) := by decide +kernel
theorem dX8_countWays_16 : decode cX8_countWays 16 = .ok (.istore_n 2, 1) := by decide +kernel
theorem dX8_countWays_17 : decode cX8_countWays 17 = .ok (.iload_n 2, 1) := by decide +kernel
theorem dX8_countWays_18 : decode cX8_countWays 18 = .ok (.aload_n 0, 1) := by decide +kernel
theorem dX8_countWays_19 : decode cX8_countWays 19 = .ok (.getfield 66, 3) := by decide +kernel
theorem dX8_countWays_22 : decode cX8_countWays 22 = .ok (.invokevirtual 229, 3) := by decide +kernel
theorem dX8_countWays_25 : decode cX8_countWays 25 = .ok (.if_icmp .gt 102, 3) := by decide +kernel
theorem dX8_countWays_28 : decode cX8_countWays 28 = .ok (.iload_n 2, 1) := by decide +kernel
theorem dX8_countWays_29 : decode cX8_countWays 29 = .ok (.invokestatic 280, 3) := by decide +kernel
theorem dX8_countWays_32 : decode cX8_countWays 32 = .ok (.istore_n 3, 1) := by decide +kernel
theorem dX8_countWays_33 : decode cX8_countWays 33 = .ok (.aload_n 0, 1) := by decide +kernel
theorem dX8_countWays_34 : decode cX8_countWays 34 = .ok (.getfield 60, 3) := by decide +kernel
theorem dX8_countWays_37 : decode cX8_countWays 37 = .ok (.iload_n 2, 1) := by decide +kernel
theorem dX8_countWays_38 : decode cX8_countWays 38 = .ok (.iaload, 1) := by decide +kernel
theorem dX8_countWays_39 : decode cX8_countWays 39 = .ok (.ifCond .le 82, 3) := by decide +kernel
theorem dX8_countWays_42 : decode cX8_countWays 42 = .ok (.iload_n 3, 1) := by decide +kernel
theorem dX8_countWays_43 : decode cX8_countWays 43 = .ok (.aload_n 0, 1) := by decide +kernel
theorem dX8_countWays_44 : decode cX8_countWays 44 = .ok (.getfield 66, 3) := by decide +kernel
theorem dX8_countWays_47 : decode cX8_countWays 47 = .ok (.getfield 132, 3) := by decide +kernel
theorem dX8_countWays_50 : decode cX8_countWays 50 = .ok (.if_icmp .ge 71, 3) := by decide +kernel
theorem dX8_countWays_53 : decode cX8_countWays 53 = .ok (.aload_n 0, 1) := by decide +kernel
theorem dX8_countWays_54 : decode cX8_countWays 54 = .ok (.getfield 19, 3) := by decide +kernel
theorem dX8_countWays_57 : decode cX8_countWays 57 = .ok (.getfield 182, 3) := by decide +kernel
theorem dX8_countWays_60 : decode cX8_countWays 60 = .ok (.iload_n 3, 1) := by decide +kernel
theorem dX8_countWays_61 : decode cX8_countWays 61 = .ok (.iaload, 1) := by decide +kernel
theorem dX8_countWays_62 : decode cX8_countWays 62 = .ok (.iload_n 1, 1) := by decide +kernel
theorem dX8_countWays_63 : decode cX8_countWays 63 = .ok (.iand, 1) := by decide +kernel
theorem dX8_countWays_64 : decode cX8_countWays 64 = .ok (.iload_n 2, 1) := by decide +kernel
theorem dX8_countWays_65 : decode cX8_countWays 65 = .ok (.iconst (-1), 1) := by decide +kernel
theorem dX8_countWays_66 : decode cX8_countWays 66 = .ok (.ixor, 1) := by decide +kernel
theorem dX8_countWays_67 : decode cX8_countWays 67 = .ok (.iand, 1) := by decide +kernel
theorem dX8_countWays_68 : decode cX8_countWays 68 = .ok (.istore 4, 2) := by decide +kernel
theorem dX8_countWays_70 : decode cX8_countWays 70 = .ok (.iconst 0, 1) := by decide +kernel
theorem dX8_countWays_71 : decode cX8_countWays 71 = .ok (.istore 5, 2) := by decide +kernel
theorem dX8_countWays_73 : decode cX8_countWays 73 = .ok (.iload 5, 2) := by decide +kernel
theorem dX8_countWays_75 : decode cX8_countWays 75 = .ok (.aload_n 0, 1) := by decide +kernel
theorem dX8_countWays_76 : decode cX8_countWays 76 = .ok (.getfield 66, 3) := by decide +kernel
theorem dX8_countWays_79 : decode cX8_countWays 79 = .ok (.getfield 132, 3) := by decide +kernel
theorem dX8_countWays_82 : decode cX8_countWays 82 = .ok (.if_icmp .ge 39, 3) := by decide +kernel
theorem dX8_countWays_85 : decode cX8_countWays 85 = .ok (.iload 4, 2) := by decide +kernel
theorem dX8_countWays_87 : decode cX8_countWays 87 = .ok (.iload 5, 2) := by decide +kernel
theorem dX8_countWays_89 : decode cX8_countWays 89 = .ok (.invokestatic 214, 3) := by decide +kernel
theorem dX8_countWays_92 : decode cX8_countWays 92 = .ok (.ifCond .eq 23, 3) := by decide +kernel
theorem dX8_countWays_95 : decode cX8_countWays 95 = .ok (.aload_n 0, 1) := by decide +kernel
theorem dX8_countWays_96 : decode cX8_countWays 96 = .ok (.getfield 60, 3) := by decide +kernel
theorem dX8_countWays_99 : decode cX8_countWays 99 = .ok (.iload_n 2, 1) := by decide +kernel
theorem dX8_countWays_100 : decode cX8_countWays 100 = .ok (.iconst 1, 1) := by decide +kernel
theorem dX8_countWays_101 : decode cX8_countWays 101 = .ok (.iload 5, 2) := by decide +kernel
theorem dX8_countWays_103 : decode cX8_countWays 103 = .ok (.ishl, 1) := by decide +kernel
theorem dX8_countWays_104 : decode cX8_countWays 104 = .ok (.ior, 1) := by decide +kernel
theorem dX8_countWays_105 : decode cX8_countWays 105 = .ok (.dup2, 1) := by decide +kernel
theorem dX8_countWays_106 : decode cX8_countWays 106 = .ok (.iaload, 1) := by decide +kernel
theorem dX8_countWays_107 : decode cX8_countWays 107 = .ok (.aload_n 0, 1) := by decide +kernel
theorem dX8_countWays_108 : decode cX8_countWays 108 = .ok (.getfield 60, 3) := by decide +kernel
theorem dX8_countWays_111 : decode cX8_countWays 111 = .ok (.iload_n 2, 1) := by decide +kernel
theorem dX8_countWays_112 : decode cX8_countWays 112 = .ok (.iaload, 1) := by decide +kernel
theorem dX8_countWays_113 : decode cX8_countWays 113 = .ok (.iadd, 1) := by decide +kernel
theorem dX8_countWays_114 : decode cX8_countWays 114 = .ok (.iastore, 1) := by decide +kernel
theorem dX8_countWays_115 : decode cX8_countWays 115 = .ok (.iinc 5 1, 3) := by decide +kernel
theorem dX8_countWays_118 : decode cX8_countWays 118 = .ok (.goto (-45), 3) := by decide +kernel
theorem dX8_countWays_121 : decode cX8_countWays 121 = .ok (.iinc 2 1, 3) := by decide +kernel
theorem dX8_countWays_124 : decode cX8_countWays 124 = .ok (.goto (-107), 3) := by decide +kernel
theorem dX8_countWays_127 : decode cX8_countWays 127 = .ok (.return_, 1) := by decide +kernel
theorem dX8_costOf_0 : decode cX8_costOf 0 = .ok (.iconst 0, 1) := by decide +kernel
theorem dX8_costOf_1 : decode cX8_costOf 1 = .ok (.istore_n 2, 1) := by decide +kernel
theorem dX8_costOf_2 : decode cX8_costOf 2 = .ok (.iconst 0, 1) := by decide +kernel
theorem dX8_costOf_3 : decode cX8_costOf 3 = .ok (.istore_n 3, 1) := by decide +kernel
theorem dX8_costOf_4 : decode cX8_costOf 4 = .ok (.iload_n 3, 1) := by decide +kernel
theorem dX8_costOf_5 : decode cX8_costOf 5 = .ok (.aload_n 0, 1) := by decide +kernel
theorem dX8_costOf_6 : decode cX8_costOf 6 = .ok (.getfield 66, 3) := by decide +kernel
theorem dX8_costOf_9 : decode cX8_costOf 9 = .ok (.getfield 132, 3) := by decide +kernel
theorem dX8_costOf_12 : decode cX8_costOf 12 = .ok (.if_icmp .ge 26, 3) := by decide +kernel
theorem dX8_costOf_15 : decode cX8_costOf 15 = .ok (.iload_n 1, 1) := by decide +kernel
theorem dX8_costOf_16 : decode cX8_costOf 16 = .ok (.iload_n 3, 1) := by decide +kernel
theorem dX8_costOf_17 : decode cX8_costOf 17 = .ok (.invokestatic 214, 3) := by decide +kernel
theorem dX8_costOf_20 : decode cX8_costOf 20 = .ok (.ifCond .eq 12, 3) := by decide +kernel
theorem dX8_costOf_23 : decode cX8_costOf 23 = .ok (.iload_n 2, 1) := by decide +kernel
theorem dX8_costOf_24 : decode cX8_costOf 24 = .ok (.aload_n 0, 1) := by decide +kernel
theorem dX8_costOf_25 : decode cX8_costOf 25 = .ok (.getfield 53, 3) := by decide +kernel
theorem dX8_costOf_28 : decode cX8_costOf 28 = .ok (.iload_n 3, 1) := by decide +kernel
theorem dX8_costOf_29 : decode cX8_costOf 29 = .ok (.iaload, 1) := by decide +kernel
theorem dX8_costOf_30 : decode cX8_costOf 30 = .ok (.iadd, 1) := by decide +kernel
theorem dX8_costOf_31 : decode cX8_costOf 31 = .ok (.istore_n 2, 1) := by decide +kernel
theorem dX8_costOf_32 : decode cX8_costOf 32 = .ok (.iinc 3 1, 3) := by decide +kernel
theorem dX8_costOf_35 : decode cX8_costOf 35 = .ok (.goto (-31), 3) := by decide +kernel
theorem dX8_costOf_38 : decode cX8_costOf 38 = .ok (.iload_n 2, 1) := by decide +kernel
theorem dX8_costOf_39 : decode cX8_costOf 39 = .ok (.ireturn, 1) := by decide +kernel
theorem dX8_standsWith_0 : decode cX8_standsWith 0 = .ok (.iconst 0, 1) := by decide +kernel
theorem dX8_standsWith_1 : decode cX8_standsWith 1 = .ok (.istore_n 3, 1) := by decide +kernel
theorem dX8_standsWith_2 : decode cX8_standsWith 2 = .ok (.iload_n 3, 1) := by decide +kernel
theorem dX8_standsWith_3 : decode cX8_standsWith 3 = .ok (.aload_n 0, 1) := by decide +kernel
theorem dX8_standsWith_4 : decode cX8_standsWith 4 = .ok (.getfield 66, 3) := by decide +kernel
theorem dX8_standsWith_7 : decode cX8_standsWith 7 = .ok (.getfield 132, 3) := by decide +kernel
theorem dX8_standsWith_10 : decode cX8_standsWith 10 = .ok (.if_icmp .ge 39, 3) := by decide +kernel
theorem dX8_standsWith_13 : decode cX8_standsWith 13 = .ok (.aload_n 0, 1) := by decide +kernel
theorem dX8_standsWith_14 : decode cX8_standsWith 14 = .ok (.getfield 43, 3) := by decide +kernel
theorem dX8_standsWith_17 : decode cX8_standsWith 17 = .ok (.getfield 332, 3) := by decide +kernel
theorem dX8_standsWith_20 : decode cX8_standsWith 20 = .ok (.iload_n 3, 1) := by decide +kernel
theorem dX8_standsWith_21 : decode cX8_standsWith 21 = .ok (.iload_n 1, 1) := by decide +kernel
theorem dX8_standsWith_22 : decode cX8_standsWith 22 = .ok (.iload_n 3, 1) := by decide +kernel
theorem dX8_standsWith_23 : decode cX8_standsWith 23 = .ok (.invokestatic 214, 3) := by decide +kernel
theorem dX8_standsWith_26 : decode cX8_standsWith 26 = .ok (.ifCond .eq 7, 3) := by decide +kernel
theorem dX8_standsWith_29 : decode cX8_standsWith 29 = .ok (.iload_n 2, 1) := by decide +kernel
theorem dX8_standsWith_30 : decode cX8_standsWith 30 = .ok (.goto 12, 3) := by decide +kernel
theorem dX8_standsWith_33 : decode cX8_standsWith 33 = .ok (.aload_n 0, 1) := by decide +kernel
theorem dX8_standsWith_34 : decode cX8_standsWith 34 = .ok (.getfield 39, 3) := by decide +kernel
theorem dX8_standsWith_37 : decode cX8_standsWith 37 = .ok (.getfield 332, 3) := by decide +kernel
theorem dX8_standsWith_40 : decode cX8_standsWith 40 = .ok (.iload_n 3, 1) := by decide +kernel
theorem dX8_standsWith_41 : decode cX8_standsWith 41 = .ok (.iaload, 1) := by decide +kernel
theorem dX8_standsWith_42 : decode cX8_standsWith 42 = .ok (.iastore, 1) := by decide +kernel
theorem dX8_standsWith_43 : decode cX8_standsWith 43 = .ok (.iinc 3 1, 3) := by decide +kernel
theorem dX8_standsWith_46 : decode cX8_standsWith 46 = .ok (.goto (-44), 3) := by decide +kernel
theorem dX8_standsWith_49 : decode cX8_standsWith 49 = .ok (.aload_n 0, 1) := by decide +kernel
theorem dX8_standsWith_50 : decode cX8_standsWith 50 = .ok (.getfield 43, 3) := by decide +kernel
theorem dX8_standsWith_53 : decode cX8_standsWith 53 = .ok (.aload_n 0, 1) := by decide +kernel
theorem dX8_standsWith_54 : decode cX8_standsWith 54 = .ok (.getfield 66, 3) := by decide +kernel
theorem dX8_standsWith_57 : decode cX8_standsWith 57 = .ok (.aload_n 0, 1) := by decide +kernel
theorem dX8_standsWith_58 : decode cX8_standsWith 58 = .ok (.getfield 66, 3) := by decide +kernel
theorem dX8_standsWith_61 : decode cX8_standsWith 61 = .ok (.invokevirtual 229, 3) := by decide +kernel
theorem dX8_standsWith_64 : decode cX8_standsWith 64 = .ok (.invokevirtual 232, 3) := by decide +kernel
theorem dX8_standsWith_67 : decode cX8_standsWith 67 = .ok (.invokestatic 235, 3) := by decide +kernel
theorem dX8_standsWith_70 : decode cX8_standsWith 70 = .ok (.ireturn, 1) := by decide +kernel
theorem dX8_countLogged_0 : decode cX8_countLogged 0 = .ok (.iconst 0, 1) := by decide +kernel
theorem dX8_countLogged_1 : decode cX8_countLogged 1 = .ok (.istore_n 1, 1) := by decide +kernel
theorem dX8_countLogged_2 : decode cX8_countLogged 2 = .ok (.iconst 0, 1) := by decide +kernel
theorem dX8_countLogged_3 : decode cX8_countLogged 3 = .ok (.istore_n 2, 1) := by decide +kernel
theorem dX8_countLogged_4 : decode cX8_countLogged 4 = .ok (.iload_n 2, 1) := by decide +kernel
theorem dX8_countLogged_5 : decode cX8_countLogged 5 = .ok (.aload_n 0, 1) := by decide +kernel
theorem dX8_countLogged_6 : decode cX8_countLogged 6 = .ok (.getfield 66, 3) := by decide +kernel
theorem dX8_countLogged_9 : decode cX8_countLogged 9 = .ok (.getfield 132, 3) := by decide +kernel
theorem dX8_countLogged_12 : decode cX8_countLogged 12 = .ok (.if_icmp .ge 22, 3) := by decide +kernel
theorem dX8_countLogged_15 : decode cX8_countLogged 15 = .ok (.aload_n 0, 1) := by decide +kernel
theorem dX8_countLogged_16 : decode cX8_countLogged 16 = .ok (.getfield 57, 3) := by decide +kernel
theorem dX8_countLogged_19 : decode cX8_countLogged 19 = .ok (.iload_n 2, 1) := by decide +kernel
theorem dX8_countLogged_20 : decode cX8_countLogged 20 = .ok (.iaload, 1) := by decide +kernel
theorem dX8_countLogged_21 : decode cX8_countLogged 21 = .ok (.iconst (-1), 1) := by decide +kernel
theorem dX8_countLogged_22 : decode cX8_countLogged 22 = .ok (.if_icmp .eq 6, 3) := by decide +kernel
theorem dX8_countLogged_25 : decode cX8_countLogged 25 = .ok (.iinc 1 1, 3) := by decide +kernel
theorem dX8_countLogged_28 : decode cX8_countLogged 28 = .ok (.iinc 2 1, 3) := by decide +kernel
theorem dX8_countLogged_31 : decode cX8_countLogged 31 = .ok (.goto (-27), 3) := by decide +kernel
theorem dX8_countLogged_34 : decode cX8_countLogged 34 = .ok (.iload_n 1, 1) := by decide +kernel
theorem dX8_countLogged_35 : decode cX8_countLogged 35 = .ok (.ireturn, 1) := by decide +kernel
theorem dX8_lateBy_0 : decode cX8_lateBy 0 = .ok (.aload_n 0, 1) := by decide +kernel
theorem dX8_lateBy_1 : decode cX8_lateBy 1 = .ok (.getfield 57, 3) := by decide +kernel
theorem dX8_lateBy_4 : decode cX8_lateBy 4 = .ok (.iload_n 1, 1) := by decide +kernel
theorem dX8_lateBy_5 : decode cX8_lateBy 5 = .ok (.iaload, 1) := by decide +kernel
theorem dX8_lateBy_6 : decode cX8_lateBy 6 = .ok (.iconst (-1), 1) := by decide +kernel
theorem dX8_lateBy_7 : decode cX8_lateBy 7 = .ok (.if_icmp .eq 8, 3) := by decide +kernel
theorem dX8_lateBy_10 : decode cX8_lateBy 10 = .ok (.iload_n 2, 1) := by decide +kernel
theorem dX8_lateBy_11 : decode cX8_lateBy 11 = .ok (.iconst (-1), 1) := by decide +kernel
theorem dX8_lateBy_12 : decode cX8_lateBy 12 = .ok (.if_icmp .ne 5, 3) := by decide +kernel
theorem dX8_lateBy_15 : decode cX8_lateBy 15 = .ok (.iconst 0, 1) := by decide +kernel
theorem dX8_lateBy_16 : decode cX8_lateBy 16 = .ok (.ireturn, 1) := by decide +kernel
theorem dX8_lateBy_17 : decode cX8_lateBy 17 = .ok (.iconst 0, 1) := by decide +kernel
theorem dX8_lateBy_18 : decode cX8_lateBy 18 = .ok (.aload_n 0, 1) := by decide +kernel
theorem dX8_lateBy_19 : decode cX8_lateBy 19 = .ok (.getfield 57, 3) := by decide +kernel
theorem dX8_lateBy_22 : decode cX8_lateBy 22 = .ok (.iload_n 1, 1) := by decide +kernel
theorem dX8_lateBy_23 : decode cX8_lateBy 23 = .ok (.iaload, 1) := by decide +kernel
theorem dX8_lateBy_24 : decode cX8_lateBy 24 = .ok (.iload_n 2, 1) := by decide +kernel
theorem dX8_lateBy_25 : decode cX8_lateBy 25 = .ok (.isub, 1) := by decide +kernel
theorem dX8_lateBy_26 : decode cX8_lateBy 26 = .ok (.invokestatic 238, 3) := by decide +kernel
theorem dX8_lateBy_29 : decode cX8_lateBy 29 = .ok (.ireturn, 1) := by decide +kernel
theorem dX8_findLatest_0 : decode cX8_findLatest 0 = .ok (.iconst (-1), 1) := by decide +kernel
theorem dX8_findLatest_1 : decode cX8_findLatest 1 = .ok (.istore_n 1, 1) := by decide +kernel
theorem dX8_findLatest_2 : decode cX8_findLatest 2 = .ok (.iconst 0, 1) := by decide +kernel
theorem dX8_findLatest_3 : decode cX8_findLatest 3 = .ok (.istore_n 2, 1) := by decide +kernel
theorem dX8_findLatest_4 : decode cX8_findLatest 4 = .ok (.iconst 0, 1) := by decide +kernel
theorem dX8_findLatest_5 : decode cX8_findLatest 5 = .ok (.istore_n 3, 1) := by decide +kernel
theorem dX8_findLatest_6 : decode cX8_findLatest 6 = .ok (.iload_n 3, 1) := by decide +kernel
theorem dX8_findLatest_7 : decode cX8_findLatest 7 = .ok (.aload_n 0, 1) := by decide +kernel
theorem dX8_findLatest_8 : decode cX8_findLatest 8 = .ok (.getfield 66, 3) := by decide +kernel
theorem dX8_findLatest_11 : decode cX8_findLatest 11 = .ok (.getfield 132, 3) := by decide +kernel
theorem dX8_findLatest_14 : decode cX8_findLatest 14 = .ok (.if_icmp .ge 36, 3) := by decide +kernel
theorem dX8_findLatest_17 : decode cX8_findLatest 17 = .ok (.aload_n 0, 1) := by decide +kernel
theorem dX8_findLatest_18 : decode cX8_findLatest 18 = .ok (.iload_n 3, 1) := by decide +kernel
theorem dX8_findLatest_19 : decode cX8_findLatest 19 = .ok (.aload_n 0, 1) := by decide +kernel
theorem dX8_findLatest_20 : decode cX8_findLatest 20 = .ok (.getfield 39, 3) := by decide +kernel
theorem dX8_findLatest_23 : decode cX8_findLatest 23 = .ok (.getfield 332, 3) := by decide +kernel
theorem dX8_findLatest_26 : decode cX8_findLatest 26 = .ok (.iload_n 3, 1) := by decide +kernel
theorem dX8_findLatest_27 : decode cX8_findLatest 27 = .ok (.iaload, 1) := by decide +kernel
theorem dX8_findLatest_28 : decode cX8_findLatest 28 = .ok (.invokevirtual 309, 3) := by decide +kernel
theorem dX8_findLatest_31 : decode cX8_findLatest 31 = .ok (.istore 4, 2) := by decide +kernel
theorem dX8_findLatest_33 : decode cX8_findLatest 33 = .ok (.iload 4, 2) := by decide +kernel
theorem dX8_findLatest_35 : decode cX8_findLatest 35 = .ok (.iload_n 2, 1) := by decide +kernel
theorem dX8_findLatest_36 : decode cX8_findLatest 36 = .ok (.if_icmp .le 8, 3) := by decide +kernel
theorem dX8_findLatest_39 : decode cX8_findLatest 39 = .ok (.iload_n 3, 1) := by decide +kernel
theorem dX8_findLatest_40 : decode cX8_findLatest 40 = .ok (.istore_n 1, 1) := by decide +kernel
theorem dX8_findLatest_41 : decode cX8_findLatest 41 = .ok (.iload 4, 2) := by decide +kernel
theorem dX8_findLatest_43 : decode cX8_findLatest 43 = .ok (.istore_n 2, 1) := by decide +kernel
theorem dX8_findLatest_44 : decode cX8_findLatest 44 = .ok (.iinc 3 1, 3) := by decide +kernel
theorem dX8_findLatest_47 : decode cX8_findLatest 47 = .ok (.goto (-41), 3) := by decide +kernel
theorem dX8_findLatest_50 : decode cX8_findLatest 50 = .ok (.iload_n 1, 1) := by decide +kernel
theorem dX8_findLatest_51 : decode cX8_findLatest 51 = .ok (.ireturn, 1) := by decide +kernel
theorem dX8_standsByLog_0 : decode cX8_standsByLog 0 = .ok (.iconst 0, 1) := by decide +kernel
theorem dX8_standsByLog_1 : decode cX8_standsByLog 1 = .ok (.istore_n 1, 1) := by decide +kernel
theorem dX8_standsByLog_2 : decode cX8_standsByLog 2 = .ok (.iload_n 1, 1) := by decide +kernel
theorem dX8_standsByLog_3 : decode cX8_standsByLog 3 = .ok (.aload_n 0, 1) := by decide +kernel
theorem dX8_standsByLog_4 : decode cX8_standsByLog 4 = .ok (.getfield 66, 3) := by decide +kernel
theorem dX8_standsByLog_7 : decode cX8_standsByLog 7 = .ok (.getfield 132, 3) := by decide +kernel
theorem dX8_standsByLog_10 : decode cX8_standsByLog 10 = .ok (.if_icmp .ge 34, 3) := by decide +kernel
theorem dX8_standsByLog_13 : decode cX8_standsByLog 13 = .ok (.aload_n 0, 1) := by decide +kernel
theorem dX8_standsByLog_14 : decode cX8_standsByLog 14 = .ok (.getfield 57, 3) := by decide +kernel
theorem dX8_standsByLog_17 : decode cX8_standsByLog 17 = .ok (.iload_n 1, 1) := by decide +kernel
theorem dX8_standsByLog_18 : decode cX8_standsByLog 18 = .ok (.iaload, 1) := by decide +kernel
theorem dX8_standsByLog_19 : decode cX8_standsByLog 19 = .ok (.iconst (-1), 1) := by decide +kernel
theorem dX8_standsByLog_20 : decode cX8_standsByLog 20 = .ok (.if_icmp .eq 18, 3) := by decide +kernel
theorem dX8_standsByLog_23 : decode cX8_standsByLog 23 = .ok (.aload_n 0, 1) := by decide +kernel
theorem dX8_standsByLog_24 : decode cX8_standsByLog 24 = .ok (.getfield 39, 3) := by decide +kernel
theorem dX8_standsByLog_27 : decode cX8_standsByLog 27 = .ok (.getfield 332, 3) := by decide +kernel
theorem dX8_standsByLog_30 : decode cX8_standsByLog 30 = .ok (.iload_n 1, 1) := by decide +kernel
theorem dX8_standsByLog_31 : decode cX8_standsByLog 31 = .ok (.aload_n 0, 1) := by decide +kernel
theorem dX8_standsByLog_32 : decode cX8_standsByLog 32 = .ok (.getfield 57, 3) := by decide +kernel
theorem dX8_standsByLog_35 : decode cX8_standsByLog 35 = .ok (.iload_n 1, 1) := by decide +kernel
theorem dX8_standsByLog_36 : decode cX8_standsByLog 36 = .ok (.iaload, 1) := by decide +kernel
theorem dX8_standsByLog_37 : decode cX8_standsByLog 37 = .ok (.iastore, 1) := by decide +kernel
theorem dX8_standsByLog_38 : decode cX8_standsByLog 38 = .ok (.iinc 1 1, 3) := by decide +kernel
theorem dX8_standsByLog_41 : decode cX8_standsByLog 41 = .ok (.goto (-39), 3) := by decide +kernel
theorem dX8_standsByLog_44 : decode cX8_standsByLog 44 = .ok (.aload_n 0, 1) := by decide +kernel
theorem dX8_standsByLog_45 : decode cX8_standsByLog 45 = .ok (.getfield 39, 3) := by decide +kernel
theorem dX8_standsByLog_48 : decode cX8_standsByLog 48 = .ok (.aload_n 0, 1) := by decide +kernel
theorem dX8_standsByLog_49 : decode cX8_standsByLog 49 = .ok (.getfield 66, 3) := by decide +kernel
theorem dX8_standsByLog_52 : decode cX8_standsByLog 52 = .ok (.aload_n 0, 1) := by decide +kernel
theorem dX8_standsByLog_53 : decode cX8_standsByLog 53 = .ok (.getfield 66, 3) := by decide +kernel
theorem dX8_standsByLog_56 : decode cX8_standsByLog 56 = .ok (.invokevirtual 229, 3) := by decide +kernel
theorem dX8_standsByLog_59 : decode cX8_standsByLog 59 = .ok (.invokevirtual 232, 3) := by decide +kernel
theorem dX8_standsByLog_62 : decode cX8_standsByLog 62 = .ok (.ireturn, 1) := by decide +kernel
end
section
theorem dX9_init_0 : decode cX9_init 0 = .ok (.aload_n 0, 1) := by decide +kernel
theorem dX9_init_1 : decode cX9_init 1 = .ok (.invokespecial 1, 3) := by decide +kernel
theorem dX9_init_4 : decode cX9_init 4 = .ok (.aload_n 0, 1) := by decide +kernel
theorem dX9_init_5 : decode cX9_init 5 = .ok (.bipush 78, 2) := by decide +kernel
theorem dX9_init_7 : decode cX9_init 7 = .ok (.newarray .int, 2) := by decide +kernel
theorem dX9_init_9 : decode cX9_init 9 = .ok (.putfield 7, 3) := by decide +kernel
theorem dX9_init_12 : decode cX9_init 12 = .ok (.aload_n 0, 1) := by decide +kernel
theorem dX9_init_13 : decode cX9_init 13 = .ok (.iconst 2, 1) := by decide +kernel
theorem dX9_init_14 : decode cX9_init 14 = .ok (.newarray .boolean, 2) := by decide +kernel
theorem dX9_init_16 : decode cX9_init 16 = .ok (.putfield 13, 3) := by decide +kernel
theorem dX9_init_19 : decode cX9_init 19 = .ok (.aload_n 0, 1) := by decide +kernel
theorem dX9_init_20 : decode cX9_init 20 = .ok (.bipush 108, 2) := by decide +kernel
theorem dX9_init_22 : decode cX9_init 22 = .ok (.newarray .int, 2) := by decide +kernel
theorem dX9_init_24 : decode cX9_init 24 = .ok (.putfield 17, 3) := by decide +kernel
theorem dX9_init_27 : decode cX9_init 27 = .ok (.aload_n 0, 1) := by decide +kernel
theorem dX9_init_28 : decode cX9_init 28 = .ok (.sipush 162, 3) := by decide +kernel
theorem dX9_init_31 : decode cX9_init 31 = .ok (.newarray .int, 2) := by decide +kernel
theorem dX9_init_33 : decode cX9_init 33 = .ok (.putfield 20, 3) := by decide +kernel
theorem dX9_init_36 : decode cX9_init 36 = .ok (.aload_n 0, 1) := by decide +kernel
theorem dX9_init_37 : decode cX9_init 37 = .ok (.bipush 24, 2) := by decide +kernel
theorem dX9_init_39 : decode cX9_init 39 = .ok (.newarray .int, 2) := by decide +kernel
theorem dX9_init_41 : decode cX9_init 41 = .ok (.putfield 23, 3) := by decide +kernel
theorem dX9_init_44 : decode cX9_init 44 = .ok (.aload_n 0, 1) := by decide +kernel
theorem dX9_init_45 : decode cX9_init 45 = .ok (.bipush 24, 2) := by decide +kernel
theorem dX9_init_47 : decode cX9_init 47 = .ok (.newarray .int, 2) := by decide +kernel
theorem dX9_init_49 : decode cX9_init 49 = .ok (.putfield 26, 3) := by decide +kernel
theorem dX9_init_52 : decode cX9_init 52 = .ok (.aload_n 0, 1) := by decide +kernel
theorem dX9_init_53 : decode cX9_init 53 = .ok (.bipush 24, 2) := by decide +kernel
theorem dX9_init_55 : decode cX9_init 55 = .ok (.newarray .int, 2) := by decide +kernel
theorem dX9_init_57 : decode cX9_init 57 = .ok (.putfield 29, 3) := by decide +kernel
theorem dX9_init_60 : decode cX9_init 60 = .ok (.aload_n 0, 1) := by decide +kernel
theorem dX9_init_61 : decode cX9_init 61 = .ok (.bipush 24, 2) := by decide +kernel
theorem dX9_init_63 : decode cX9_init 63 = .ok (.newarray .int, 2) := by decide +kernel
theorem dX9_init_65 : decode cX9_init 65 = .ok (.putfield 32, 3) := by decide +kernel
theorem dX9_init_68 : decode cX9_init 68 = .ok (.aload_n 0, 1) := by decide +kernel
theorem dX9_init_69 : decode cX9_init 69 = .ok (.iconst 4, 1) := by decide +kernel
theorem dX9_init_70 : decode cX9_init 70 = .ok (.newarray .int, 2) := by decide +kernel
theorem dX9_init_72 : decode cX9_init 72 = .ok (.putfield 35, 3) := by decide +kernel
theorem dX9_init_75 : decode cX9_init 75 = .ok (.aload_n 0, 1) := by decide +kernel
theorem dX9_init_76 : decode cX9_init 76 = .ok (.bipush 40, 2) := by decide +kernel
theorem dX9_init_78 : decode cX9_init 78 = .ok (.newarray .int, 2) := by decide +kernel
theorem dX9_init_80 : decode cX9_init 80 = .ok (.putfield 38, 3) := by decide +kernel
theorem dX9_init_83 : decode cX9_init 83 = .ok (.aload_n 0, 1) := by decide +kernel
theorem dX9_init_84 : decode cX9_init 84 = .ok (.bipush 40, 2) := by decide +kernel
theorem dX9_init_86 : decode cX9_init 86 = .ok (.newarray .int, 2) := by decide +kernel
theorem dX9_init_88 : decode cX9_init 88 = .ok (.putfield 41, 3) := by decide +kernel
theorem dX9_init_91 : decode cX9_init 91 = .ok (.aload_n 0, 1) := by decide +kernel
theorem dX9_init_92 : decode cX9_init 92 = .ok (.bipush 12, 2) := by decide +kernel
theorem dX9_init_94 : decode cX9_init 94 = .ok (.newarray .int, 2) := by decide +kernel
theorem dX9_init_96 : decode cX9_init 96 = .ok (.putfield 44, 3) := by decide +kernel
theorem dX9_init_99 : decode cX9_init 99 = .ok (.aload_n 0, 1) := by decide +kernel
theorem dX9_init_100 : decode cX9_init 100 = .ok (.sipush 600, 3) := by decide +kernel
theorem dX9_init_103 : decode cX9_init 103 = .ok (.newarray .int, 2) := by decide +kernel
theorem dX9_init_105 : decode cX9_init 105 = .ok (.putfield 47, 3) := by decide +kernel
theorem dX9_init_108 : decode cX9_init 108 = .ok (.aload_n 0, 1) := by decide +kernel
theorem dX9_init_109 : decode cX9_init 109 = .ok (.iconst (-1), 1) := by decide +kernel
theorem dX9_init_110 : decode cX9_init 110 = .ok (.putfield 50, 3) := by decide +kernel
theorem dX9_init_113 : decode cX9_init 113 = .ok (.aload_n 0, 1) := by decide +kernel
theorem dX9_init_114 : decode cX9_init 114 = .ok (.bipush 81, 2) := by decide +kernel
theorem dX9_init_116 : decode cX9_init 116 = .ok (.newarray .int, 2) := by decide +kernel
theorem dX9_init_118 : decode cX9_init 118 = .ok (.putfield 54, 3) := by decide +kernel
theorem dX9_init_121 : decode cX9_init 121 = .ok (.aload_n 0, 1) := by decide +kernel
theorem dX9_init_122 : decode cX9_init 122 = .ok (.bipush 9, 2) := by decide +kernel
theorem dX9_init_124 : decode cX9_init 124 = .ok (.newarray .int, 2) := by decide +kernel
theorem dX9_init_126 : decode cX9_init 126 = .ok (.putfield 57, 3) := by decide +kernel
theorem dX9_init_129 : decode cX9_init 129 = .ok (.aload_n 0, 1) := by decide +kernel
theorem dX9_init_130 : decode cX9_init 130 = .ok (.bipush 9, 2) := by decide +kernel
theorem dX9_init_132 : decode cX9_init 132 = .ok (.newarray .int, 2) := by decide +kernel
theorem dX9_init_134 : decode cX9_init 134 = .ok (.putfield 60, 3) := by decide +kernel
theorem dX9_init_137 : decode cX9_init 137 = .ok (.aload_n 0, 1) := by decide +kernel
theorem dX9_init_138 : decode cX9_init 138 = .ok (.bipush 20, 2) := by decide +kernel
theorem dX9_init_140 : decode cX9_init 140 = .ok (.newarray .int, 2) := by decide +kernel
theorem dX9_init_142 : decode cX9_init 142 = .ok (.putfield 63, 3) := by decide +kernel
theorem dX9_init_145 : decode cX9_init 145 = .ok (.aload_n 0, 1) := by decide +kernel
theorem dX9_init_146 : decode cX9_init 146 = .ok (.bipush 12, 2) := by decide +kernel
theorem dX9_init_148 : decode cX9_init 148 = .ok (.newarray .int, 2) := by decide +kernel
theorem dX9_init_150 : decode cX9_init 150 = .ok (.putfield 66, 3) := by decide +kernel
theorem dX9_init_153 : decode cX9_init 153 = .ok (.aload_n 0, 1) := by decide +kernel
theorem dX9_init_154 : decode cX9_init 154 = .ok (.bipush 12, 2) := by decide +kernel
theorem dX9_init_156 : decode cX9_init 156 = .ok (.newarray .int, 2) := by decide +kernel
theorem dX9_init_158 : decode cX9_init 158 = .ok (.putfield 69, 3) := by decide +kernel
theorem dX9_init_161 : decode cX9_init 161 = .ok (.aload_n 0, 1) := by decide +kernel
theorem dX9_init_162 : decode cX9_init 162 = .ok (.bipush 12, 2) := by decide +kernel
theorem dX9_init_164 : decode cX9_init 164 = .ok (.newarray .int, 2) := by decide +kernel
theorem dX9_init_166 : decode cX9_init 166 = .ok (.putfield 72, 3) := by decide +kernel
theorem dX9_init_169 : decode cX9_init 169 = .ok (.aload_n 0, 1) := by decide +kernel
theorem dX9_init_170 : decode cX9_init 170 = .ok (.bipush 12, 2) := by decide +kernel
theorem dX9_init_172 : decode cX9_init 172 = .ok (.newarray .int, 2) := by decide +kernel
theorem dX9_init_174 : decode cX9_init 174 = .ok (.putfield 75, 3) := by decide +kernel
theorem dX9_init_177 : decode cX9_init 177 = .ok (.aload_n 0, 1) := by decide +kernel
theorem dX9_init_178 : decode cX9_init 178 = .ok (.bipush 9, 2) := by decide +kernel
theorem dX9_init_180 : decode cX9_init 180 = .ok (.newarray .int, 2) := by decide +kernel
theorem dX9_init_182 : decode cX9_init 182 = .ok (.putfield 78, 3) := by decide +kernel
theorem dX9_init_185 : decode cX9_init 185 = .ok (.aload_n 0, 1) := by decide +kernel
theorem dX9_init_186 : decode cX9_init 186 = .ok (.bipush 9, 2) := by decide +kernel
theorem dX9_init_188 : decode cX9_init 188 = .ok (.newarray .int, 2) := by decide +kernel
theorem dX9_init_190 : decode cX9_init 190 = .ok (.putfield 81, 3) := by decide +kernel
theorem dX9_init_193 : decode cX9_init 193 = .ok (.aload_n 0, 1) := by decide +kernel
theorem dX9_init_194 : decode cX9_init 194 = .ok (.iconst 5, 1) := by decide +kernel
theorem dX9_init_195 : decode cX9_init 195 = .ok (.newarray .int, 2) := by decide +kernel
theorem dX9_init_197 : decode cX9_init 197 = .ok (.putfield 84, 3) := by decide +kernel
theorem dX9_init_200 : decode cX9_init 200 = .ok (.aload_n 0, 1) := by decide +kernel
theorem dX9_init_201 : decode cX9_init 201 = .ok (.sipush 4096, 3) := by decide +kernel
theorem dX9_init_204 : decode cX9_init 204 = .ok (.newarray .int, 2) := by decide +kernel
theorem dX9_init_206 : decode cX9_init 206 = .ok (.putfield 87, 3) := by decide +kernel
theorem dX9_init_209 : decode cX9_init 209 = .ok (.aload_n 0, 1) := by decide +kernel
theorem dX9_init_210 : decode cX9_init 210 = .ok (.bipush 12, 2) := by decide +kernel
theorem dX9_init_212 : decode cX9_init 212 = .ok (.newarray .int, 2) := by decide +kernel
theorem dX9_init_214 : decode cX9_init 214 = .ok (.putfield 90, 3) := by decide +kernel
theorem dX9_init_217 : decode cX9_init 217 = .ok (.return_, 1) := by decide +kernel
theorem dX9_in_0 : decode cX9_in 0 = .ok (.lload_n 0, 1) := by decide +kernel
theorem dX9_in_1 : decode cX9_in 1 = .ok (.lload_n 2, 1) := by decide +kernel
theorem dX9_in_2 : decode cX9_in 2 = .ok (.lcmp, 1) := by decide +kernel
theorem dX9_in_3 : decode cX9_in 3 = .ok (.ifCond .lt 14, 3) := by decide +kernel
theorem dX9_in_6 : decode cX9_in 6 = .ok (.lload_n 0, 1) := by decide +kernel
theorem dX9_in_7 : decode cX9_in 7 = .ok (.lload 4, 2) := by decide +kernel
theorem dX9_in_9 : decode cX9_in 9 = .ok (.lcmp, 1) := by decide +kernel
theorem dX9_in_10 : decode cX9_in 10 = .ok (.ifCond .gt 7, 3) := by decide +kernel
theorem dX9_in_13 : decode cX9_in 13 = .ok (.iconst 1, 1) := by decide +kernel
theorem dX9_in_14 : decode cX9_in 14 = .ok (.goto 4, 3) := by decide +kernel
theorem dX9_in_17 : decode cX9_in 17 = .ok (.iconst 0, 1) := by decide +kernel
theorem dX9_in_18 : decode cX9_in 18 = .ok (.ireturn, 1) := by decide +kernel
theorem dX9_one_0 : decode cX9_one 0 = .ok (.iload_n 0, 1) := by decide +kernel
theorem dX9_one_1 : decode cX9_one 1 = .ok (.ifCond .eq 7, 3) := by decide +kernel
theorem dX9_one_4 : decode cX9_one 4 = .ok (.iconst 1, 1) := by decide +kernel
theorem dX9_one_5 : decode cX9_one 5 = .ok (.goto 4, 3) := by decide +kernel
theorem dX9_one_8 : decode cX9_one 8 = .ok (.iconst 0, 1) := by decide +kernel
theorem dX9_one_9 : decode cX9_one 9 = .ok (.ireturn, 1) := by decide +kernel
theorem dX9_has_0 : decode cX9_has 0 = .ok (.iload_n 0, 1) := by decide +kernel
theorem dX9_has_1 : decode cX9_has 1 = .ok (.iload_n 1, 1) := by decide +kernel
theorem dX9_has_2 : decode cX9_has 2 = .ok (.ishr, 1) := by decide +kernel
theorem dX9_has_3 : decode cX9_has 3 = .ok (.iconst 1, 1) := by decide +kernel
theorem dX9_has_4 : decode cX9_has 4 = .ok (.iand, 1) := by decide +kernel
theorem dX9_has_5 : decode cX9_has 5 = .ok (.iconst 1, 1) := by decide +kernel
theorem dX9_has_6 : decode cX9_has 6 = .ok (.if_icmp .ne 7, 3) := by decide +kernel
theorem dX9_has_9 : decode cX9_has 9 = .ok (.iconst 1, 1) := by decide +kernel
theorem dX9_has_10 : decode cX9_has 10 = .ok (.goto 4, 3) := by decide +kernel
theorem dX9_has_13 : decode cX9_has 13 = .ok (.iconst 0, 1) := by decide +kernel
theorem dX9_has_14 : decode cX9_has 14 = .ok (.ireturn, 1) := by decide +kernel
theorem dX9_ones_0 : decode cX9_ones 0 = .ok (.iconst 0, 1) := by decide +kernel
theorem dX9_ones_1 : decode cX9_ones 1 = .ok (.istore_n 1, 1) := by decide +kernel
theorem dX9_ones_2 : decode cX9_ones 2 = .ok (.iconst 0, 1) := by decide +kernel
theorem dX9_ones_3 : decode cX9_ones 3 = .ok (.istore_n 2, 1) := by decide +kernel
theorem dX9_ones_4 : decode cX9_ones 4 = .ok (.iload_n 2, 1) := by decide +kernel
theorem dX9_ones_5 : decode cX9_ones 5 = .ok (.bipush 12, 2) := by decide +kernel
theorem dX9_ones_7 : decode cX9_ones 7 = .ok (.if_icmp .ge 17, 3) := by decide +kernel
theorem dX9_ones_10 : decode cX9_ones 10 = .ok (.iload_n 1, 1) := by decide +kernel
theorem dX9_ones_11 : decode cX9_ones 11 = .ok (.iload_n 0, 1) := by decide +kernel
theorem dX9_ones_12 : decode cX9_ones 12 = .ok (.iload_n 2, 1) := by decide +kernel
theorem dX9_ones_13 : decode cX9_ones 13 = .ok (.ishr, 1) := by decide +kernel
theorem dX9_ones_14 : decode cX9_ones 14 = .ok (.iconst 1, 1) := by decide +kernel
theorem dX9_ones_15 : decode cX9_ones 15 = .ok (.iand, 1) := by decide +kernel
theorem dX9_ones_16 : decode cX9_ones 16 = .ok (.iadd, 1) := by decide +kernel
theorem dX9_ones_17 : decode cX9_ones 17 = .ok (.istore_n 1, 1) := by decide +kernel
theorem dX9_ones_18 : decode cX9_ones 18 = .ok (.iinc 2 1, 3) := by decide +kernel
theorem dX9_ones_21 : decode cX9_ones 21 = .ok (.goto (-17), 3) := by decide +kernel
theorem dX9_ones_24 : decode cX9_ones 24 = .ok (.iload_n 1, 1) := by decide +kernel
theorem dX9_ones_25 : decode cX9_ones 25 = .ok (.ireturn, 1) := by decide +kernel
theorem dX9_feed_0 : decode cX9_feed 0 = .ok (.iload_n 1, 1) := by decide +kernel
theorem dX9_feed_1 : decode cX9_feed 1 = .ok (.i2l, 1) := by decide +kernel
theorem dX9_feed_2 : decode cX9_feed 2 = .ok (.lconst 1, 1) := by decide +kernel
theorem dX9_feed_3 : decode cX9_feed 3 = .ok (.ldc2_w 93, 3) := by decide +kernel
theorem dX9_feed_6 : decode cX9_feed 6 = .ok (.invokestatic 95, 3) := by decide +kernel
theorem dX9_feed_9 : decode cX9_feed 9 = .ok (.ifCond .ne 6, 3) := by decide +kernel
theorem dX9_feed_12 : decode cX9_feed 12 = .ok (.ldc 99, 2) := by decide +kernel
theorem dX9_feed_14 : decode cX9_feed 14 = .ok (.ireturn, 1) := by decide +kernel
theorem dX9_feed_15 : decode cX9_feed 15 = .ok (.aload_n 0, 1) := by decide +kernel
theorem dX9_feed_16 : decode cX9_feed 16 = .ok (.getfield 100, 3) := by decide +kernel
theorem dX9_feed_19 : decode cX9_feed 19 = .ok (.iload_n 1, 1) := by decide +kernel
theorem dX9_feed_20 : decode cX9_feed 20 = .ok (.iadd, 1) := by decide +kernel
theorem dX9_feed_21 : decode cX9_feed 21 = .ok (.sipush 600, 3) := by decide +kernel
theorem dX9_feed_24 : decode cX9_feed 24 = .ok (.if_icmp .le 6, 3) := by decide +kernel
theorem dX9_feed_27 : decode cX9_feed 27 = .ok (.ldc 103, 2) := by decide +kernel
theorem dX9_feed_29 : decode cX9_feed 29 = .ok (.ireturn, 1) := by decide +kernel
theorem dX9_feed_30 : decode cX9_feed 30 = .ok (.iload_n 1, 1) := by decide +kernel
theorem dX9_feed_31 : decode cX9_feed 31 = .ok (.iconst 1, 1) := by decide +kernel
theorem dX9_feed_32 : decode cX9_feed 32 = .ok (.isub, 1) := by decide +kernel
theorem dX9_feed_33 : decode cX9_feed 33 = .ok (.istore 4, 2) := by decide +kernel
theorem dX9_feed_35 : decode cX9_feed 35 = .ok (.iload 4, 2) := by decide +kernel
theorem dX9_feed_37 : decode cX9_feed 37 = .ok (.ifCond .lt 40, 3) := by decide +kernel
theorem dX9_feed_40 : decode cX9_feed 40 = .ok (.aload_n 0, 1) := by decide +kernel
theorem dX9_feed_41 : decode cX9_feed 41 = .ok (.getfield 47, 3) := by decide +kernel
theorem dX9_feed_44 : decode cX9_feed 44 = .ok (.aload_n 0, 1) := by decide +kernel
theorem dX9_feed_45 : decode cX9_feed 45 = .ok (.getfield 100, 3) := by decide +kernel
theorem dX9_feed_48 : decode cX9_feed 48 = .ok (.lload_n 2, 1) := by decide +kernel
theorem dX9_feed_49 : decode cX9_feed 49 = .ok (.bipush 8, 2) := by decide +kernel
theorem dX9_feed_51 : decode cX9_feed 51 = .ok (.iload 4, 2) := by decide +kernel
theorem dX9_feed_53 : decode cX9_feed 53 = .ok (.imul, 1) := by decide +kernel
theorem dX9_feed_54 : decode cX9_feed 54 = .ok (.lshr, 1) := by decide +kernel
theorem dX9_feed_55 : decode cX9_feed 55 = .ok (.ldc2_w 104, 3) := by decide +kernel
theorem dX9_feed_58 : decode cX9_feed 58 = .ok (.land, 1) := by decide +kernel
theorem dX9_feed_59 : decode cX9_feed 59 = .ok (.l2i, 1) := by decide +kernel
theorem dX9_feed_60 : decode cX9_feed 60 = .ok (.iastore, 1) := by decide +kernel
theorem dX9_feed_61 : decode cX9_feed 61 = .ok (.aload_n 0, 1) := by decide +kernel
theorem dX9_feed_62 : decode cX9_feed 62 = .ok (.dup, 1) := by decide +kernel
theorem dX9_feed_63 : decode cX9_feed 63 = .ok (.getfield 100, 3) := by decide +kernel
theorem dX9_feed_66 : decode cX9_feed 66 = .ok (.iconst 1, 1) := by decide +kernel
theorem dX9_feed_67 : decode cX9_feed 67 = .ok (.iadd, 1) := by decide +kernel
theorem dX9_feed_68 : decode cX9_feed 68 = .ok (.putfield 100, 3) := by decide +kernel
theorem dX9_feed_71 : decode cX9_feed 71 = .ok (.iinc 4 (-1), 3) := by decide +kernel
theorem dX9_feed_74 : decode cX9_feed 74 = .ok (.goto (-39), 3) := by decide +kernel
theorem dX9_feed_77 : decode cX9_feed 77 = .ok (.aload_n 0, 1) := by decide +kernel
theorem dX9_feed_78 : decode cX9_feed 78 = .ok (.getfield 100, 3) := by decide +kernel
theorem dX9_feed_81 : decode cX9_feed 81 = .ok (.ireturn, 1) := by decide +kernel
theorem dX9_here_0 : decode cX9_here 0 = .ok (.aload_n 0, 1) := by decide +kernel
theorem dX9_here_1 : decode cX9_here 1 = .ok (.getfield 106, 3) := by decide +kernel
theorem dX9_here_4 : decode cX9_here 4 = .ok (.aload_n 0, 1) := by decide +kernel
theorem dX9_here_5 : decode cX9_here 5 = .ok (.getfield 100, 3) := by decide +kernel
theorem dX9_here_8 : decode cX9_here 8 = .ok (.if_icmp .ge 30, 3) := by decide +kernel
theorem dX9_here_11 : decode cX9_here 11 = .ok (.aload_n 0, 1) := by decide +kernel
theorem dX9_here_12 : decode cX9_here 12 = .ok (.getfield 47, 3) := by decide +kernel
theorem dX9_here_15 : decode cX9_here 15 = .ok (.aload_n 0, 1) := by decide +kernel
theorem dX9_here_16 : decode cX9_here 16 = .ok (.getfield 106, 3) := by decide +kernel
theorem dX9_here_19 : decode cX9_here 19 = .ok (.iaload, 1) := by decide +kernel
theorem dX9_here_20 : decode cX9_here 20 = .ok (.bipush 32, 2) := by decide +kernel
theorem dX9_here_22 : decode cX9_here 22 = .ok (.if_icmp .ne 16, 3) := by decide +kernel
theorem dX9_here_25 : decode cX9_here 25 = .ok (.aload_n 0, 1) := by decide +kernel
theorem dX9_here_26 : decode cX9_here 26 = .ok (.dup, 1) := by decide +kernel
theorem dX9_here_27 : decode cX9_here 27 = .ok (.getfield 106, 3) := by decide +kernel
theorem dX9_here_30 : decode cX9_here 30 = .ok (.iconst 1, 1) := by decide +kernel
theorem dX9_here_31 : decode cX9_here 31 = .ok (.iadd, 1) := by decide +kernel
theorem dX9_here_32 : decode cX9_here 32 = .ok (.putfield 106, 3) := by decide +kernel
theorem dX9_here_35 : decode cX9_here 35 = .ok (.goto (-35), 3) := by decide +kernel
theorem dX9_here_38 : decode cX9_here 38 = .ok (.aload_n 0, 1) := by decide +kernel
theorem dX9_here_39 : decode cX9_here 39 = .ok (.getfield 106, 3) := by decide +kernel
theorem dX9_here_42 : decode cX9_here 42 = .ok (.aload_n 0, 1) := by decide +kernel
theorem dX9_here_43 : decode cX9_here 43 = .ok (.getfield 100, 3) := by decide +kernel
theorem dX9_here_46 : decode cX9_here 46 = .ok (.if_icmp .ge 15, 3) := by decide +kernel
theorem dX9_here_49 : decode cX9_here 49 = .ok (.aload_n 0, 1) := by decide +kernel
theorem dX9_here_50 : decode cX9_here 50 = .ok (.getfield 47, 3) := by decide +kernel
theorem dX9_here_53 : decode cX9_here 53 = .ok (.aload_n 0, 1) := by decide +kernel
theorem dX9_here_54 : decode cX9_here 54 = .ok (.getfield 106, 3) := by decide +kernel
theorem dX9_here_57 : decode cX9_here 57 = .ok (.iaload, 1) := by decide +kernel
theorem dX9_here_58 : decode cX9_here 58 = .ok (.goto 4, 3) := by decide +kernel
theorem dX9_here_61 : decode cX9_here 61 = .ok (.iconst (-1), 1) := by decide +kernel
theorem dX9_here_62 : decode cX9_here 62 = .ok (.ireturn, 1) := by decide +kernel
theorem dX9_want_0 : decode cX9_want 0 = .ok (.iload_n 1, 1) := by decide +kernel
theorem dX9_want_1 : decode cX9_want 1 = .ok (.ifCond .ne 20, 3) := by decide +kernel
theorem dX9_want_4 : decode cX9_want 4 = .ok (.aload_n 0, 1) := by decide +kernel
theorem dX9_want_5 : decode cX9_want 5 = .ok (.getfield 109, 3) := by decide +kernel
theorem dX9_want_8 : decode cX9_want 8 = .ok (.ifCond .ne 13, 3) := by decide +kernel
theorem dX9_want_11 : decode cX9_want 11 = .ok (.aload_n 0, 1) := by decide +kernel
theorem dX9_want_12 : decode cX9_want 12 = .ok (.iload_n 2, 1) := by decide +kernel
theorem dX9_want_13 : decode cX9_want 13 = .ok (.putfield 109, 3) := by decide +kernel
theorem dX9_want_16 : decode cX9_want 16 = .ok (.aload_n 0, 1) := by decide +kernel
theorem dX9_want_17 : decode cX9_want 17 = .ok (.iload_n 3, 1) := by decide +kernel
theorem dX9_want_18 : decode cX9_want 18 = .ok (.putfield 50, 3) := by decide +kernel
theorem dX9_want_21 : decode cX9_want 21 = .ok (.aload_n 0, 1) := by decide +kernel
theorem dX9_want_22 : decode cX9_want 22 = .ok (.getfield 109, 3) := by decide +kernel
theorem dX9_want_25 : decode cX9_want 25 = .ok (.ifCond .ne 7, 3) := by decide +kernel
theorem dX9_want_28 : decode cX9_want 28 = .ok (.iconst 1, 1) := by decide +kernel
theorem dX9_want_29 : decode cX9_want 29 = .ok (.goto 4, 3) := by decide +kernel
theorem dX9_want_32 : decode cX9_want 32 = .ok (.iconst 0, 1) := by decide +kernel
theorem dX9_want_33 : decode cX9_want 33 = .ok (.ireturn, 1) := by decide +kernel
theorem dX9_takeWord_0 : decode cX9_takeWord 0 = .ok (.aload_n 0, 1) := by decide +kernel
theorem dX9_takeWord_1 : decode cX9_takeWord 1 = .ok (.invokevirtual 112, 3) := by decide +kernel
theorem dX9_takeWord_4 : decode cX9_takeWord 4 = .ok (.istore_n 1, 1) := by decide +kernel
theorem dX9_takeWord_5 : decode cX9_takeWord 5 = .ok (.aload_n 0, 1) := by decide +kernel
theorem dX9_takeWord_6 : decode cX9_takeWord 6 = .ok (.aload_n 0, 1) := by decide +kernel
theorem dX9_takeWord_7 : decode cX9_takeWord 7 = .ok (.getfield 106, 3) := by decide +kernel
theorem dX9_takeWord_10 : decode cX9_takeWord 10 = .ok (.putfield 116, 3) := by decide +kernel
theorem dX9_takeWord_13 : decode cX9_takeWord 13 = .ok (.aload_n 0, 1) := by decide +kernel
theorem dX9_takeWord_14 : decode cX9_takeWord 14 = .ok (.getfield 106, 3) := by decide +kernel
theorem dX9_takeWord_17 : decode cX9_takeWord 17 = .ok (.aload_n 0, 1) := by decide +kernel
theorem dX9_takeWord_18 : decode cX9_takeWord 18 = .ok (.getfield 100, 3) := by decide +kernel
theorem dX9_takeWord_21 : decode cX9_takeWord 21 = .ok (.if_icmp .ge 38, 3) := by decide +kernel
theorem dX9_takeWord_24 : decode cX9_takeWord 24 = .ok (.aload_n 0, 1) := by decide +kernel
theorem dX9_takeWord_25 : decode cX9_takeWord 25 = .ok (.getfield 47, 3) := by decide +kernel
theorem dX9_takeWord_28 : decode cX9_takeWord 28 = .ok (.aload_n 0, 1) := by decide +kernel
theorem dX9_takeWord_29 : decode cX9_takeWord 29 = .ok (.getfield 106, 3) := by decide +kernel
theorem dX9_takeWord_32 : decode cX9_takeWord 32 = .ok (.iaload, 1) := by decide +kernel
theorem dX9_takeWord_33 : decode cX9_takeWord 33 = .ok (.i2l, 1) := by decide +kernel
theorem dX9_takeWord_34 : decode cX9_takeWord 34 = .ok (.ldc2_w 119, 3) := by decide +kernel
theorem dX9_takeWord_37 : decode cX9_takeWord 37 = .ok (.ldc2_w 121, 3) := by decide +kernel
theorem dX9_takeWord_40 : decode cX9_takeWord 40 = .ok (.invokestatic 95, 3) := by decide +kernel
theorem dX9_takeWord_43 : decode cX9_takeWord 43 = .ok (.ifCond .eq 16, 3) := by decide +kernel
theorem dX9_takeWord_46 : decode cX9_takeWord 46 = .ok (.aload_n 0, 1) := by decide +kernel
theorem dX9_takeWord_47 : decode cX9_takeWord 47 = .ok (.dup, 1) := by decide +kernel
theorem dX9_takeWord_48 : decode cX9_takeWord 48 = .ok (.getfield 106, 3) := by decide +kernel
theorem dX9_takeWord_51 : decode cX9_takeWord 51 = .ok (.iconst 1, 1) := by decide +kernel
theorem dX9_takeWord_52 : decode cX9_takeWord 52 = .ok (.iadd, 1) := by decide +kernel
theorem dX9_takeWord_53 : decode cX9_takeWord 53 = .ok (.putfield 106, 3) := by decide +kernel
theorem dX9_takeWord_56 : decode cX9_takeWord 56 = .ok (.goto (-43), 3) := by decide +kernel
theorem dX9_takeWord_59 : decode cX9_takeWord 59 = .ok (.aload_n 0, 1) := by decide +kernel
theorem dX9_takeWord_60 : decode cX9_takeWord 60 = .ok (.aload_n 0, 1) := by decide +kernel
theorem dX9_takeWord_61 : decode cX9_takeWord 61 = .ok (.getfield 106, 3) := by decide +kernel
theorem dX9_takeWord_64 : decode cX9_takeWord 64 = .ok (.aload_n 0, 1) := by decide +kernel
theorem dX9_takeWord_65 : decode cX9_takeWord 65 = .ok (.getfield 116, 3) := by decide +kernel
theorem dX9_takeWord_68 : decode cX9_takeWord 68 = .ok (.isub, 1) := by decide +kernel
theorem dX9_takeWord_69 : decode cX9_takeWord 69 = .ok (.putfield 123, 3) := by decide +kernel
theorem dX9_takeWord_72 : decode cX9_takeWord 72 = .ok (.return_, 1) := by decide +kernel
theorem dX9_isWord_0 : decode cX9_isWord 0 = .ok (.aload_n 0, 1) := by decide +kernel
theorem dX9_isWord_1 : decode cX9_isWord 1 = .ok (.getfield 123, 3) := by decide +kernel
theorem dX9_isWord_4 : decode cX9_isWord 4 = .ok (.iload_n 1, 1) := by decide +kernel
theorem dX9_isWord_5 : decode cX9_isWord 5 = .ok (.if_icmp .ne 7, 3) := by decide +kernel
theorem dX9_isWord_8 : decode cX9_isWord 8 = .ok (.iconst 1, 1) := by decide +kernel
theorem dX9_isWord_9 : decode cX9_isWord 9 = .ok (.goto 4, 3) := by decide +kernel
theorem dX9_isWord_12 : decode cX9_isWord 12 = .ok (.iconst 0, 1) := by decide +kernel
theorem dX9_isWord_13 : decode cX9_isWord 13 = .ok (.istore 7, 2) := by decide +kernel
theorem dX9_isWord_15 : decode cX9_isWord 15 = .ok (.iconst 0, 1) := by decide +kernel
theorem dX9_isWord_16 : decode cX9_isWord 16 = .ok (.istore 8, 2) := by decide +kernel
theorem dX9_isWord_18 : decode cX9_isWord 18 = .ok (.iload 8, 2) := by decide +kernel
theorem dX9_isWord_20 : decode cX9_isWord 20 = .ok (.iload_n 1, 1) := by decide +kernel
theorem dX9_isWord_21 : decode cX9_isWord 21 = .ok (.if_icmp .ge 79, 3) := by decide +kernel
theorem dX9_isWord_24 : decode cX9_isWord 24 = .ok (.iload 7, 2) := by decide +kernel
theorem dX9_isWord_26 : decode cX9_isWord 26 = .ok (.ifCond .eq 74, 3) := by decide +kernel
theorem dX9_isWord_29 : decode cX9_isWord 29 = .ok (.aload_n 0, 1) := by decide +kernel
theorem dX9_isWord_30 : decode cX9_isWord 30 = .ok (.getfield 47, 3) := by decide +kernel
theorem dX9_isWord_33 : decode cX9_isWord 33 = .ok (.aload_n 0, 1) := by decide +kernel
theorem dX9_isWord_34 : decode cX9_isWord 34 = .ok (.getfield 116, 3) := by decide +kernel
theorem dX9_isWord_37 : decode cX9_isWord 37 = .ok (.iload 8, 2) := by decide +kernel
theorem dX9_isWord_39 : decode cX9_isWord 39 = .ok (.iadd, 1) := by decide +kernel
theorem dX9_isWord_40 : decode cX9_isWord 40 = .ok (.iaload, 1) := by decide +kernel
theorem dX9_isWord_41 : decode cX9_isWord 41 = .ok (.iload 8, 2) := by decide +kernel
theorem dX9_isWord_43 : decode cX9_isWord 43 = .ok (.ifCond .ne 7, 3) := by decide +kernel
theorem dX9_isWord_46 : decode cX9_isWord 46 = .ok (.iload_n 2, 1) := by decide +kernel
theorem dX9_isWord_47 : decode cX9_isWord 47 = .ok (.goto 37, 3) := by decide +kernel
theorem dX9_isWord_50 : decode cX9_isWord 50 = .ok (.iload 8, 2) := by decide +kernel
theorem dX9_isWord_52 : decode cX9_isWord 52 = .ok (.iconst 1, 1) := by decide +kernel
theorem dX9_isWord_53 : decode cX9_isWord 53 = .ok (.if_icmp .ne 7, 3) := by decide +kernel
theorem dX9_isWord_56 : decode cX9_isWord 56 = .ok (.iload_n 3, 1) := by decide +kernel
theorem dX9_isWord_57 : decode cX9_isWord 57 = .ok (.goto 27, 3) := by decide +kernel
theorem dX9_isWord_60 : decode cX9_isWord 60 = .ok (.iload 8, 2) := by decide +kernel
theorem dX9_isWord_62 : decode cX9_isWord 62 = .ok (.iconst 2, 1) := by decide +kernel
theorem dX9_isWord_63 : decode cX9_isWord 63 = .ok (.if_icmp .ne 8, 3) := by decide +kernel
theorem dX9_isWord_66 : decode cX9_isWord 66 = .ok (.iload 4, 2) := by decide +kernel
theorem dX9_isWord_68 : decode cX9_isWord 68 = .ok (.goto 16, 3) := by decide +kernel
theorem dX9_isWord_71 : decode cX9_isWord 71 = .ok (.iload 8, 2) := by decide +kernel
theorem dX9_isWord_73 : decode cX9_isWord 73 = .ok (.iconst 3, 1) := by decide +kernel
theorem dX9_isWord_74 : decode cX9_isWord 74 = .ok (.if_icmp .ne 8, 3) := by decide +kernel
theorem dX9_isWord_77 : decode cX9_isWord 77 = .ok (.iload 5, 2) := by decide +kernel
theorem dX9_isWord_79 : decode cX9_isWord 79 = .ok (.goto 5, 3) := by decide +kernel
theorem dX9_isWord_82 : decode cX9_isWord 82 = .ok (.iload 6, 2) := by decide +kernel
theorem dX9_isWord_84 : decode cX9_isWord 84 = .ok (.if_icmp .ne 7, 3) := by decide +kernel
theorem dX9_isWord_87 : decode cX9_isWord 87 = .ok (.iconst 1, 1) := by decide +kernel
theorem dX9_isWord_88 : decode cX9_isWord 88 = .ok (.goto 4, 3) := by decide +kernel
theorem dX9_isWord_91 : decode cX9_isWord 91 = .ok (.iconst 0, 1) := by decide +kernel
theorem dX9_isWord_92 : decode cX9_isWord 92 = .ok (.istore 7, 2) := by decide +kernel
theorem dX9_isWord_94 : decode cX9_isWord 94 = .ok (.iinc 8 1, 3) := by decide +kernel
theorem dX9_isWord_97 : decode cX9_isWord 97 = .ok (.goto (-79), 3) := by decide +kernel
theorem dX9_isWord_100 : decode cX9_isWord 100 = .ok (.iload 7, 2) := by decide +kernel
theorem dX9_isWord_102 : decode cX9_isWord 102 = .ok (.ireturn, 1) := by decide +kernel
theorem dX9_takeNumber_0 : decode cX9_takeNumber 0 = .ok (.aload_n 0, 1) := by decide +kernel
theorem dX9_takeNumber_1 : decode cX9_takeNumber 1 = .ok (.getfield 109, 3) := by decide +kernel
theorem dX9_takeNumber_4 : decode cX9_takeNumber 4 = .ok (.ifCond .le 5, 3) := by decide +kernel
theorem dX9_takeNumber_7 : decode cX9_takeNumber 7 = .ok (.iconst 0, 1) := by decide +kernel
theorem dX9_takeNumber_8 : decode cX9_takeNumber 8 = .ok (.ireturn, 1) := by decide +kernel
theorem dX9_takeNumber_9 : decode cX9_takeNumber 9 = .ok (.aload_n 0, 1) := by decide +kernel
theorem dX9_takeNumber_10 : decode cX9_takeNumber 10 = .ok (.invokevirtual 112, 3) := by decide +kernel
theorem dX9_takeNumber_13 : decode cX9_takeNumber 13 = .ok (.istore_n 3, 1) := by decide +kernel
theorem dX9_takeNumber_14 : decode cX9_takeNumber 14 = .ok (.aload_n 0, 1) := by decide +kernel
theorem dX9_takeNumber_15 : decode cX9_takeNumber 15 = .ok (.aload_n 0, 1) := by decide +kernel
theorem dX9_takeNumber_16 : decode cX9_takeNumber 16 = .ok (.getfield 106, 3) := by decide +kernel
theorem dX9_takeNumber_19 : decode cX9_takeNumber 19 = .ok (.putfield 116, 3) := by decide +kernel
theorem dX9_takeNumber_22 : decode cX9_takeNumber 22 = .ok (.aload_n 0, 1) := by decide +kernel
theorem dX9_takeNumber_23 : decode cX9_takeNumber 23 = .ok (.iload_n 3, 1) := by decide +kernel
theorem dX9_takeNumber_24 : decode cX9_takeNumber 24 = .ok (.i2l, 1) := by decide +kernel
theorem dX9_takeNumber_25 : decode cX9_takeNumber 25 = .ok (.ldc2_w 126, 3) := by decide +kernel
theorem dX9_takeNumber_28 : decode cX9_takeNumber 28 = .ok (.ldc2_w 128, 3) := by decide +kernel
theorem dX9_takeNumber_31 : decode cX9_takeNumber 31 = .ok (.invokestatic 95, 3) := by decide +kernel
theorem dX9_takeNumber_34 : decode cX9_takeNumber 34 = .ok (.iconst 1, 1) := by decide +kernel
theorem dX9_takeNumber_35 : decode cX9_takeNumber 35 = .ok (.aload_n 0, 1) := by decide +kernel
theorem dX9_takeNumber_36 : decode cX9_takeNumber 36 = .ok (.getfield 106, 3) := by decide +kernel
theorem dX9_takeNumber_39 : decode cX9_takeNumber 39 = .ok (.invokevirtual 130, 3) := by decide +kernel
theorem dX9_takeNumber_42 : decode cX9_takeNumber 42 = .ok (.ifCond .ne 5, 3) := by decide +kernel
theorem dX9_takeNumber_45 : decode cX9_takeNumber 45 = .ok (.iconst 0, 1) := by decide +kernel
theorem dX9_takeNumber_46 : decode cX9_takeNumber 46 = .ok (.ireturn, 1) := by decide +kernel
theorem dX9_takeNumber_47 : decode cX9_takeNumber 47 = .ok (.iconst 0, 1) := by decide +kernel
theorem dX9_takeNumber_48 : decode cX9_takeNumber 48 = .ok (.istore 4, 2) := by decide +kernel
theorem dX9_takeNumber_50 : decode cX9_takeNumber 50 = .ok (.aload_n 0, 1) := by decide +kernel
theorem dX9_takeNumber_51 : decode cX9_takeNumber 51 = .ok (.getfield 106, 3) := by decide +kernel
theorem dX9_takeNumber_54 : decode cX9_takeNumber 54 = .ok (.aload_n 0, 1) := by decide +kernel
theorem dX9_takeNumber_55 : decode cX9_takeNumber 55 = .ok (.getfield 100, 3) := by decide +kernel
theorem dX9_takeNumber_58 : decode cX9_takeNumber 58 = .ok (.if_icmp .ge 70, 3) := by decide +kernel
theorem dX9_takeNumber_61 : decode cX9_takeNumber 61 = .ok (.aload_n 0, 1) := by decide +kernel
theorem dX9_takeNumber_62 : decode cX9_takeNumber 62 = .ok (.getfield 47, 3) := by decide +kernel
theorem dX9_takeNumber_65 : decode cX9_takeNumber 65 = .ok (.aload_n 0, 1) := by decide +kernel
theorem dX9_takeNumber_66 : decode cX9_takeNumber 66 = .ok (.getfield 106, 3) := by decide +kernel
theorem dX9_takeNumber_69 : decode cX9_takeNumber 69 = .ok (.iaload, 1) := by decide +kernel
theorem dX9_takeNumber_70 : decode cX9_takeNumber 70 = .ok (.i2l, 1) := by decide +kernel
theorem dX9_takeNumber_71 : decode cX9_takeNumber 71 = .ok (.ldc2_w 126, 3) := by decide +kernel
theorem dX9_takeNumber_74 : decode cX9_takeNumber 74 = .ok (.ldc2_w 128, 3) := by decide +kernel
theorem dX9_takeNumber_77 : decode cX9_takeNumber 77 = .ok (.invokestatic 95, 3) := by decide +kernel
theorem dX9_takeNumber_80 : decode cX9_takeNumber 80 = .ok (.ifCond .eq 48, 3) := by decide +kernel
theorem dX9_takeNumber_83 : decode cX9_takeNumber 83 = .ok (.iload 4, 2) := by decide +kernel
theorem dX9_takeNumber_85 : decode cX9_takeNumber 85 = .ok (.ldc 134, 2) := by decide +kernel
theorem dX9_takeNumber_87 : decode cX9_takeNumber 87 = .ok (.if_icmp .le 8, 3) := by decide +kernel
theorem dX9_takeNumber_90 : decode cX9_takeNumber 90 = .ok (.iload 4, 2) := by decide +kernel
theorem dX9_takeNumber_92 : decode cX9_takeNumber 92 = .ok (.goto 21, 3) := by decide +kernel
theorem dX9_takeNumber_95 : decode cX9_takeNumber 95 = .ok (.bipush 10, 2) := by decide +kernel
theorem dX9_takeNumber_97 : decode cX9_takeNumber 97 = .ok (.iload 4, 2) := by decide +kernel
theorem dX9_takeNumber_99 : decode cX9_takeNumber 99 = .ok (.imul, 1) := by decide +kernel
theorem dX9_takeNumber_100 : decode cX9_takeNumber 100 = .ok (.aload_n 0, 1) := by decide +kernel
theorem dX9_takeNumber_101 : decode cX9_takeNumber 101 = .ok (.getfield 47, 3) := by decide +kernel
theorem dX9_takeNumber_104 : decode cX9_takeNumber 104 = .ok (.aload_n 0, 1) := by decide +kernel
theorem dX9_takeNumber_105 : decode cX9_takeNumber 105 = .ok (.getfield 106, 3) := by decide +kernel
theorem dX9_takeNumber_108 : decode cX9_takeNumber 108 = .ok (.iaload, 1) := by decide +kernel
theorem dX9_takeNumber_109 : decode cX9_takeNumber 109 = .ok (.iadd, 1) := by decide +kernel
theorem dX9_takeNumber_110 : decode cX9_takeNumber 110 = .ok (.bipush 48, 2) := by decide +kernel
theorem dX9_takeNumber_112 : decode cX9_takeNumber 112 = .ok (.isub, 1) := by decide +kernel
theorem dX9_takeNumber_113 : decode cX9_takeNumber 113 = .ok (.istore 4, 2) := by decide +kernel
theorem dX9_takeNumber_115 : decode cX9_takeNumber 115 = .ok (.aload_n 0, 1) := by decide +kernel
theorem dX9_takeNumber_116 : decode cX9_takeNumber 116 = .ok (.dup, 1) := by decide +kernel
theorem dX9_takeNumber_117 : decode cX9_takeNumber 117 = .ok (.getfield 106, 3) := by decide +kernel
theorem dX9_takeNumber_120 : decode cX9_takeNumber 120 = .ok (.iconst 1, 1) := by decide +kernel
theorem dX9_takeNumber_121 : decode cX9_takeNumber 121 = .ok (.iadd, 1) := by decide +kernel
theorem dX9_takeNumber_122 : decode cX9_takeNumber 122 = .ok (.putfield 106, 3) := by decide +kernel
theorem dX9_takeNumber_125 : decode cX9_takeNumber 125 = .ok (.goto (-75), 3) := by decide +kernel
theorem dX9_takeNumber_128 : decode cX9_takeNumber 128 = .ok (.aload_n 0, 1) := by decide +kernel
theorem dX9_takeNumber_129 : decode cX9_takeNumber 129 = .ok (.aload_n 0, 1) := by decide +kernel
theorem dX9_takeNumber_130 : decode cX9_takeNumber 130 = .ok (.getfield 106, 3) := by decide +kernel
theorem dX9_takeNumber_133 : decode cX9_takeNumber 133 = .ok (.aload_n 0, 1) := by decide +kernel
theorem dX9_takeNumber_134 : decode cX9_takeNumber 134 = .ok (.getfield 116, 3) := by decide +kernel
theorem dX9_takeNumber_137 : decode cX9_takeNumber 137 = .ok (.isub, 1) := by decide +kernel
theorem dX9_takeNumber_138 : decode cX9_takeNumber 138 = .ok (.iconst 4, 1) := by decide +kernel
theorem dX9_takeNumber_139 : decode cX9_takeNumber 139 = .ok (.if_icmp .ge 20, 3) := by decide +kernel
theorem dX9_takeNumber_142 : decode cX9_takeNumber 142 = .ok (.iload 4, 2) := by decide +kernel
theorem dX9_takeNumber_144 : decode cX9_takeNumber 144 = .ok (.i2l, 1) := by decide +kernel
theorem dX9_takeNumber_145 : decode cX9_takeNumber 145 = .ok (.iload_n 1, 1) := by decide +kernel
theorem dX9_takeNumber_146 : decode cX9_takeNumber 146 = .ok (.i2l, 1) := by decide +kernel
theorem dX9_takeNumber_147 : decode cX9_takeNumber 147 = .ok (.iload_n 2, 1) := by decide +kernel
theorem dX9_takeNumber_148 : decode cX9_takeNumber 148 = .ok (.i2l, 1) := by decide +kernel
theorem dX9_takeNumber_149 : decode cX9_takeNumber 149 = .ok (.invokestatic 95, 3) := by decide +kernel
theorem dX9_takeNumber_152 : decode cX9_takeNumber 152 = .ok (.ifCond .eq 7, 3) := by decide +kernel
theorem dX9_takeNumber_155 : decode cX9_takeNumber 155 = .ok (.iconst 1, 1) := by decide +kernel
theorem dX9_takeNumber_156 : decode cX9_takeNumber 156 = .ok (.goto 4, 3) := by decide +kernel
theorem dX9_takeNumber_159 : decode cX9_takeNumber 159 = .ok (.iconst 0, 1) := by decide +kernel
theorem dX9_takeNumber_160 : decode cX9_takeNumber 160 = .ok (.iconst 2, 1) := by decide +kernel
theorem dX9_takeNumber_161 : decode cX9_takeNumber 161 = .ok (.aload_n 0, 1) := by decide +kernel
theorem dX9_takeNumber_162 : decode cX9_takeNumber 162 = .ok (.getfield 116, 3) := by decide +kernel
theorem dX9_takeNumber_165 : decode cX9_takeNumber 165 = .ok (.invokevirtual 130, 3) := by decide +kernel
theorem dX9_takeNumber_168 : decode cX9_takeNumber 168 = .ok (.istore 5, 2) := by decide +kernel
theorem dX9_takeNumber_170 : decode cX9_takeNumber 170 = .ok (.iload 4, 2) := by decide +kernel
theorem dX9_takeNumber_172 : decode cX9_takeNumber 172 = .ok (.ireturn, 1) := by decide +kernel
theorem dX9_takeEnd_0 : decode cX9_takeEnd 0 = .ok (.aload_n 0, 1) := by decide +kernel
theorem dX9_takeEnd_1 : decode cX9_takeEnd 1 = .ok (.getfield 109, 3) := by decide +kernel
theorem dX9_takeEnd_4 : decode cX9_takeEnd 4 = .ok (.ifCond .ne 39, 3) := by decide +kernel
theorem dX9_takeEnd_7 : decode cX9_takeEnd 7 = .ok (.aload_n 0, 1) := by decide +kernel
theorem dX9_takeEnd_8 : decode cX9_takeEnd 8 = .ok (.aload_n 0, 1) := by decide +kernel
theorem dX9_takeEnd_9 : decode cX9_takeEnd 9 = .ok (.invokevirtual 112, 3) := by decide +kernel
theorem dX9_takeEnd_12 : decode cX9_takeEnd 12 = .ok (.bipush 59, 2) := by decide +kernel
theorem dX9_takeEnd_14 : decode cX9_takeEnd 14 = .ok (.if_icmp .ne 7, 3) := by decide +kernel
theorem dX9_takeEnd_17 : decode cX9_takeEnd 17 = .ok (.iconst 1, 1) := by decide +kernel
theorem dX9_takeEnd_18 : decode cX9_takeEnd 18 = .ok (.goto 4, 3) := by decide +kernel
theorem dX9_takeEnd_21 : decode cX9_takeEnd 21 = .ok (.iconst 0, 1) := by decide +kernel
theorem dX9_takeEnd_22 : decode cX9_takeEnd 22 = .ok (.iconst 1, 1) := by decide +kernel
theorem dX9_takeEnd_23 : decode cX9_takeEnd 23 = .ok (.aload_n 0, 1) := by decide +kernel
theorem dX9_takeEnd_24 : decode cX9_takeEnd 24 = .ok (.getfield 106, 3) := by decide +kernel
theorem dX9_takeEnd_27 : decode cX9_takeEnd 27 = .ok (.invokevirtual 130, 3) := by decide +kernel
theorem dX9_takeEnd_30 : decode cX9_takeEnd 30 = .ok (.ifCond .eq 13, 3) := by decide +kernel
theorem dX9_takeEnd_33 : decode cX9_takeEnd 33 = .ok (.aload_n 0, 1) := by decide +kernel
theorem dX9_takeEnd_34 : decode cX9_takeEnd 34 = .ok (.dup, 1) := by decide +kernel
theorem dX9_takeEnd_35 : decode cX9_takeEnd 35 = .ok (.getfield 106, 3) := by decide +kernel
theorem dX9_takeEnd_38 : decode cX9_takeEnd 38 = .ok (.iconst 1, 1) := by decide +kernel
theorem dX9_takeEnd_39 : decode cX9_takeEnd 39 = .ok (.iadd, 1) := by decide +kernel
theorem dX9_takeEnd_40 : decode cX9_takeEnd 40 = .ok (.putfield 106, 3) := by decide +kernel
theorem dX9_takeEnd_43 : decode cX9_takeEnd 43 = .ok (.return_, 1) := by decide +kernel
theorem dX9_beginReading_0 : decode cX9_beginReading 0 = .ok (.aload_n 0, 1) := by decide +kernel
theorem dX9_beginReading_1 : decode cX9_beginReading 1 = .ok (.iconst 0, 1) := by decide +kernel
theorem dX9_beginReading_2 : decode cX9_beginReading 2 = .ok (.putfield 106, 3) := by decide +kernel
theorem dX9_beginReading_5 : decode cX9_beginReading 5 = .ok (.aload_n 0, 1) := by decide +kernel
theorem dX9_beginReading_6 : decode cX9_beginReading 6 = .ok (.iconst 0, 1) := by decide +kernel
theorem dX9_beginReading_7 : decode cX9_beginReading 7 = .ok (.putfield 109, 3) := by decide +kernel
theorem dX9_beginReading_10 : decode cX9_beginReading 10 = .ok (.aload_n 0, 1) := by decide +kernel
theorem dX9_beginReading_11 : decode cX9_beginReading 11 = .ok (.iconst (-1), 1) := by decide +kernel
theorem dX9_beginReading_12 : decode cX9_beginReading 12 = .ok (.putfield 50, 3) := by decide +kernel
theorem dX9_beginReading_15 : decode cX9_beginReading 15 = .ok (.return_, 1) := by decide +kernel
theorem dX9_takeHouse_0 : decode cX9_takeHouse 0 = .ok (.aload_n 0, 1) := by decide +kernel
theorem dX9_takeHouse_1 : decode cX9_takeHouse 1 = .ok (.getfield 35, 3) := by decide +kernel
theorem dX9_takeHouse_4 : decode cX9_takeHouse 4 = .ok (.iconst 2, 1) := by decide +kernel
theorem dX9_takeHouse_5 : decode cX9_takeHouse 5 = .ok (.iaload, 1) := by decide +kernel
theorem dX9_takeHouse_6 : decode cX9_takeHouse 6 = .ok (.istore_n 2, 1) := by decide +kernel
theorem dX9_takeHouse_7 : decode cX9_takeHouse 7 = .ok (.aload_n 0, 1) := by decide +kernel
theorem dX9_takeHouse_8 : decode cX9_takeHouse 8 = .ok (.iload_n 2, 1) := by decide +kernel
theorem dX9_takeHouse_9 : decode cX9_takeHouse 9 = .ok (.bipush 9, 2) := by decide +kernel
theorem dX9_takeHouse_11 : decode cX9_takeHouse 11 = .ok (.if_icmp .ge 7, 3) := by decide +kernel
theorem dX9_takeHouse_14 : decode cX9_takeHouse 14 = .ok (.iconst 1, 1) := by decide +kernel
theorem dX9_takeHouse_15 : decode cX9_takeHouse 15 = .ok (.goto 4, 3) := by decide +kernel
theorem dX9_takeHouse_18 : decode cX9_takeHouse 18 = .ok (.iconst 0, 1) := by decide +kernel
theorem dX9_takeHouse_19 : decode cX9_takeHouse 19 = .ok (.iconst 3, 1) := by decide +kernel
theorem dX9_takeHouse_20 : decode cX9_takeHouse 20 = .ok (.iload_n 1, 1) := by decide +kernel
theorem dX9_takeHouse_21 : decode cX9_takeHouse 21 = .ok (.invokevirtual 130, 3) := by decide +kernel
theorem dX9_takeHouse_24 : decode cX9_takeHouse 24 = .ok (.ifCond .eq 57, 3) := by decide +kernel
theorem dX9_takeHouse_27 : decode cX9_takeHouse 27 = .ok (.iconst 0, 1) := by decide +kernel
theorem dX9_takeHouse_28 : decode cX9_takeHouse 28 = .ok (.istore_n 3, 1) := by decide +kernel
theorem dX9_takeHouse_29 : decode cX9_takeHouse 29 = .ok (.iload_n 3, 1) := by decide +kernel
theorem dX9_takeHouse_30 : decode cX9_takeHouse 30 = .ok (.bipush 6, 2) := by decide +kernel
theorem dX9_takeHouse_32 : decode cX9_takeHouse 32 = .ok (.if_icmp .ge 40, 3) := by decide +kernel
theorem dX9_takeHouse_35 : decode cX9_takeHouse 35 = .ok (.aload_n 0, 1) := by decide +kernel
theorem dX9_takeHouse_36 : decode cX9_takeHouse 36 = .ok (.getfield 17, 3) := by decide +kernel
theorem dX9_takeHouse_39 : decode cX9_takeHouse 39 = .ok (.bipush 54, 2) := by decide +kernel
theorem dX9_takeHouse_41 : decode cX9_takeHouse 41 = .ok (.bipush 6, 2) := by decide +kernel
theorem dX9_takeHouse_43 : decode cX9_takeHouse 43 = .ok (.iload_n 2, 1) := by decide +kernel
theorem dX9_takeHouse_44 : decode cX9_takeHouse 44 = .ok (.imul, 1) := by decide +kernel
theorem dX9_takeHouse_45 : decode cX9_takeHouse 45 = .ok (.iadd, 1) := by decide +kernel
theorem dX9_takeHouse_46 : decode cX9_takeHouse 46 = .ok (.iload_n 3, 1) := by decide +kernel
theorem dX9_takeHouse_47 : decode cX9_takeHouse 47 = .ok (.iadd, 1) := by decide +kernel
theorem dX9_takeHouse_48 : decode cX9_takeHouse 48 = .ok (.aload_n 0, 1) := by decide +kernel
theorem dX9_takeHouse_49 : decode cX9_takeHouse 49 = .ok (.iconst 0, 1) := by decide +kernel
theorem dX9_takeHouse_50 : decode cX9_takeHouse 50 = .ok (.iload_n 3, 1) := by decide +kernel
theorem dX9_takeHouse_51 : decode cX9_takeHouse 51 = .ok (.iconst 2, 1) := by decide +kernel
theorem dX9_takeHouse_52 : decode cX9_takeHouse 52 = .ok (.if_icmp .ge 8, 3) := by decide +kernel
theorem dX9_takeHouse_55 : decode cX9_takeHouse 55 = .ok (.bipush 60, 2) := by decide +kernel
theorem dX9_takeHouse_57 : decode cX9_takeHouse 57 = .ok (.goto 5, 3) := by decide +kernel
theorem dX9_takeHouse_60 : decode cX9_takeHouse 60 = .ok (.bipush 100, 2) := by decide +kernel
theorem dX9_takeHouse_62 : decode cX9_takeHouse 62 = .ok (.invokevirtual 135, 3) := by decide +kernel
theorem dX9_takeHouse_65 : decode cX9_takeHouse 65 = .ok (.iastore, 1) := by decide +kernel
theorem dX9_takeHouse_66 : decode cX9_takeHouse 66 = .ok (.iinc 3 1, 3) := by decide +kernel
theorem dX9_takeHouse_69 : decode cX9_takeHouse 69 = .ok (.goto (-40), 3) := by decide +kernel
theorem dX9_takeHouse_72 : decode cX9_takeHouse 72 = .ok (.aload_n 0, 1) := by decide +kernel
theorem dX9_takeHouse_73 : decode cX9_takeHouse 73 = .ok (.getfield 35, 3) := by decide +kernel
theorem dX9_takeHouse_76 : decode cX9_takeHouse 76 = .ok (.iconst 2, 1) := by decide +kernel
theorem dX9_takeHouse_77 : decode cX9_takeHouse 77 = .ok (.iload_n 2, 1) := by decide +kernel
theorem dX9_takeHouse_78 : decode cX9_takeHouse 78 = .ok (.iconst 1, 1) := by decide +kernel
theorem dX9_takeHouse_79 : decode cX9_takeHouse 79 = .ok (.iadd, 1) := by decide +kernel
theorem dX9_takeHouse_80 : decode cX9_takeHouse 80 = .ok (.iastore, 1) := by decide +kernel
theorem dX9_takeHouse_81 : decode cX9_takeHouse 81 = .ok (.return_, 1) := by decide +kernel
theorem dX9_takeWay_0 : decode cX9_takeWay 0 = .ok (.aload_n 0, 1) := by decide +kernel
theorem dX9_takeWay_1 : decode cX9_takeWay 1 = .ok (.iconst 0, 1) := by decide +kernel
theorem dX9_takeWay_2 : decode cX9_takeWay 2 = .ok (.aload_n 0, 1) := by decide +kernel
theorem dX9_takeWay_3 : decode cX9_takeWay 3 = .ok (.getfield 35, 3) := by decide +kernel
theorem dX9_takeWay_6 : decode cX9_takeWay 6 = .ok (.iconst 2, 1) := by decide +kernel
theorem dX9_takeWay_7 : decode cX9_takeWay 7 = .ok (.iaload, 1) := by decide +kernel
theorem dX9_takeWay_8 : decode cX9_takeWay 8 = .ok (.iconst 1, 1) := by decide +kernel
theorem dX9_takeWay_9 : decode cX9_takeWay 9 = .ok (.isub, 1) := by decide +kernel
theorem dX9_takeWay_10 : decode cX9_takeWay 10 = .ok (.invokevirtual 135, 3) := by decide +kernel
theorem dX9_takeWay_13 : decode cX9_takeWay 13 = .ok (.istore_n 1, 1) := by decide +kernel
theorem dX9_takeWay_14 : decode cX9_takeWay 14 = .ok (.aload_n 0, 1) := by decide +kernel
theorem dX9_takeWay_15 : decode cX9_takeWay 15 = .ok (.iconst 0, 1) := by decide +kernel
theorem dX9_takeWay_16 : decode cX9_takeWay 16 = .ok (.aload_n 0, 1) := by decide +kernel
theorem dX9_takeWay_17 : decode cX9_takeWay 17 = .ok (.getfield 35, 3) := by decide +kernel
theorem dX9_takeWay_20 : decode cX9_takeWay 20 = .ok (.iconst 2, 1) := by decide +kernel
theorem dX9_takeWay_21 : decode cX9_takeWay 21 = .ok (.iaload, 1) := by decide +kernel
theorem dX9_takeWay_22 : decode cX9_takeWay 22 = .ok (.iconst 1, 1) := by decide +kernel
theorem dX9_takeWay_23 : decode cX9_takeWay 23 = .ok (.isub, 1) := by decide +kernel
theorem dX9_takeWay_24 : decode cX9_takeWay 24 = .ok (.invokevirtual 135, 3) := by decide +kernel
theorem dX9_takeWay_27 : decode cX9_takeWay 27 = .ok (.istore_n 2, 1) := by decide +kernel
theorem dX9_takeWay_28 : decode cX9_takeWay 28 = .ok (.aload_n 0, 1) := by decide +kernel
theorem dX9_takeWay_29 : decode cX9_takeWay 29 = .ok (.getfield 109, 3) := by decide +kernel
theorem dX9_takeWay_32 : decode cX9_takeWay 32 = .ok (.ifCond .ne 80, 3) := by decide +kernel
theorem dX9_takeWay_35 : decode cX9_takeWay 35 = .ok (.aload_n 0, 1) := by decide +kernel
theorem dX9_takeWay_36 : decode cX9_takeWay 36 = .ok (.iload_n 1, 1) := by decide +kernel
theorem dX9_takeWay_37 : decode cX9_takeWay 37 = .ok (.iload_n 2, 1) := by decide +kernel
theorem dX9_takeWay_38 : decode cX9_takeWay 38 = .ok (.if_icmp .eq 24, 3) := by decide +kernel
theorem dX9_takeWay_41 : decode cX9_takeWay 41 = .ok (.aload_n 0, 1) := by decide +kernel
theorem dX9_takeWay_42 : decode cX9_takeWay 42 = .ok (.getfield 20, 3) := by decide +kernel
theorem dX9_takeWay_45 : decode cX9_takeWay 45 = .ok (.bipush 81, 2) := by decide +kernel
theorem dX9_takeWay_47 : decode cX9_takeWay 47 = .ok (.bipush 9, 2) := by decide +kernel
theorem dX9_takeWay_49 : decode cX9_takeWay 49 = .ok (.iload_n 1, 1) := by decide +kernel
theorem dX9_takeWay_50 : decode cX9_takeWay 50 = .ok (.imul, 1) := by decide +kernel
theorem dX9_takeWay_51 : decode cX9_takeWay 51 = .ok (.iadd, 1) := by decide +kernel
theorem dX9_takeWay_52 : decode cX9_takeWay 52 = .ok (.iload_n 2, 1) := by decide +kernel
theorem dX9_takeWay_53 : decode cX9_takeWay 53 = .ok (.iadd, 1) := by decide +kernel
theorem dX9_takeWay_54 : decode cX9_takeWay 54 = .ok (.iaload, 1) := by decide +kernel
theorem dX9_takeWay_55 : decode cX9_takeWay 55 = .ok (.ifCond .ne 7, 3) := by decide +kernel
theorem dX9_takeWay_58 : decode cX9_takeWay 58 = .ok (.iconst 1, 1) := by decide +kernel
theorem dX9_takeWay_59 : decode cX9_takeWay 59 = .ok (.goto 4, 3) := by decide +kernel
theorem dX9_takeWay_62 : decode cX9_takeWay 62 = .ok (.iconst 0, 1) := by decide +kernel
theorem dX9_takeWay_63 : decode cX9_takeWay 63 = .ok (.iconst 4, 1) := by decide +kernel
theorem dX9_takeWay_64 : decode cX9_takeWay 64 = .ok (.aload_n 0, 1) := by decide +kernel
theorem dX9_takeWay_65 : decode cX9_takeWay 65 = .ok (.getfield 116, 3) := by decide +kernel
theorem dX9_takeWay_68 : decode cX9_takeWay 68 = .ok (.invokevirtual 130, 3) := by decide +kernel
theorem dX9_takeWay_71 : decode cX9_takeWay 71 = .ok (.ifCond .eq 41, 3) := by decide +kernel
theorem dX9_takeWay_74 : decode cX9_takeWay 74 = .ok (.aload_n 0, 1) := by decide +kernel
theorem dX9_takeWay_75 : decode cX9_takeWay 75 = .ok (.iconst 1, 1) := by decide +kernel
theorem dX9_takeWay_76 : decode cX9_takeWay 76 = .ok (.bipush 99, 2) := by decide +kernel
theorem dX9_takeWay_78 : decode cX9_takeWay 78 = .ok (.invokevirtual 135, 3) := by decide +kernel
theorem dX9_takeWay_81 : decode cX9_takeWay 81 = .ok (.istore_n 3, 1) := by decide +kernel
theorem dX9_takeWay_82 : decode cX9_takeWay 82 = .ok (.aload_n 0, 1) := by decide +kernel
theorem dX9_takeWay_83 : decode cX9_takeWay 83 = .ok (.getfield 20, 3) := by decide +kernel
theorem dX9_takeWay_86 : decode cX9_takeWay 86 = .ok (.bipush 81, 2) := by decide +kernel
theorem dX9_takeWay_88 : decode cX9_takeWay 88 = .ok (.bipush 9, 2) := by decide +kernel
theorem dX9_takeWay_90 : decode cX9_takeWay 90 = .ok (.iload_n 1, 1) := by decide +kernel
theorem dX9_takeWay_91 : decode cX9_takeWay 91 = .ok (.imul, 1) := by decide +kernel
theorem dX9_takeWay_92 : decode cX9_takeWay 92 = .ok (.iadd, 1) := by decide +kernel
theorem dX9_takeWay_93 : decode cX9_takeWay 93 = .ok (.iload_n 2, 1) := by decide +kernel
theorem dX9_takeWay_94 : decode cX9_takeWay 94 = .ok (.iadd, 1) := by decide +kernel
theorem dX9_takeWay_95 : decode cX9_takeWay 95 = .ok (.iload_n 3, 1) := by decide +kernel
theorem dX9_takeWay_96 : decode cX9_takeWay 96 = .ok (.iastore, 1) := by decide +kernel
theorem dX9_takeWay_97 : decode cX9_takeWay 97 = .ok (.aload_n 0, 1) := by decide +kernel
theorem dX9_takeWay_98 : decode cX9_takeWay 98 = .ok (.getfield 20, 3) := by decide +kernel
theorem dX9_takeWay_101 : decode cX9_takeWay 101 = .ok (.bipush 81, 2) := by decide +kernel
theorem dX9_takeWay_103 : decode cX9_takeWay 103 = .ok (.bipush 9, 2) := by decide +kernel
theorem dX9_takeWay_105 : decode cX9_takeWay 105 = .ok (.iload_n 2, 1) := by decide +kernel
theorem dX9_takeWay_106 : decode cX9_takeWay 106 = .ok (.imul, 1) := by decide +kernel
theorem dX9_takeWay_107 : decode cX9_takeWay 107 = .ok (.iadd, 1) := by decide +kernel
theorem dX9_takeWay_108 : decode cX9_takeWay 108 = .ok (.iload_n 1, 1) := by decide +kernel
theorem dX9_takeWay_109 : decode cX9_takeWay 109 = .ok (.iadd, 1) := by decide +kernel
theorem dX9_takeWay_110 : decode cX9_takeWay 110 = .ok (.iload_n 3, 1) := by decide +kernel
theorem dX9_takeWay_111 : decode cX9_takeWay 111 = .ok (.iastore, 1) := by decide +kernel
theorem dX9_takeWay_112 : decode cX9_takeWay 112 = .ok (.return_, 1) := by decide +kernel
theorem dX9_takePart_0 : decode cX9_takePart 0 = .ok (.aload_n 0, 1) := by decide +kernel
theorem dX9_takePart_1 : decode cX9_takePart 1 = .ok (.getfield 35, 3) := by decide +kernel
theorem dX9_takePart_4 : decode cX9_takePart 4 = .ok (.iconst 3, 1) := by decide +kernel
theorem dX9_takePart_5 : decode cX9_takePart 5 = .ok (.iaload, 1) := by decide +kernel
theorem dX9_takePart_6 : decode cX9_takePart 6 = .ok (.istore_n 2, 1) := by decide +kernel
theorem dX9_takePart_7 : decode cX9_takePart 7 = .ok (.aload_n 0, 1) := by decide +kernel
theorem dX9_takePart_8 : decode cX9_takePart 8 = .ok (.iload_n 2, 1) := by decide +kernel
theorem dX9_takePart_9 : decode cX9_takePart 9 = .ok (.bipush 12, 2) := by decide +kernel
theorem dX9_takePart_11 : decode cX9_takePart 11 = .ok (.if_icmp .ge 7, 3) := by decide +kernel
theorem dX9_takePart_14 : decode cX9_takePart 14 = .ok (.iconst 1, 1) := by decide +kernel
theorem dX9_takePart_15 : decode cX9_takePart 15 = .ok (.goto 4, 3) := by decide +kernel
theorem dX9_takePart_18 : decode cX9_takePart 18 = .ok (.iconst 0, 1) := by decide +kernel
theorem dX9_takePart_19 : decode cX9_takePart 19 = .ok (.iconst 3, 1) := by decide +kernel
theorem dX9_takePart_20 : decode cX9_takePart 20 = .ok (.iload_n 1, 1) := by decide +kernel
theorem dX9_takePart_21 : decode cX9_takePart 21 = .ok (.invokevirtual 130, 3) := by decide +kernel
theorem dX9_takePart_24 : decode cX9_takePart 24 = .ok (.ifCond .eq 231, 3) := by decide +kernel
theorem dX9_takePart_27 : decode cX9_takePart 27 = .ok (.aload_n 0, 1) := by decide +kernel
theorem dX9_takePart_28 : decode cX9_takePart 28 = .ok (.getfield 23, 3) := by decide +kernel
theorem dX9_takePart_31 : decode cX9_takePart 31 = .ok (.bipush 12, 2) := by decide +kernel
theorem dX9_takePart_33 : decode cX9_takePart 33 = .ok (.iload_n 2, 1) := by decide +kernel
theorem dX9_takePart_34 : decode cX9_takePart 34 = .ok (.iadd, 1) := by decide +kernel
theorem dX9_takePart_35 : decode cX9_takePart 35 = .ok (.aload_n 0, 1) := by decide +kernel
theorem dX9_takePart_36 : decode cX9_takePart 36 = .ok (.iconst 0, 1) := by decide +kernel
theorem dX9_takePart_37 : decode cX9_takePart 37 = .ok (.aload_n 0, 1) := by decide +kernel
theorem dX9_takePart_38 : decode cX9_takePart 38 = .ok (.getfield 35, 3) := by decide +kernel
theorem dX9_takePart_41 : decode cX9_takePart 41 = .ok (.iconst 2, 1) := by decide +kernel
theorem dX9_takePart_42 : decode cX9_takePart 42 = .ok (.iaload, 1) := by decide +kernel
theorem dX9_takePart_43 : decode cX9_takePart 43 = .ok (.iconst 1, 1) := by decide +kernel
theorem dX9_takePart_44 : decode cX9_takePart 44 = .ok (.isub, 1) := by decide +kernel
theorem dX9_takePart_45 : decode cX9_takePart 45 = .ok (.invokevirtual 135, 3) := by decide +kernel
theorem dX9_takePart_48 : decode cX9_takePart 48 = .ok (.iastore, 1) := by decide +kernel
theorem dX9_takePart_49 : decode cX9_takePart 49 = .ok (.aload_n 0, 1) := by decide +kernel
theorem dX9_takePart_50 : decode cX9_takePart 50 = .ok (.getfield 26, 3) := by decide +kernel
theorem dX9_takePart_53 : decode cX9_takePart 53 = .ok (.bipush 12, 2) := by decide +kernel
theorem dX9_takePart_55 : decode cX9_takePart 55 = .ok (.iload_n 2, 1) := by decide +kernel
theorem dX9_takePart_56 : decode cX9_takePart 56 = .ok (.iadd, 1) := by decide +kernel
theorem dX9_takePart_57 : decode cX9_takePart 57 = .ok (.aload_n 0, 1) := by decide +kernel
theorem dX9_takePart_58 : decode cX9_takePart 58 = .ok (.iconst 0, 1) := by decide +kernel
theorem dX9_takePart_59 : decode cX9_takePart 59 = .ok (.bipush 60, 2) := by decide +kernel
theorem dX9_takePart_61 : decode cX9_takePart 61 = .ok (.invokevirtual 135, 3) := by decide +kernel
theorem dX9_takePart_64 : decode cX9_takePart 64 = .ok (.iastore, 1) := by decide +kernel
theorem dX9_takePart_65 : decode cX9_takePart 65 = .ok (.aload_n 0, 1) := by decide +kernel
theorem dX9_takePart_66 : decode cX9_takePart 66 = .ok (.getfield 29, 3) := by decide +kernel
theorem dX9_takePart_69 : decode cX9_takePart 69 = .ok (.bipush 12, 2) := by decide +kernel
theorem dX9_takePart_71 : decode cX9_takePart 71 = .ok (.iload_n 2, 1) := by decide +kernel
theorem dX9_takePart_72 : decode cX9_takePart 72 = .ok (.iadd, 1) := by decide +kernel
theorem dX9_takePart_73 : decode cX9_takePart 73 = .ok (.aload_n 0, 1) := by decide +kernel
theorem dX9_takePart_74 : decode cX9_takePart 74 = .ok (.iconst 0, 1) := by decide +kernel
theorem dX9_takePart_75 : decode cX9_takePart 75 = .ok (.bipush 99, 2) := by decide +kernel
theorem dX9_takePart_77 : decode cX9_takePart 77 = .ok (.invokevirtual 135, 3) := by decide +kernel
theorem dX9_takePart_80 : decode cX9_takePart 80 = .ok (.iastore, 1) := by decide +kernel
theorem dX9_takePart_81 : decode cX9_takePart 81 = .ok (.aload_n 0, 1) := by decide +kernel
theorem dX9_takePart_82 : decode cX9_takePart 82 = .ok (.getfield 32, 3) := by decide +kernel
theorem dX9_takePart_85 : decode cX9_takePart 85 = .ok (.bipush 12, 2) := by decide +kernel
theorem dX9_takePart_87 : decode cX9_takePart 87 = .ok (.iload_n 2, 1) := by decide +kernel
theorem dX9_takePart_88 : decode cX9_takePart 88 = .ok (.iadd, 1) := by decide +kernel
theorem dX9_takePart_89 : decode cX9_takePart 89 = .ok (.iconst 0, 1) := by decide +kernel
theorem dX9_takePart_90 : decode cX9_takePart 90 = .ok (.iastore, 1) := by decide +kernel
theorem dX9_takePart_91 : decode cX9_takePart 91 = .ok (.aload_n 0, 1) := by decide +kernel
theorem dX9_takePart_92 : decode cX9_takePart 92 = .ok (.getfield 109, 3) := by decide +kernel
theorem dX9_takePart_95 : decode cX9_takePart 95 = .ok (.ifCond .ne 151, 3) := by decide +kernel
theorem dX9_takePart_98 : decode cX9_takePart 98 = .ok (.aload_n 0, 1) := by decide +kernel
theorem dX9_takePart_99 : decode cX9_takePart 99 = .ok (.invokevirtual 139, 3) := by decide +kernel
theorem dX9_takePart_102 : decode cX9_takePart 102 = .ok (.aload_n 0, 1) := by decide +kernel
theorem dX9_takePart_103 : decode cX9_takePart 103 = .ok (.iconst 2, 1) := by decide +kernel
theorem dX9_takePart_104 : decode cX9_takePart 104 = .ok (.bipush 111, 2) := by decide +kernel
theorem dX9_takePart_106 : decode cX9_takePart 106 = .ok (.bipush 110, 2) := by decide +kernel
theorem dX9_takePart_108 : decode cX9_takePart 108 = .ok (.iconst 0, 1) := by decide +kernel
theorem dX9_takePart_109 : decode cX9_takePart 109 = .ok (.iconst 0, 1) := by decide +kernel
theorem dX9_takePart_110 : decode cX9_takePart 110 = .ok (.iconst 0, 1) := by decide +kernel
theorem dX9_takePart_111 : decode cX9_takePart 111 = .ok (.invokevirtual 142, 3) := by decide +kernel
theorem dX9_takePart_114 : decode cX9_takePart 114 = .ok (.istore_n 3, 1) := by decide +kernel
theorem dX9_takePart_115 : decode cX9_takePart 115 = .ok (.aload_n 0, 1) := by decide +kernel
theorem dX9_takePart_116 : decode cX9_takePart 116 = .ok (.iload_n 3, 1) := by decide +kernel
theorem dX9_takePart_117 : decode cX9_takePart 117 = .ok (.ifCond .eq 10, 3) := by decide +kernel
theorem dX9_takePart_120 : decode cX9_takePart 120 = .ok (.aload_n 0, 1) := by decide +kernel
theorem dX9_takePart_121 : decode cX9_takePart 121 = .ok (.getfield 106, 3) := by decide +kernel
theorem dX9_takePart_124 : decode cX9_takePart 124 = .ok (.goto 7, 3) := by decide +kernel
theorem dX9_takePart_127 : decode cX9_takePart 127 = .ok (.aload_n 0, 1) := by decide +kernel
theorem dX9_takePart_128 : decode cX9_takePart 128 = .ok (.getfield 116, 3) := by decide +kernel
theorem dX9_takePart_131 : decode cX9_takePart 131 = .ok (.putfield 106, 3) := by decide +kernel
theorem dX9_takePart_134 : decode cX9_takePart 134 = .ok (.iload_n 3, 1) := by decide +kernel
theorem dX9_takePart_135 : decode cX9_takePart 135 = .ok (.ifCond .eq 111, 3) := by decide +kernel
theorem dX9_takePart_138 : decode cX9_takePart 138 = .ok (.aload_n 0, 1) := by decide +kernel
theorem dX9_takePart_139 : decode cX9_takePart 139 = .ok (.iconst 0, 1) := by decide +kernel
theorem dX9_takePart_140 : decode cX9_takePart 140 = .ok (.iload_n 2, 1) := by decide +kernel
theorem dX9_takePart_141 : decode cX9_takePart 141 = .ok (.iconst 1, 1) := by decide +kernel
theorem dX9_takePart_142 : decode cX9_takePart 142 = .ok (.isub, 1) := by decide +kernel
theorem dX9_takePart_143 : decode cX9_takePart 143 = .ok (.invokevirtual 135, 3) := by decide +kernel
theorem dX9_takePart_146 : decode cX9_takePart 146 = .ok (.istore 4, 2) := by decide +kernel
theorem dX9_takePart_148 : decode cX9_takePart 148 = .ok (.aload_n 0, 1) := by decide +kernel
theorem dX9_takePart_149 : decode cX9_takePart 149 = .ok (.getfield 109, 3) := by decide +kernel
theorem dX9_takePart_152 : decode cX9_takePart 152 = .ok (.ifCond .ne 41, 3) := by decide +kernel
theorem dX9_takePart_155 : decode cX9_takePart 155 = .ok (.aload_n 0, 1) := by decide +kernel
theorem dX9_takePart_156 : decode cX9_takePart 156 = .ok (.aload_n 0, 1) := by decide +kernel
theorem dX9_takePart_157 : decode cX9_takePart 157 = .ok (.getfield 32, 3) := by decide +kernel
theorem dX9_takePart_160 : decode cX9_takePart 160 = .ok (.bipush 12, 2) := by decide +kernel
theorem dX9_takePart_162 : decode cX9_takePart 162 = .ok (.iload_n 2, 1) := by decide +kernel
theorem dX9_takePart_163 : decode cX9_takePart 163 = .ok (.iadd, 1) := by decide +kernel
theorem dX9_takePart_164 : decode cX9_takePart 164 = .ok (.iaload, 1) := by decide +kernel
theorem dX9_takePart_165 : decode cX9_takePart 165 = .ok (.iload 4, 2) := by decide +kernel
theorem dX9_takePart_167 : decode cX9_takePart 167 = .ok (.invokestatic 146, 3) := by decide +kernel
theorem dX9_takePart_170 : decode cX9_takePart 170 = .ok (.ifCond .ne 7, 3) := by decide +kernel
theorem dX9_takePart_173 : decode cX9_takePart 173 = .ok (.iconst 1, 1) := by decide +kernel
theorem dX9_takePart_174 : decode cX9_takePart 174 = .ok (.goto 4, 3) := by decide +kernel
theorem dX9_takePart_177 : decode cX9_takePart 177 = .ok (.iconst 0, 1) := by decide +kernel
theorem dX9_takePart_178 : decode cX9_takePart 178 = .ok (.iconst 4, 1) := by decide +kernel
theorem dX9_takePart_179 : decode cX9_takePart 179 = .ok (.aload_n 0, 1) := by decide +kernel
theorem dX9_takePart_180 : decode cX9_takePart 180 = .ok (.getfield 116, 3) := by decide +kernel
theorem dX9_takePart_183 : decode cX9_takePart 183 = .ok (.invokevirtual 130, 3) := by decide +kernel
theorem dX9_takePart_186 : decode cX9_takePart 186 = .ok (.ifCond .eq 7, 3) := by decide +kernel
theorem dX9_takePart_189 : decode cX9_takePart 189 = .ok (.iconst 1, 1) := by decide +kernel
theorem dX9_takePart_190 : decode cX9_takePart 190 = .ok (.goto 4, 3) := by decide +kernel
theorem dX9_takePart_193 : decode cX9_takePart 193 = .ok (.iconst 0, 1) := by decide +kernel
theorem dX9_takePart_194 : decode cX9_takePart 194 = .ok (.istore_n 3, 1) := by decide +kernel
theorem dX9_takePart_195 : decode cX9_takePart 195 = .ok (.iload_n 3, 1) := by decide +kernel
theorem dX9_takePart_196 : decode cX9_takePart 196 = .ok (.ifCond .eq 47, 3) := by decide +kernel
theorem dX9_takePart_199 : decode cX9_takePart 199 = .ok (.aload_n 0, 1) := by decide +kernel
theorem dX9_takePart_200 : decode cX9_takePart 200 = .ok (.getfield 32, 3) := by decide +kernel
theorem dX9_takePart_203 : decode cX9_takePart 203 = .ok (.bipush 12, 2) := by decide +kernel
theorem dX9_takePart_205 : decode cX9_takePart 205 = .ok (.iload_n 2, 1) := by decide +kernel
theorem dX9_takePart_206 : decode cX9_takePart 206 = .ok (.iadd, 1) := by decide +kernel
theorem dX9_takePart_207 : decode cX9_takePart 207 = .ok (.dup2, 1) := by decide +kernel
theorem dX9_takePart_208 : decode cX9_takePart 208 = .ok (.iaload, 1) := by decide +kernel
theorem dX9_takePart_209 : decode cX9_takePart 209 = .ok (.iconst 1, 1) := by decide +kernel
theorem dX9_takePart_210 : decode cX9_takePart 210 = .ok (.iload 4, 2) := by decide +kernel
theorem dX9_takePart_212 : decode cX9_takePart 212 = .ok (.ishl, 1) := by decide +kernel
theorem dX9_takePart_213 : decode cX9_takePart 213 = .ok (.ior, 1) := by decide +kernel
theorem dX9_takePart_214 : decode cX9_takePart 214 = .ok (.iastore, 1) := by decide +kernel
theorem dX9_takePart_215 : decode cX9_takePart 215 = .ok (.aload_n 0, 1) := by decide +kernel
theorem dX9_takePart_216 : decode cX9_takePart 216 = .ok (.invokevirtual 112, 3) := by decide +kernel
theorem dX9_takePart_219 : decode cX9_takePart 219 = .ok (.bipush 44, 2) := by decide +kernel
theorem dX9_takePart_221 : decode cX9_takePart 221 = .ok (.if_icmp .ne 7, 3) := by decide +kernel
theorem dX9_takePart_224 : decode cX9_takePart 224 = .ok (.iconst 1, 1) := by decide +kernel
theorem dX9_takePart_225 : decode cX9_takePart 225 = .ok (.goto 4, 3) := by decide +kernel
theorem dX9_takePart_228 : decode cX9_takePart 228 = .ok (.iconst 0, 1) := by decide +kernel
theorem dX9_takePart_229 : decode cX9_takePart 229 = .ok (.istore_n 3, 1) := by decide +kernel
theorem dX9_takePart_230 : decode cX9_takePart 230 = .ok (.aload_n 0, 1) := by decide +kernel
theorem dX9_takePart_231 : decode cX9_takePart 231 = .ok (.dup, 1) := by decide +kernel
theorem dX9_takePart_232 : decode cX9_takePart 232 = .ok (.getfield 106, 3) := by decide +kernel
theorem dX9_takePart_235 : decode cX9_takePart 235 = .ok (.iload_n 3, 1) := by decide +kernel
theorem dX9_takePart_236 : decode cX9_takePart 236 = .ok (.invokestatic 150, 3) := by decide +kernel
theorem dX9_takePart_239 : decode cX9_takePart 239 = .ok (.iadd, 1) := by decide +kernel
theorem dX9_takePart_240 : decode cX9_takePart 240 = .ok (.putfield 106, 3) := by decide +kernel
theorem dX9_takePart_243 : decode cX9_takePart 243 = .ok (.goto (-109), 3) := by decide +kernel
theorem dX9_takePart_246 : decode cX9_takePart 246 = .ok (.aload_n 0, 1) := by decide +kernel
theorem dX9_takePart_247 : decode cX9_takePart 247 = .ok (.getfield 35, 3) := by decide +kernel
theorem dX9_takePart_250 : decode cX9_takePart 250 = .ok (.iconst 3, 1) := by decide +kernel
theorem dX9_takePart_251 : decode cX9_takePart 251 = .ok (.iload_n 2, 1) := by decide +kernel
theorem dX9_takePart_252 : decode cX9_takePart 252 = .ok (.iconst 1, 1) := by decide +kernel
theorem dX9_takePart_253 : decode cX9_takePart 253 = .ok (.iadd, 1) := by decide +kernel
theorem dX9_takePart_254 : decode cX9_takePart 254 = .ok (.iastore, 1) := by decide +kernel
theorem dX9_takePart_255 : decode cX9_takePart 255 = .ok (.return_, 1) := by decide +kernel
theorem dX9_takeClause_0 : decode cX9_takeClause 0 = .ok (.aload_n 0, 1) := by decide +kernel
theorem dX9_takeClause_1 : decode cX9_takeClause 1 = .ok (.invokevirtual 139, 3) := by decide +kernel
theorem dX9_takeClause_4 : decode cX9_takeClause 4 = .ok (.aload_n 0, 1) := by decide +kernel
theorem dX9_takeClause_5 : decode cX9_takeClause 5 = .ok (.getfield 116, 3) := by decide +kernel
theorem dX9_takeClause_8 : decode cX9_takeClause 8 = .ok (.istore_n 1, 1) := by decide +kernel
theorem dX9_takeClause_9 : decode cX9_takeClause 9 = .ok (.aload_n 0, 1) := by decide +kernel
theorem dX9_takeClause_10 : decode cX9_takeClause 10 = .ok (.iconst 5, 1) := by decide +kernel
theorem dX9_takeClause_11 : decode cX9_takeClause 11 = .ok (.bipush 104, 2) := by decide +kernel
theorem dX9_takeClause_13 : decode cX9_takeClause 13 = .ok (.bipush 111, 2) := by decide +kernel
theorem dX9_takeClause_15 : decode cX9_takeClause 15 = .ok (.bipush 117, 2) := by decide +kernel
theorem dX9_takeClause_17 : decode cX9_takeClause 17 = .ok (.bipush 115, 2) := by decide +kernel
theorem dX9_takeClause_19 : decode cX9_takeClause 19 = .ok (.bipush 101, 2) := by decide +kernel
theorem dX9_takeClause_21 : decode cX9_takeClause 21 = .ok (.invokevirtual 142, 3) := by decide +kernel
theorem dX9_takeClause_24 : decode cX9_takeClause 24 = .ok (.ifCond .eq 11, 3) := by decide +kernel
theorem dX9_takeClause_27 : decode cX9_takeClause 27 = .ok (.aload_n 0, 1) := by decide +kernel
theorem dX9_takeClause_28 : decode cX9_takeClause 28 = .ok (.iload_n 1, 1) := by decide +kernel
theorem dX9_takeClause_29 : decode cX9_takeClause 29 = .ok (.invokevirtual 154, 3) := by decide +kernel
theorem dX9_takeClause_32 : decode cX9_takeClause 32 = .ok (.goto 54, 3) := by decide +kernel
theorem dX9_takeClause_35 : decode cX9_takeClause 35 = .ok (.aload_n 0, 1) := by decide +kernel
theorem dX9_takeClause_36 : decode cX9_takeClause 36 = .ok (.iconst 3, 1) := by decide +kernel
theorem dX9_takeClause_37 : decode cX9_takeClause 37 = .ok (.bipush 119, 2) := by decide +kernel
theorem dX9_takeClause_39 : decode cX9_takeClause 39 = .ok (.bipush 97, 2) := by decide +kernel
theorem dX9_takeClause_41 : decode cX9_takeClause 41 = .ok (.bipush 121, 2) := by decide +kernel
theorem dX9_takeClause_43 : decode cX9_takeClause 43 = .ok (.iconst 0, 1) := by decide +kernel
theorem dX9_takeClause_44 : decode cX9_takeClause 44 = .ok (.iconst 0, 1) := by decide +kernel
theorem dX9_takeClause_45 : decode cX9_takeClause 45 = .ok (.invokevirtual 142, 3) := by decide +kernel
theorem dX9_takeClause_48 : decode cX9_takeClause 48 = .ok (.ifCond .eq 10, 3) := by decide +kernel
theorem dX9_takeClause_51 : decode cX9_takeClause 51 = .ok (.aload_n 0, 1) := by decide +kernel
theorem dX9_takeClause_52 : decode cX9_takeClause 52 = .ok (.invokevirtual 158, 3) := by decide +kernel
theorem dX9_takeClause_55 : decode cX9_takeClause 55 = .ok (.goto 31, 3) := by decide +kernel
theorem dX9_takeClause_58 : decode cX9_takeClause 58 = .ok (.aload_n 0, 1) := by decide +kernel
theorem dX9_takeClause_59 : decode cX9_takeClause 59 = .ok (.aload_n 0, 1) := by decide +kernel
theorem dX9_takeClause_60 : decode cX9_takeClause 60 = .ok (.iconst 4, 1) := by decide +kernel
theorem dX9_takeClause_61 : decode cX9_takeClause 61 = .ok (.bipush 112, 2) := by decide +kernel
theorem dX9_takeClause_63 : decode cX9_takeClause 63 = .ok (.bipush 97, 2) := by decide +kernel
theorem dX9_takeClause_65 : decode cX9_takeClause 65 = .ok (.bipush 114, 2) := by decide +kernel
theorem dX9_takeClause_67 : decode cX9_takeClause 67 = .ok (.bipush 116, 2) := by decide +kernel
theorem dX9_takeClause_69 : decode cX9_takeClause 69 = .ok (.iconst 0, 1) := by decide +kernel
theorem dX9_takeClause_70 : decode cX9_takeClause 70 = .ok (.invokevirtual 142, 3) := by decide +kernel
theorem dX9_takeClause_73 : decode cX9_takeClause 73 = .ok (.iconst 1, 1) := by decide +kernel
theorem dX9_takeClause_74 : decode cX9_takeClause 74 = .ok (.iload_n 1, 1) := by decide +kernel
theorem dX9_takeClause_75 : decode cX9_takeClause 75 = .ok (.invokevirtual 130, 3) := by decide +kernel
theorem dX9_takeClause_78 : decode cX9_takeClause 78 = .ok (.ifCond .eq 8, 3) := by decide +kernel
theorem dX9_takeClause_81 : decode cX9_takeClause 81 = .ok (.aload_n 0, 1) := by decide +kernel
theorem dX9_takeClause_82 : decode cX9_takeClause 82 = .ok (.iload_n 1, 1) := by decide +kernel
theorem dX9_takeClause_83 : decode cX9_takeClause 83 = .ok (.invokevirtual 161, 3) := by decide +kernel
theorem dX9_takeClause_86 : decode cX9_takeClause 86 = .ok (.aload_n 0, 1) := by decide +kernel
theorem dX9_takeClause_87 : decode cX9_takeClause 87 = .ok (.invokevirtual 164, 3) := by decide +kernel
theorem dX9_takeClause_90 : decode cX9_takeClause 90 = .ok (.return_, 1) := by decide +kernel
theorem dX9_parish_0 : decode cX9_parish 0 = .ok (.aload_n 0, 1) := by decide +kernel
theorem dX9_parish_1 : decode cX9_parish 1 = .ok (.invokevirtual 167, 3) := by decide +kernel
theorem dX9_parish_4 : decode cX9_parish 4 = .ok (.aload_n 0, 1) := by decide +kernel
theorem dX9_parish_5 : decode cX9_parish 5 = .ok (.getfield 35, 3) := by decide +kernel
theorem dX9_parish_8 : decode cX9_parish 8 = .ok (.iconst 2, 1) := by decide +kernel
theorem dX9_parish_9 : decode cX9_parish 9 = .ok (.iconst 0, 1) := by decide +kernel
theorem dX9_parish_10 : decode cX9_parish 10 = .ok (.iastore, 1) := by decide +kernel
theorem dX9_parish_11 : decode cX9_parish 11 = .ok (.aload_n 0, 1) := by decide +kernel
theorem dX9_parish_12 : decode cX9_parish 12 = .ok (.getfield 35, 3) := by decide +kernel
theorem dX9_parish_15 : decode cX9_parish 15 = .ok (.iconst 3, 1) := by decide +kernel
theorem dX9_parish_16 : decode cX9_parish 16 = .ok (.iconst 0, 1) := by decide +kernel
theorem dX9_parish_17 : decode cX9_parish 17 = .ok (.iastore, 1) := by decide +kernel
theorem dX9_parish_18 : decode cX9_parish 18 = .ok (.bipush 81, 2) := by decide +kernel
theorem dX9_parish_20 : decode cX9_parish 20 = .ok (.istore_n 1, 1) := by decide +kernel
theorem dX9_parish_21 : decode cX9_parish 21 = .ok (.iload_n 1, 1) := by decide +kernel
theorem dX9_parish_22 : decode cX9_parish 22 = .ok (.sipush 162, 3) := by decide +kernel
theorem dX9_parish_25 : decode cX9_parish 25 = .ok (.if_icmp .ge 16, 3) := by decide +kernel
theorem dX9_parish_28 : decode cX9_parish 28 = .ok (.aload_n 0, 1) := by decide +kernel
theorem dX9_parish_29 : decode cX9_parish 29 = .ok (.getfield 20, 3) := by decide +kernel
theorem dX9_parish_32 : decode cX9_parish 32 = .ok (.iload_n 1, 1) := by decide +kernel
theorem dX9_parish_33 : decode cX9_parish 33 = .ok (.iconst 0, 1) := by decide +kernel
theorem dX9_parish_34 : decode cX9_parish 34 = .ok (.iastore, 1) := by decide +kernel
theorem dX9_parish_35 : decode cX9_parish 35 = .ok (.iinc 1 1, 3) := by decide +kernel
theorem dX9_parish_38 : decode cX9_parish 38 = .ok (.goto (-17), 3) := by decide +kernel
theorem dX9_parish_41 : decode cX9_parish 41 = .ok (.aload_n 0, 1) := by decide +kernel
theorem dX9_parish_42 : decode cX9_parish 42 = .ok (.getfield 109, 3) := by decide +kernel
theorem dX9_parish_45 : decode cX9_parish 45 = .ok (.ifCond .ne 17, 3) := by decide +kernel
theorem dX9_parish_48 : decode cX9_parish 48 = .ok (.aload_n 0, 1) := by decide +kernel
theorem dX9_parish_49 : decode cX9_parish 49 = .ok (.invokevirtual 112, 3) := by decide +kernel
theorem dX9_parish_52 : decode cX9_parish 52 = .ok (.ifCond .lt 10, 3) := by decide +kernel
theorem dX9_parish_55 : decode cX9_parish 55 = .ok (.aload_n 0, 1) := by decide +kernel
theorem dX9_parish_56 : decode cX9_parish 56 = .ok (.invokevirtual 170, 3) := by decide +kernel
theorem dX9_parish_59 : decode cX9_parish 59 = .ok (.goto (-18), 3) := by decide +kernel
theorem dX9_parish_62 : decode cX9_parish 62 = .ok (.aload_n 0, 1) := by decide +kernel
theorem dX9_parish_63 : decode cX9_parish 63 = .ok (.iconst 0, 1) := by decide +kernel
theorem dX9_parish_64 : decode cX9_parish 64 = .ok (.putfield 100, 3) := by decide +kernel
theorem dX9_parish_67 : decode cX9_parish 67 = .ok (.aload_n 0, 1) := by decide +kernel
theorem dX9_parish_68 : decode cX9_parish 68 = .ok (.getfield 109, 3) := by decide +kernel
theorem dX9_parish_71 : decode cX9_parish 71 = .ok (.ifCond .le 11, 3) := by decide +kernel
theorem dX9_parish_74 : decode cX9_parish 74 = .ok (.bipush (-10), 2) := by decide +kernel
theorem dX9_parish_76 : decode cX9_parish 76 = .ok (.aload_n 0, 1) := by decide +kernel
theorem dX9_parish_77 : decode cX9_parish 77 = .ok (.getfield 109, 3) := by decide +kernel
theorem dX9_parish_80 : decode cX9_parish 80 = .ok (.isub, 1) := by decide +kernel
theorem dX9_parish_81 : decode cX9_parish 81 = .ok (.ireturn, 1) := by decide +kernel
theorem dX9_parish_82 : decode cX9_parish 82 = .ok (.aload_n 0, 1) := by decide +kernel
theorem dX9_parish_83 : decode cX9_parish 83 = .ok (.getfield 35, 3) := by decide +kernel
theorem dX9_parish_86 : decode cX9_parish 86 = .ok (.iconst 0, 1) := by decide +kernel
theorem dX9_parish_87 : decode cX9_parish 87 = .ok (.aload_n 0, 1) := by decide +kernel
theorem dX9_parish_88 : decode cX9_parish 88 = .ok (.getfield 35, 3) := by decide +kernel
theorem dX9_parish_91 : decode cX9_parish 91 = .ok (.iconst 2, 1) := by decide +kernel
theorem dX9_parish_92 : decode cX9_parish 92 = .ok (.iaload, 1) := by decide +kernel
theorem dX9_parish_93 : decode cX9_parish 93 = .ok (.iastore, 1) := by decide +kernel
theorem dX9_parish_94 : decode cX9_parish 94 = .ok (.aload_n 0, 1) := by decide +kernel
theorem dX9_parish_95 : decode cX9_parish 95 = .ok (.getfield 35, 3) := by decide +kernel
theorem dX9_parish_98 : decode cX9_parish 98 = .ok (.iconst 1, 1) := by decide +kernel
theorem dX9_parish_99 : decode cX9_parish 99 = .ok (.aload_n 0, 1) := by decide +kernel
theorem dX9_parish_100 : decode cX9_parish 100 = .ok (.getfield 35, 3) := by decide +kernel
theorem dX9_parish_103 : decode cX9_parish 103 = .ok (.iconst 3, 1) := by decide +kernel
theorem dX9_parish_104 : decode cX9_parish 104 = .ok (.iaload, 1) := by decide +kernel
theorem dX9_parish_105 : decode cX9_parish 105 = .ok (.iastore, 1) := by decide +kernel
theorem dX9_parish_106 : decode cX9_parish 106 = .ok (.iconst 0, 1) := by decide +kernel
theorem dX9_parish_107 : decode cX9_parish 107 = .ok (.istore_n 1, 1) := by decide +kernel
theorem dX9_parish_108 : decode cX9_parish 108 = .ok (.iload_n 1, 1) := by decide +kernel
theorem dX9_parish_109 : decode cX9_parish 109 = .ok (.bipush 54, 2) := by decide +kernel
theorem dX9_parish_111 : decode cX9_parish 111 = .ok (.if_icmp .ge 24, 3) := by decide +kernel
theorem dX9_parish_114 : decode cX9_parish 114 = .ok (.aload_n 0, 1) := by decide +kernel
theorem dX9_parish_115 : decode cX9_parish 115 = .ok (.getfield 17, 3) := by decide +kernel
theorem dX9_parish_118 : decode cX9_parish 118 = .ok (.iload_n 1, 1) := by decide +kernel
theorem dX9_parish_119 : decode cX9_parish 119 = .ok (.aload_n 0, 1) := by decide +kernel
theorem dX9_parish_120 : decode cX9_parish 120 = .ok (.getfield 17, 3) := by decide +kernel
theorem dX9_parish_123 : decode cX9_parish 123 = .ok (.bipush 54, 2) := by decide +kernel
theorem dX9_parish_125 : decode cX9_parish 125 = .ok (.iload_n 1, 1) := by decide +kernel
theorem dX9_parish_126 : decode cX9_parish 126 = .ok (.iadd, 1) := by decide +kernel
theorem dX9_parish_127 : decode cX9_parish 127 = .ok (.iaload, 1) := by decide +kernel
theorem dX9_parish_128 : decode cX9_parish 128 = .ok (.iastore, 1) := by decide +kernel
theorem dX9_parish_129 : decode cX9_parish 129 = .ok (.iinc 1 1, 3) := by decide +kernel
theorem dX9_parish_132 : decode cX9_parish 132 = .ok (.goto (-24), 3) := by decide +kernel
theorem dX9_parish_135 : decode cX9_parish 135 = .ok (.iconst 0, 1) := by decide +kernel
theorem dX9_parish_136 : decode cX9_parish 136 = .ok (.istore_n 1, 1) := by decide +kernel
theorem dX9_parish_137 : decode cX9_parish 137 = .ok (.iload_n 1, 1) := by decide +kernel
theorem dX9_parish_138 : decode cX9_parish 138 = .ok (.bipush 81, 2) := by decide +kernel
theorem dX9_parish_140 : decode cX9_parish 140 = .ok (.if_icmp .ge 24, 3) := by decide +kernel
theorem dX9_parish_143 : decode cX9_parish 143 = .ok (.aload_n 0, 1) := by decide +kernel
theorem dX9_parish_144 : decode cX9_parish 144 = .ok (.getfield 20, 3) := by decide +kernel
theorem dX9_parish_147 : decode cX9_parish 147 = .ok (.iload_n 1, 1) := by decide +kernel
theorem dX9_parish_148 : decode cX9_parish 148 = .ok (.aload_n 0, 1) := by decide +kernel
theorem dX9_parish_149 : decode cX9_parish 149 = .ok (.getfield 20, 3) := by decide +kernel
theorem dX9_parish_152 : decode cX9_parish 152 = .ok (.bipush 81, 2) := by decide +kernel
theorem dX9_parish_154 : decode cX9_parish 154 = .ok (.iload_n 1, 1) := by decide +kernel
theorem dX9_parish_155 : decode cX9_parish 155 = .ok (.iadd, 1) := by decide +kernel
theorem dX9_parish_156 : decode cX9_parish 156 = .ok (.iaload, 1) := by decide +kernel
theorem dX9_parish_157 : decode cX9_parish 157 = .ok (.iastore, 1) := by decide +kernel
theorem dX9_parish_158 : decode cX9_parish 158 = .ok (.iinc 1 1, 3) := by decide +kernel
theorem dX9_parish_161 : decode cX9_parish 161 = .ok (.goto (-24), 3) := by decide +kernel
theorem dX9_parish_164 : decode cX9_parish 164 = .ok (.iconst 0, 1) := by decide +kernel
theorem dX9_parish_165 : decode cX9_parish 165 = .ok (.istore_n 1, 1) := by decide +kernel
theorem dX9_parish_166 : decode cX9_parish 166 = .ok (.iload_n 1, 1) := by decide +kernel
theorem dX9_parish_167 : decode cX9_parish 167 = .ok (.bipush 12, 2) := by decide +kernel
theorem dX9_parish_169 : decode cX9_parish 169 = .ok (.if_icmp .ge 89, 3) := by decide +kernel
theorem dX9_parish_172 : decode cX9_parish 172 = .ok (.aload_n 0, 1) := by decide +kernel
theorem dX9_parish_173 : decode cX9_parish 173 = .ok (.getfield 7, 3) := by decide +kernel
theorem dX9_parish_176 : decode cX9_parish 176 = .ok (.iload_n 1, 1) := by decide +kernel
theorem dX9_parish_177 : decode cX9_parish 177 = .ok (.aload_n 0, 1) := by decide +kernel
theorem dX9_parish_178 : decode cX9_parish 178 = .ok (.getfield 23, 3) := by decide +kernel
theorem dX9_parish_181 : decode cX9_parish 181 = .ok (.bipush 12, 2) := by decide +kernel
theorem dX9_parish_183 : decode cX9_parish 183 = .ok (.iload_n 1, 1) := by decide +kernel
theorem dX9_parish_184 : decode cX9_parish 184 = .ok (.iadd, 1) := by decide +kernel
theorem dX9_parish_185 : decode cX9_parish 185 = .ok (.iaload, 1) := by decide +kernel
theorem dX9_parish_186 : decode cX9_parish 186 = .ok (.iastore, 1) := by decide +kernel
theorem dX9_parish_187 : decode cX9_parish 187 = .ok (.aload_n 0, 1) := by decide +kernel
theorem dX9_parish_188 : decode cX9_parish 188 = .ok (.getfield 26, 3) := by decide +kernel
theorem dX9_parish_191 : decode cX9_parish 191 = .ok (.iload_n 1, 1) := by decide +kernel
theorem dX9_parish_192 : decode cX9_parish 192 = .ok (.aload_n 0, 1) := by decide +kernel
theorem dX9_parish_193 : decode cX9_parish 193 = .ok (.getfield 26, 3) := by decide +kernel
theorem dX9_parish_196 : decode cX9_parish 196 = .ok (.bipush 12, 2) := by decide +kernel
theorem dX9_parish_198 : decode cX9_parish 198 = .ok (.iload_n 1, 1) := by decide +kernel
theorem dX9_parish_199 : decode cX9_parish 199 = .ok (.iadd, 1) := by decide +kernel
theorem dX9_parish_200 : decode cX9_parish 200 = .ok (.iaload, 1) := by decide +kernel
theorem dX9_parish_201 : decode cX9_parish 201 = .ok (.iastore, 1) := by decide +kernel
theorem dX9_parish_202 : decode cX9_parish 202 = .ok (.aload_n 0, 1) := by decide +kernel
theorem dX9_parish_203 : decode cX9_parish 203 = .ok (.getfield 29, 3) := by decide +kernel
theorem dX9_parish_206 : decode cX9_parish 206 = .ok (.iload_n 1, 1) := by decide +kernel
theorem dX9_parish_207 : decode cX9_parish 207 = .ok (.aload_n 0, 1) := by decide +kernel
theorem dX9_parish_208 : decode cX9_parish 208 = .ok (.getfield 29, 3) := by decide +kernel
theorem dX9_parish_211 : decode cX9_parish 211 = .ok (.bipush 12, 2) := by decide +kernel
theorem dX9_parish_213 : decode cX9_parish 213 = .ok (.iload_n 1, 1) := by decide +kernel
theorem dX9_parish_214 : decode cX9_parish 214 = .ok (.iadd, 1) := by decide +kernel
theorem dX9_parish_215 : decode cX9_parish 215 = .ok (.iaload, 1) := by decide +kernel
theorem dX9_parish_216 : decode cX9_parish 216 = .ok (.iastore, 1) := by decide +kernel
theorem dX9_parish_217 : decode cX9_parish 217 = .ok (.aload_n 0, 1) := by decide +kernel
theorem dX9_parish_218 : decode cX9_parish 218 = .ok (.getfield 32, 3) := by decide +kernel
theorem dX9_parish_221 : decode cX9_parish 221 = .ok (.iload_n 1, 1) := by decide +kernel
theorem dX9_parish_222 : decode cX9_parish 222 = .ok (.aload_n 0, 1) := by decide +kernel
theorem dX9_parish_223 : decode cX9_parish 223 = .ok (.getfield 32, 3) := by decide +kernel
theorem dX9_parish_226 : decode cX9_parish 226 = .ok (.bipush 12, 2) := by decide +kernel
theorem dX9_parish_228 : decode cX9_parish 228 = .ok (.iload_n 1, 1) := by decide +kernel
theorem dX9_parish_229 : decode cX9_parish 229 = .ok (.iadd, 1) := by decide +kernel
theorem dX9_parish_230 : decode cX9_parish 230 = .ok (.iaload, 1) := by decide +kernel
theorem dX9_parish_231 : decode cX9_parish 231 = .ok (.iastore, 1) := by decide +kernel
theorem dX9_parish_232 : decode cX9_parish 232 = .ok (.aload_n 0, 1) := by decide +kernel
theorem dX9_parish_233 : decode cX9_parish 233 = .ok (.getfield 7, 3) := by decide +kernel
theorem dX9_parish_236 : decode cX9_parish 236 = .ok (.bipush 12, 2) := by decide +kernel
theorem dX9_parish_238 : decode cX9_parish 238 = .ok (.iload_n 1, 1) := by decide +kernel
theorem dX9_parish_239 : decode cX9_parish 239 = .ok (.iadd, 1) := by decide +kernel
theorem dX9_parish_240 : decode cX9_parish 240 = .ok (.iconst 1, 1) := by decide +kernel
theorem dX9_parish_241 : decode cX9_parish 241 = .ok (.iload_n 1, 1) := by decide +kernel
theorem dX9_parish_242 : decode cX9_parish 242 = .ok (.ishl, 1) := by decide +kernel
theorem dX9_parish_243 : decode cX9_parish 243 = .ok (.iastore, 1) := by decide +kernel
theorem dX9_parish_244 : decode cX9_parish 244 = .ok (.aload_n 0, 1) := by decide +kernel
theorem dX9_parish_245 : decode cX9_parish 245 = .ok (.getfield 44, 3) := by decide +kernel
theorem dX9_parish_248 : decode cX9_parish 248 = .ok (.iload_n 1, 1) := by decide +kernel
theorem dX9_parish_249 : decode cX9_parish 249 = .ok (.bipush 10, 2) := by decide +kernel
theorem dX9_parish_251 : decode cX9_parish 251 = .ok (.iastore, 1) := by decide +kernel
theorem dX9_parish_252 : decode cX9_parish 252 = .ok (.iinc 1 1, 3) := by decide +kernel
theorem dX9_parish_255 : decode cX9_parish 255 = .ok (.goto (-89), 3) := by decide +kernel
theorem dX9_parish_258 : decode cX9_parish 258 = .ok (.aload_n 0, 1) := by decide +kernel
theorem dX9_parish_259 : decode cX9_parish 259 = .ok (.getfield 7, 3) := by decide +kernel
theorem dX9_parish_262 : decode cX9_parish 262 = .ok (.bipush 24, 2) := by decide +kernel
theorem dX9_parish_264 : decode cX9_parish 264 = .ok (.iconst 0, 1) := by decide +kernel
theorem dX9_parish_265 : decode cX9_parish 265 = .ok (.iastore, 1) := by decide +kernel
theorem dX9_parish_266 : decode cX9_parish 266 = .ok (.aload_n 0, 1) := by decide +kernel
theorem dX9_parish_267 : decode cX9_parish 267 = .ok (.iconst 0, 1) := by decide +kernel
theorem dX9_parish_268 : decode cX9_parish 268 = .ok (.putfield 173, 3) := by decide +kernel
theorem dX9_parish_271 : decode cX9_parish 271 = .ok (.aload_n 0, 1) := by decide +kernel
theorem dX9_parish_272 : decode cX9_parish 272 = .ok (.iconst 0, 1) := by decide +kernel
theorem dX9_parish_273 : decode cX9_parish 273 = .ok (.putfield 176, 3) := by decide +kernel
theorem dX9_parish_276 : decode cX9_parish 276 = .ok (.aload_n 0, 1) := by decide +kernel
theorem dX9_parish_277 : decode cX9_parish 277 = .ok (.iconst 0, 1) := by decide +kernel
theorem dX9_parish_278 : decode cX9_parish 278 = .ok (.putfield 179, 3) := by decide +kernel
theorem dX9_parish_281 : decode cX9_parish 281 = .ok (.aload_n 0, 1) := by decide +kernel
theorem dX9_parish_282 : decode cX9_parish 282 = .ok (.getfield 13, 3) := by decide +kernel
theorem dX9_parish_285 : decode cX9_parish 285 = .ok (.iconst 0, 1) := by decide +kernel
theorem dX9_parish_286 : decode cX9_parish 286 = .ok (.iconst 0, 1) := by decide +kernel
theorem dX9_parish_287 : decode cX9_parish 287 = .ok (.bastore, 1) := by decide +kernel
theorem dX9_parish_288 : decode cX9_parish 288 = .ok (.aload_n 0, 1) := by decide +kernel
theorem dX9_parish_289 : decode cX9_parish 289 = .ok (.getfield 13, 3) := by decide +kernel
theorem dX9_parish_292 : decode cX9_parish 292 = .ok (.iconst 1, 1) := by decide +kernel
theorem dX9_parish_293 : decode cX9_parish 293 = .ok (.iconst 0, 1) := by decide +kernel
theorem dX9_parish_294 : decode cX9_parish 294 = .ok (.bastore, 1) := by decide +kernel
theorem dX9_parish_295 : decode cX9_parish 295 = .ok (.aload_n 0, 1) := by decide +kernel
theorem dX9_parish_296 : decode cX9_parish 296 = .ok (.invokevirtual 182, 3) := by decide +kernel
theorem dX9_parish_299 : decode cX9_parish 299 = .ok (.aload_n 0, 1) := by decide +kernel
theorem dX9_parish_300 : decode cX9_parish 300 = .ok (.getfield 35, 3) := by decide +kernel
theorem dX9_parish_303 : decode cX9_parish 303 = .ok (.iconst 0, 1) := by decide +kernel
theorem dX9_parish_304 : decode cX9_parish 304 = .ok (.iaload, 1) := by decide +kernel
theorem dX9_parish_305 : decode cX9_parish 305 = .ok (.ireturn, 1) := by decide +kernel
theorem dX9_plan_0 : decode cX9_plan 0 = .ok (.aload_n 0, 1) := by decide +kernel
theorem dX9_plan_1 : decode cX9_plan 1 = .ok (.getfield 100, 3) := by decide +kernel
theorem dX9_plan_4 : decode cX9_plan 4 = .ok (.sipush 200, 3) := by decide +kernel
theorem dX9_plan_7 : decode cX9_plan 7 = .ok (.if_icmp .le 6, 3) := by decide +kernel
theorem dX9_plan_10 : decode cX9_plan 10 = .ok (.ldc 185, 2) := by decide +kernel
theorem dX9_plan_12 : decode cX9_plan 12 = .ok (.ireturn, 1) := by decide +kernel
theorem dX9_plan_13 : decode cX9_plan 13 = .ok (.aload_n 0, 1) := by decide +kernel
theorem dX9_plan_14 : decode cX9_plan 14 = .ok (.invokevirtual 167, 3) := by decide +kernel
theorem dX9_plan_17 : decode cX9_plan 17 = .ok (.aload_n 0, 1) := by decide +kernel
theorem dX9_plan_18 : decode cX9_plan 18 = .ok (.iconst 0, 1) := by decide +kernel
theorem dX9_plan_19 : decode cX9_plan 19 = .ok (.putfield 186, 3) := by decide +kernel
theorem dX9_plan_22 : decode cX9_plan 22 = .ok (.aload_n 0, 1) := by decide +kernel
theorem dX9_plan_23 : decode cX9_plan 23 = .ok (.getfield 109, 3) := by decide +kernel
theorem dX9_plan_26 : decode cX9_plan 26 = .ok (.ifCond .ne 219, 3) := by decide +kernel
theorem dX9_plan_29 : decode cX9_plan 29 = .ok (.aload_n 0, 1) := by decide +kernel
theorem dX9_plan_30 : decode cX9_plan 30 = .ok (.invokevirtual 112, 3) := by decide +kernel
theorem dX9_plan_33 : decode cX9_plan 33 = .ok (.ifCond .lt 212, 3) := by decide +kernel
theorem dX9_plan_36 : decode cX9_plan 36 = .ok (.aload_n 0, 1) := by decide +kernel
theorem dX9_plan_37 : decode cX9_plan 37 = .ok (.invokevirtual 139, 3) := by decide +kernel
theorem dX9_plan_40 : decode cX9_plan 40 = .ok (.aload_n 0, 1) := by decide +kernel
theorem dX9_plan_41 : decode cX9_plan 41 = .ok (.aload_n 0, 1) := by decide +kernel
theorem dX9_plan_42 : decode cX9_plan 42 = .ok (.iconst 4, 1) := by decide +kernel
theorem dX9_plan_43 : decode cX9_plan 43 = .ok (.bipush 119, 2) := by decide +kernel
theorem dX9_plan_45 : decode cX9_plan 45 = .ok (.bipush 97, 2) := by decide +kernel
theorem dX9_plan_47 : decode cX9_plan 47 = .ok (.bipush 107, 2) := by decide +kernel
theorem dX9_plan_49 : decode cX9_plan 49 = .ok (.bipush 101, 2) := by decide +kernel
theorem dX9_plan_51 : decode cX9_plan 51 = .ok (.iconst 0, 1) := by decide +kernel
theorem dX9_plan_52 : decode cX9_plan 52 = .ok (.invokevirtual 142, 3) := by decide +kernel
theorem dX9_plan_55 : decode cX9_plan 55 = .ok (.iconst 1, 1) := by decide +kernel
theorem dX9_plan_56 : decode cX9_plan 56 = .ok (.aload_n 0, 1) := by decide +kernel
theorem dX9_plan_57 : decode cX9_plan 57 = .ok (.getfield 116, 3) := by decide +kernel
theorem dX9_plan_60 : decode cX9_plan 60 = .ok (.invokevirtual 130, 3) := by decide +kernel
theorem dX9_plan_63 : decode cX9_plan 63 = .ok (.ifCond .eq 175, 3) := by decide +kernel
theorem dX9_plan_66 : decode cX9_plan 66 = .ok (.aload_n 0, 1) := by decide +kernel
theorem dX9_plan_67 : decode cX9_plan 67 = .ok (.aload_n 0, 1) := by decide +kernel
theorem dX9_plan_68 : decode cX9_plan 68 = .ok (.getfield 186, 3) := by decide +kernel
theorem dX9_plan_71 : decode cX9_plan 71 = .ok (.bipush 20, 2) := by decide +kernel
theorem dX9_plan_73 : decode cX9_plan 73 = .ok (.if_icmp .ge 7, 3) := by decide +kernel
theorem dX9_plan_76 : decode cX9_plan 76 = .ok (.iconst 1, 1) := by decide +kernel
theorem dX9_plan_77 : decode cX9_plan 77 = .ok (.goto 4, 3) := by decide +kernel
theorem dX9_plan_80 : decode cX9_plan 80 = .ok (.iconst 0, 1) := by decide +kernel
theorem dX9_plan_81 : decode cX9_plan 81 = .ok (.iconst 3, 1) := by decide +kernel
theorem dX9_plan_82 : decode cX9_plan 82 = .ok (.aload_n 0, 1) := by decide +kernel
theorem dX9_plan_83 : decode cX9_plan 83 = .ok (.getfield 116, 3) := by decide +kernel
theorem dX9_plan_86 : decode cX9_plan 86 = .ok (.invokevirtual 130, 3) := by decide +kernel
theorem dX9_plan_89 : decode cX9_plan 89 = .ok (.ifCond .eq 149, 3) := by decide +kernel
theorem dX9_plan_92 : decode cX9_plan 92 = .ok (.aload_n 0, 1) := by decide +kernel
theorem dX9_plan_93 : decode cX9_plan 93 = .ok (.iconst 0, 1) := by decide +kernel
theorem dX9_plan_94 : decode cX9_plan 94 = .ok (.aload_n 0, 1) := by decide +kernel
theorem dX9_plan_95 : decode cX9_plan 95 = .ok (.getfield 35, 3) := by decide +kernel
theorem dX9_plan_98 : decode cX9_plan 98 = .ok (.iconst 0, 1) := by decide +kernel
theorem dX9_plan_99 : decode cX9_plan 99 = .ok (.iaload, 1) := by decide +kernel
theorem dX9_plan_100 : decode cX9_plan 100 = .ok (.iconst 1, 1) := by decide +kernel
theorem dX9_plan_101 : decode cX9_plan 101 = .ok (.isub, 1) := by decide +kernel
theorem dX9_plan_102 : decode cX9_plan 102 = .ok (.invokevirtual 135, 3) := by decide +kernel
theorem dX9_plan_105 : decode cX9_plan 105 = .ok (.istore_n 1, 1) := by decide +kernel
theorem dX9_plan_106 : decode cX9_plan 106 = .ok (.aload_n 0, 1) := by decide +kernel
theorem dX9_plan_107 : decode cX9_plan 107 = .ok (.iconst 0, 1) := by decide +kernel
theorem dX9_plan_108 : decode cX9_plan 108 = .ok (.aload_n 0, 1) := by decide +kernel
theorem dX9_plan_109 : decode cX9_plan 109 = .ok (.getfield 35, 3) := by decide +kernel
theorem dX9_plan_112 : decode cX9_plan 112 = .ok (.iconst 0, 1) := by decide +kernel
theorem dX9_plan_113 : decode cX9_plan 113 = .ok (.iaload, 1) := by decide +kernel
theorem dX9_plan_114 : decode cX9_plan 114 = .ok (.iconst 1, 1) := by decide +kernel
theorem dX9_plan_115 : decode cX9_plan 115 = .ok (.isub, 1) := by decide +kernel
theorem dX9_plan_116 : decode cX9_plan 116 = .ok (.invokevirtual 135, 3) := by decide +kernel
theorem dX9_plan_119 : decode cX9_plan 119 = .ok (.istore_n 2, 1) := by decide +kernel
theorem dX9_plan_120 : decode cX9_plan 120 = .ok (.iload_n 1, 1) := by decide +kernel
theorem dX9_plan_121 : decode cX9_plan 121 = .ok (.iload_n 2, 1) := by decide +kernel
theorem dX9_plan_122 : decode cX9_plan 122 = .ok (.if_icmp .ne 7, 3) := by decide +kernel
theorem dX9_plan_125 : decode cX9_plan 125 = .ok (.iconst 1, 1) := by decide +kernel
theorem dX9_plan_126 : decode cX9_plan 126 = .ok (.goto 4, 3) := by decide +kernel
theorem dX9_plan_129 : decode cX9_plan 129 = .ok (.iconst 0, 1) := by decide +kernel
theorem dX9_plan_130 : decode cX9_plan 130 = .ok (.istore_n 3, 1) := by decide +kernel
theorem dX9_plan_131 : decode cX9_plan 131 = .ok (.bipush 20, 2) := by decide +kernel
theorem dX9_plan_133 : decode cX9_plan 133 = .ok (.istore 4, 2) := by decide +kernel
theorem dX9_plan_135 : decode cX9_plan 135 = .ok (.iload 4, 2) := by decide +kernel
theorem dX9_plan_137 : decode cX9_plan 137 = .ok (.bipush 20, 2) := by decide +kernel
theorem dX9_plan_139 : decode cX9_plan 139 = .ok (.aload_n 0, 1) := by decide +kernel
theorem dX9_plan_140 : decode cX9_plan 140 = .ok (.getfield 186, 3) := by decide +kernel
theorem dX9_plan_143 : decode cX9_plan 143 = .ok (.iadd, 1) := by decide +kernel
theorem dX9_plan_144 : decode cX9_plan 144 = .ok (.if_icmp .ge 30, 3) := by decide +kernel
theorem dX9_plan_147 : decode cX9_plan 147 = .ok (.iload_n 3, 1) := by decide +kernel
theorem dX9_plan_148 : decode cX9_plan 148 = .ok (.ifCond .ne 14, 3) := by decide +kernel
theorem dX9_plan_151 : decode cX9_plan 151 = .ok (.aload_n 0, 1) := by decide +kernel
theorem dX9_plan_152 : decode cX9_plan 152 = .ok (.getfield 41, 3) := by decide +kernel
theorem dX9_plan_155 : decode cX9_plan 155 = .ok (.iload 4, 2) := by decide +kernel
theorem dX9_plan_157 : decode cX9_plan 157 = .ok (.iaload, 1) := by decide +kernel
theorem dX9_plan_158 : decode cX9_plan 158 = .ok (.iload_n 2, 1) := by decide +kernel
theorem dX9_plan_159 : decode cX9_plan 159 = .ok (.if_icmp .ne 7, 3) := by decide +kernel
theorem dX9_plan_162 : decode cX9_plan 162 = .ok (.iconst 1, 1) := by decide +kernel
theorem dX9_plan_163 : decode cX9_plan 163 = .ok (.goto 4, 3) := by decide +kernel
theorem dX9_plan_166 : decode cX9_plan 166 = .ok (.iconst 0, 1) := by decide +kernel
theorem dX9_plan_167 : decode cX9_plan 167 = .ok (.istore_n 3, 1) := by decide +kernel
theorem dX9_plan_168 : decode cX9_plan 168 = .ok (.iinc 4 1, 3) := by decide +kernel
theorem dX9_plan_171 : decode cX9_plan 171 = .ok (.goto (-36), 3) := by decide +kernel
theorem dX9_plan_174 : decode cX9_plan 174 = .ok (.aload_n 0, 1) := by decide +kernel
theorem dX9_plan_175 : decode cX9_plan 175 = .ok (.getfield 109, 3) := by decide +kernel
theorem dX9_plan_178 : decode cX9_plan 178 = .ok (.ifCond .ne 60, 3) := by decide +kernel
theorem dX9_plan_181 : decode cX9_plan 181 = .ok (.aload_n 0, 1) := by decide +kernel
theorem dX9_plan_182 : decode cX9_plan 182 = .ok (.iload_n 3, 1) := by decide +kernel
theorem dX9_plan_183 : decode cX9_plan 183 = .ok (.ifCond .ne 7, 3) := by decide +kernel
theorem dX9_plan_186 : decode cX9_plan 186 = .ok (.iconst 1, 1) := by decide +kernel
theorem dX9_plan_187 : decode cX9_plan 187 = .ok (.goto 4, 3) := by decide +kernel
theorem dX9_plan_190 : decode cX9_plan 190 = .ok (.iconst 0, 1) := by decide +kernel
theorem dX9_plan_191 : decode cX9_plan 191 = .ok (.iconst 4, 1) := by decide +kernel
theorem dX9_plan_192 : decode cX9_plan 192 = .ok (.aload_n 0, 1) := by decide +kernel
theorem dX9_plan_193 : decode cX9_plan 193 = .ok (.getfield 116, 3) := by decide +kernel
theorem dX9_plan_196 : decode cX9_plan 196 = .ok (.invokevirtual 130, 3) := by decide +kernel
theorem dX9_plan_199 : decode cX9_plan 199 = .ok (.ifCond .eq 39, 3) := by decide +kernel
theorem dX9_plan_202 : decode cX9_plan 202 = .ok (.aload_n 0, 1) := by decide +kernel
theorem dX9_plan_203 : decode cX9_plan 203 = .ok (.getfield 38, 3) := by decide +kernel
theorem dX9_plan_206 : decode cX9_plan 206 = .ok (.bipush 20, 2) := by decide +kernel
theorem dX9_plan_208 : decode cX9_plan 208 = .ok (.aload_n 0, 1) := by decide +kernel
theorem dX9_plan_209 : decode cX9_plan 209 = .ok (.getfield 186, 3) := by decide +kernel
theorem dX9_plan_212 : decode cX9_plan 212 = .ok (.iadd, 1) := by decide +kernel
theorem dX9_plan_213 : decode cX9_plan 213 = .ok (.iload_n 1, 1) := by decide +kernel
theorem dX9_plan_214 : decode cX9_plan 214 = .ok (.iastore, 1) := by decide +kernel
theorem dX9_plan_215 : decode cX9_plan 215 = .ok (.aload_n 0, 1) := by decide +kernel
theorem dX9_plan_216 : decode cX9_plan 216 = .ok (.getfield 41, 3) := by decide +kernel
theorem dX9_plan_219 : decode cX9_plan 219 = .ok (.bipush 20, 2) := by decide +kernel
theorem dX9_plan_221 : decode cX9_plan 221 = .ok (.aload_n 0, 1) := by decide +kernel
theorem dX9_plan_222 : decode cX9_plan 222 = .ok (.getfield 186, 3) := by decide +kernel
theorem dX9_plan_225 : decode cX9_plan 225 = .ok (.iadd, 1) := by decide +kernel
theorem dX9_plan_226 : decode cX9_plan 226 = .ok (.iload_n 2, 1) := by decide +kernel
theorem dX9_plan_227 : decode cX9_plan 227 = .ok (.iastore, 1) := by decide +kernel
theorem dX9_plan_228 : decode cX9_plan 228 = .ok (.aload_n 0, 1) := by decide +kernel
theorem dX9_plan_229 : decode cX9_plan 229 = .ok (.dup, 1) := by decide +kernel
theorem dX9_plan_230 : decode cX9_plan 230 = .ok (.getfield 186, 3) := by decide +kernel
theorem dX9_plan_233 : decode cX9_plan 233 = .ok (.iconst 1, 1) := by decide +kernel
theorem dX9_plan_234 : decode cX9_plan 234 = .ok (.iadd, 1) := by decide +kernel
theorem dX9_plan_235 : decode cX9_plan 235 = .ok (.putfield 186, 3) := by decide +kernel
theorem dX9_plan_238 : decode cX9_plan 238 = .ok (.aload_n 0, 1) := by decide +kernel
theorem dX9_plan_239 : decode cX9_plan 239 = .ok (.invokevirtual 164, 3) := by decide +kernel
theorem dX9_plan_242 : decode cX9_plan 242 = .ok (.goto (-220), 3) := by decide +kernel
theorem dX9_plan_245 : decode cX9_plan 245 = .ok (.aload_n 0, 1) := by decide +kernel
theorem dX9_plan_246 : decode cX9_plan 246 = .ok (.iconst 0, 1) := by decide +kernel
theorem dX9_plan_247 : decode cX9_plan 247 = .ok (.putfield 100, 3) := by decide +kernel
theorem dX9_plan_250 : decode cX9_plan 250 = .ok (.aload_n 0, 1) := by decide +kernel
theorem dX9_plan_251 : decode cX9_plan 251 = .ok (.getfield 109, 3) := by decide +kernel
theorem dX9_plan_254 : decode cX9_plan 254 = .ok (.ifCond .le 11, 3) := by decide +kernel
theorem dX9_plan_257 : decode cX9_plan 257 = .ok (.bipush (-10), 2) := by decide +kernel
theorem dX9_plan_259 : decode cX9_plan 259 = .ok (.aload_n 0, 1) := by decide +kernel
theorem dX9_plan_260 : decode cX9_plan 260 = .ok (.getfield 109, 3) := by decide +kernel
theorem dX9_plan_263 : decode cX9_plan 263 = .ok (.isub, 1) := by decide +kernel
theorem dX9_plan_264 : decode cX9_plan 264 = .ok (.ireturn, 1) := by decide +kernel
theorem dX9_plan_265 : decode cX9_plan 265 = .ok (.iconst 0, 1) := by decide +kernel
theorem dX9_plan_266 : decode cX9_plan 266 = .ok (.istore_n 1, 1) := by decide +kernel
theorem dX9_plan_267 : decode cX9_plan 267 = .ok (.iload_n 1, 1) := by decide +kernel
theorem dX9_plan_268 : decode cX9_plan 268 = .ok (.aload_n 0, 1) := by decide +kernel
theorem dX9_plan_269 : decode cX9_plan 269 = .ok (.getfield 186, 3) := by decide +kernel
theorem dX9_plan_272 : decode cX9_plan 272 = .ok (.if_icmp .ge 39, 3) := by decide +kernel
theorem dX9_plan_275 : decode cX9_plan 275 = .ok (.aload_n 0, 1) := by decide +kernel
theorem dX9_plan_276 : decode cX9_plan 276 = .ok (.getfield 38, 3) := by decide +kernel
theorem dX9_plan_279 : decode cX9_plan 279 = .ok (.iload_n 1, 1) := by decide +kernel
theorem dX9_plan_280 : decode cX9_plan 280 = .ok (.aload_n 0, 1) := by decide +kernel
theorem dX9_plan_281 : decode cX9_plan 281 = .ok (.getfield 38, 3) := by decide +kernel
theorem dX9_plan_284 : decode cX9_plan 284 = .ok (.bipush 20, 2) := by decide +kernel
theorem dX9_plan_286 : decode cX9_plan 286 = .ok (.iload_n 1, 1) := by decide +kernel
theorem dX9_plan_287 : decode cX9_plan 287 = .ok (.iadd, 1) := by decide +kernel
theorem dX9_plan_288 : decode cX9_plan 288 = .ok (.iaload, 1) := by decide +kernel
theorem dX9_plan_289 : decode cX9_plan 289 = .ok (.iastore, 1) := by decide +kernel
theorem dX9_plan_290 : decode cX9_plan 290 = .ok (.aload_n 0, 1) := by decide +kernel
theorem dX9_plan_291 : decode cX9_plan 291 = .ok (.getfield 41, 3) := by decide +kernel
theorem dX9_plan_294 : decode cX9_plan 294 = .ok (.iload_n 1, 1) := by decide +kernel
theorem dX9_plan_295 : decode cX9_plan 295 = .ok (.aload_n 0, 1) := by decide +kernel
theorem dX9_plan_296 : decode cX9_plan 296 = .ok (.getfield 41, 3) := by decide +kernel
theorem dX9_plan_299 : decode cX9_plan 299 = .ok (.bipush 20, 2) := by decide +kernel
theorem dX9_plan_301 : decode cX9_plan 301 = .ok (.iload_n 1, 1) := by decide +kernel
theorem dX9_plan_302 : decode cX9_plan 302 = .ok (.iadd, 1) := by decide +kernel
theorem dX9_plan_303 : decode cX9_plan 303 = .ok (.iaload, 1) := by decide +kernel
theorem dX9_plan_304 : decode cX9_plan 304 = .ok (.iastore, 1) := by decide +kernel
theorem dX9_plan_305 : decode cX9_plan 305 = .ok (.iinc 1 1, 3) := by decide +kernel
theorem dX9_plan_308 : decode cX9_plan 308 = .ok (.goto (-41), 3) := by decide +kernel
theorem dX9_plan_311 : decode cX9_plan 311 = .ok (.aload_n 0, 1) := by decide +kernel
theorem dX9_plan_312 : decode cX9_plan 312 = .ok (.aload_n 0, 1) := by decide +kernel
theorem dX9_plan_313 : decode cX9_plan 313 = .ok (.getfield 186, 3) := by decide +kernel
theorem dX9_plan_316 : decode cX9_plan 316 = .ok (.putfield 173, 3) := by decide +kernel
theorem dX9_plan_319 : decode cX9_plan 319 = .ok (.aload_n 0, 1) := by decide +kernel
theorem dX9_plan_320 : decode cX9_plan 320 = .ok (.getfield 173, 3) := by decide +kernel
theorem dX9_plan_323 : decode cX9_plan 323 = .ok (.ireturn, 1) := by decide +kernel
theorem dX9_fault_0 : decode cX9_fault 0 = .ok (.aload_n 0, 1) := by decide +kernel
theorem dX9_fault_1 : decode cX9_fault 1 = .ok (.getfield 50, 3) := by decide +kernel
theorem dX9_fault_4 : decode cX9_fault 4 = .ok (.ireturn, 1) := by decide +kernel
theorem dX9_findFar_0 : decode cX9_findFar 0 = .ok (.iconst 0, 1) := by decide +kernel
theorem dX9_findFar_1 : decode cX9_findFar 1 = .ok (.istore_n 1, 1) := by decide +kernel
theorem dX9_findFar_2 : decode cX9_findFar 2 = .ok (.iload_n 1, 1) := by decide +kernel
theorem dX9_findFar_3 : decode cX9_findFar 3 = .ok (.bipush 81, 2) := by decide +kernel
theorem dX9_findFar_5 : decode cX9_findFar 5 = .ok (.if_icmp .ge 51, 3) := by decide +kernel
theorem dX9_findFar_8 : decode cX9_findFar 8 = .ok (.aload_n 0, 1) := by decide +kernel
theorem dX9_findFar_9 : decode cX9_findFar 9 = .ok (.getfield 54, 3) := by decide +kernel
theorem dX9_findFar_12 : decode cX9_findFar 12 = .ok (.iload_n 1, 1) := by decide +kernel
theorem dX9_findFar_13 : decode cX9_findFar 13 = .ok (.iload_n 1, 1) := by decide +kernel
theorem dX9_findFar_14 : decode cX9_findFar 14 = .ok (.bipush 9, 2) := by decide +kernel
theorem dX9_findFar_16 : decode cX9_findFar 16 = .ok (.idiv, 1) := by decide +kernel
theorem dX9_findFar_17 : decode cX9_findFar 17 = .ok (.iload_n 1, 1) := by decide +kernel
theorem dX9_findFar_18 : decode cX9_findFar 18 = .ok (.bipush 9, 2) := by decide +kernel
theorem dX9_findFar_20 : decode cX9_findFar 20 = .ok (.irem, 1) := by decide +kernel
theorem dX9_findFar_21 : decode cX9_findFar 21 = .ok (.if_icmp .ne 7, 3) := by decide +kernel
theorem dX9_findFar_24 : decode cX9_findFar 24 = .ok (.iconst 0, 1) := by decide +kernel
theorem dX9_findFar_25 : decode cX9_findFar 25 = .ok (.goto 24, 3) := by decide +kernel
theorem dX9_findFar_28 : decode cX9_findFar 28 = .ok (.aload_n 0, 1) := by decide +kernel
theorem dX9_findFar_29 : decode cX9_findFar 29 = .ok (.getfield 20, 3) := by decide +kernel
theorem dX9_findFar_32 : decode cX9_findFar 32 = .ok (.iload_n 1, 1) := by decide +kernel
theorem dX9_findFar_33 : decode cX9_findFar 33 = .ok (.iaload, 1) := by decide +kernel
theorem dX9_findFar_34 : decode cX9_findFar 34 = .ok (.ifCond .le 12, 3) := by decide +kernel
theorem dX9_findFar_37 : decode cX9_findFar 37 = .ok (.aload_n 0, 1) := by decide +kernel
theorem dX9_findFar_38 : decode cX9_findFar 38 = .ok (.getfield 20, 3) := by decide +kernel
theorem dX9_findFar_41 : decode cX9_findFar 41 = .ok (.iload_n 1, 1) := by decide +kernel
theorem dX9_findFar_42 : decode cX9_findFar 42 = .ok (.iaload, 1) := by decide +kernel
theorem dX9_findFar_43 : decode cX9_findFar 43 = .ok (.goto 6, 3) := by decide +kernel
theorem dX9_findFar_46 : decode cX9_findFar 46 = .ok (.sipush 500, 3) := by decide +kernel
theorem dX9_findFar_49 : decode cX9_findFar 49 = .ok (.iastore, 1) := by decide +kernel
theorem dX9_findFar_50 : decode cX9_findFar 50 = .ok (.iinc 1 1, 3) := by decide +kernel
theorem dX9_findFar_53 : decode cX9_findFar 53 = .ok (.goto (-51), 3) := by decide +kernel
theorem dX9_findFar_56 : decode cX9_findFar 56 = .ok (.iconst 0, 1) := by decide +kernel
theorem dX9_findFar_57 : decode cX9_findFar 57 = .ok (.istore_n 1, 1) := by decide +kernel
theorem dX9_findFar_58 : decode cX9_findFar 58 = .ok (.iload_n 1, 1) := by decide +kernel
theorem dX9_findFar_59 : decode cX9_findFar 59 = .ok (.bipush 9, 2) := by decide +kernel
theorem dX9_findFar_61 : decode cX9_findFar 61 = .ok (.if_icmp .ge 79, 3) := by decide +kernel
theorem dX9_findFar_64 : decode cX9_findFar 64 = .ok (.iconst 0, 1) := by decide +kernel
theorem dX9_findFar_65 : decode cX9_findFar 65 = .ok (.istore_n 2, 1) := by decide +kernel
theorem dX9_findFar_66 : decode cX9_findFar 66 = .ok (.iload_n 2, 1) := by decide +kernel
theorem dX9_findFar_67 : decode cX9_findFar 67 = .ok (.bipush 81, 2) := by decide +kernel
theorem dX9_findFar_69 : decode cX9_findFar 69 = .ok (.if_icmp .ge 65, 3) := by decide +kernel
theorem dX9_findFar_72 : decode cX9_findFar 72 = .ok (.aload_n 0, 1) := by decide +kernel
theorem dX9_findFar_73 : decode cX9_findFar 73 = .ok (.getfield 54, 3) := by decide +kernel
theorem dX9_findFar_76 : decode cX9_findFar 76 = .ok (.iload_n 2, 1) := by decide +kernel
theorem dX9_findFar_77 : decode cX9_findFar 77 = .ok (.bipush 9, 2) := by decide +kernel
theorem dX9_findFar_79 : decode cX9_findFar 79 = .ok (.idiv, 1) := by decide +kernel
theorem dX9_findFar_80 : decode cX9_findFar 80 = .ok (.bipush 9, 2) := by decide +kernel
theorem dX9_findFar_82 : decode cX9_findFar 82 = .ok (.imul, 1) := by decide +kernel
theorem dX9_findFar_83 : decode cX9_findFar 83 = .ok (.iload_n 1, 1) := by decide +kernel
theorem dX9_findFar_84 : decode cX9_findFar 84 = .ok (.iadd, 1) := by decide +kernel
theorem dX9_findFar_85 : decode cX9_findFar 85 = .ok (.iaload, 1) := by decide +kernel
theorem dX9_findFar_86 : decode cX9_findFar 86 = .ok (.aload_n 0, 1) := by decide +kernel
theorem dX9_findFar_87 : decode cX9_findFar 87 = .ok (.getfield 54, 3) := by decide +kernel
theorem dX9_findFar_90 : decode cX9_findFar 90 = .ok (.bipush 9, 2) := by decide +kernel
theorem dX9_findFar_92 : decode cX9_findFar 92 = .ok (.iload_n 1, 1) := by decide +kernel
theorem dX9_findFar_93 : decode cX9_findFar 93 = .ok (.imul, 1) := by decide +kernel
theorem dX9_findFar_94 : decode cX9_findFar 94 = .ok (.iload_n 2, 1) := by decide +kernel
theorem dX9_findFar_95 : decode cX9_findFar 95 = .ok (.bipush 9, 2) := by decide +kernel
theorem dX9_findFar_97 : decode cX9_findFar 97 = .ok (.irem, 1) := by decide +kernel
theorem dX9_findFar_98 : decode cX9_findFar 98 = .ok (.iadd, 1) := by decide +kernel
theorem dX9_findFar_99 : decode cX9_findFar 99 = .ok (.iaload, 1) := by decide +kernel
theorem dX9_findFar_100 : decode cX9_findFar 100 = .ok (.iadd, 1) := by decide +kernel
theorem dX9_findFar_101 : decode cX9_findFar 101 = .ok (.istore_n 3, 1) := by decide +kernel
theorem dX9_findFar_102 : decode cX9_findFar 102 = .ok (.aload_n 0, 1) := by decide +kernel
theorem dX9_findFar_103 : decode cX9_findFar 103 = .ok (.getfield 54, 3) := by decide +kernel
theorem dX9_findFar_106 : decode cX9_findFar 106 = .ok (.iload_n 2, 1) := by decide +kernel
theorem dX9_findFar_107 : decode cX9_findFar 107 = .ok (.iload_n 3, 1) := by decide +kernel
theorem dX9_findFar_108 : decode cX9_findFar 108 = .ok (.aload_n 0, 1) := by decide +kernel
theorem dX9_findFar_109 : decode cX9_findFar 109 = .ok (.getfield 54, 3) := by decide +kernel
theorem dX9_findFar_112 : decode cX9_findFar 112 = .ok (.iload_n 2, 1) := by decide +kernel
theorem dX9_findFar_113 : decode cX9_findFar 113 = .ok (.iaload, 1) := by decide +kernel
theorem dX9_findFar_114 : decode cX9_findFar 114 = .ok (.if_icmp .ge 7, 3) := by decide +kernel
theorem dX9_findFar_117 : decode cX9_findFar 117 = .ok (.iload_n 3, 1) := by decide +kernel
theorem dX9_findFar_118 : decode cX9_findFar 118 = .ok (.goto 9, 3) := by decide +kernel
theorem dX9_findFar_121 : decode cX9_findFar 121 = .ok (.aload_n 0, 1) := by decide +kernel
theorem dX9_findFar_122 : decode cX9_findFar 122 = .ok (.getfield 54, 3) := by decide +kernel
theorem dX9_findFar_125 : decode cX9_findFar 125 = .ok (.iload_n 2, 1) := by decide +kernel
theorem dX9_findFar_126 : decode cX9_findFar 126 = .ok (.iaload, 1) := by decide +kernel
theorem dX9_findFar_127 : decode cX9_findFar 127 = .ok (.iastore, 1) := by decide +kernel
theorem dX9_findFar_128 : decode cX9_findFar 128 = .ok (.iinc 2 1, 3) := by decide +kernel
theorem dX9_findFar_131 : decode cX9_findFar 131 = .ok (.goto (-65), 3) := by decide +kernel
theorem dX9_findFar_134 : decode cX9_findFar 134 = .ok (.iinc 1 1, 3) := by decide +kernel
theorem dX9_findFar_137 : decode cX9_findFar 137 = .ok (.goto (-79), 3) := by decide +kernel
theorem dX9_findFar_140 : decode cX9_findFar 140 = .ok (.return_, 1) := by decide +kernel
theorem dX9_farOf_0 : decode cX9_farOf 0 = .ok (.aload_n 0, 1) := by decide +kernel
theorem dX9_farOf_1 : decode cX9_farOf 1 = .ok (.getfield 54, 3) := by decide +kernel
theorem dX9_farOf_4 : decode cX9_farOf 4 = .ok (.bipush 9, 2) := by decide +kernel
theorem dX9_farOf_6 : decode cX9_farOf 6 = .ok (.iload_n 1, 1) := by decide +kernel
theorem dX9_farOf_7 : decode cX9_farOf 7 = .ok (.imul, 1) := by decide +kernel
theorem dX9_farOf_8 : decode cX9_farOf 8 = .ok (.iload_n 2, 1) := by decide +kernel
theorem dX9_farOf_9 : decode cX9_farOf 9 = .ok (.iadd, 1) := by decide +kernel
theorem dX9_farOf_10 : decode cX9_farOf 10 = .ok (.iaload, 1) := by decide +kernel
theorem dX9_farOf_11 : decode cX9_farOf 11 = .ok (.ireturn, 1) := by decide +kernel
theorem dX9_isHouse_0 : decode cX9_isHouse 0 = .ok (.iload_n 1, 1) := by decide +kernel
theorem dX9_isHouse_1 : decode cX9_isHouse 1 = .ok (.i2l, 1) := by decide +kernel
theorem dX9_isHouse_2 : decode cX9_isHouse 2 = .ok (.lconst 0, 1) := by decide +kernel
theorem dX9_isHouse_3 : decode cX9_isHouse 3 = .ok (.aload_n 0, 1) := by decide +kernel
theorem dX9_isHouse_4 : decode cX9_isHouse 4 = .ok (.getfield 35, 3) := by decide +kernel
theorem dX9_isHouse_7 : decode cX9_isHouse 7 = .ok (.iconst 0, 1) := by decide +kernel
theorem dX9_isHouse_8 : decode cX9_isHouse 8 = .ok (.iaload, 1) := by decide +kernel
theorem dX9_isHouse_9 : decode cX9_isHouse 9 = .ok (.iconst 1, 1) := by decide +kernel
theorem dX9_isHouse_10 : decode cX9_isHouse 10 = .ok (.isub, 1) := by decide +kernel
theorem dX9_isHouse_11 : decode cX9_isHouse 11 = .ok (.i2l, 1) := by decide +kernel
theorem dX9_isHouse_12 : decode cX9_isHouse 12 = .ok (.invokestatic 95, 3) := by decide +kernel
theorem dX9_isHouse_15 : decode cX9_isHouse 15 = .ok (.ireturn, 1) := by decide +kernel
theorem dX9_isPart_0 : decode cX9_isPart 0 = .ok (.iload_n 1, 1) := by decide +kernel
theorem dX9_isPart_1 : decode cX9_isPart 1 = .ok (.i2l, 1) := by decide +kernel
theorem dX9_isPart_2 : decode cX9_isPart 2 = .ok (.lconst 0, 1) := by decide +kernel
theorem dX9_isPart_3 : decode cX9_isPart 3 = .ok (.aload_n 0, 1) := by decide +kernel
theorem dX9_isPart_4 : decode cX9_isPart 4 = .ok (.getfield 35, 3) := by decide +kernel
theorem dX9_isPart_7 : decode cX9_isPart 7 = .ok (.iconst 1, 1) := by decide +kernel
theorem dX9_isPart_8 : decode cX9_isPart 8 = .ok (.iaload, 1) := by decide +kernel
theorem dX9_isPart_9 : decode cX9_isPart 9 = .ok (.iconst 1, 1) := by decide +kernel
theorem dX9_isPart_10 : decode cX9_isPart 10 = .ok (.isub, 1) := by decide +kernel
theorem dX9_isPart_11 : decode cX9_isPart 11 = .ok (.i2l, 1) := by decide +kernel
theorem dX9_isPart_12 : decode cX9_isPart 12 = .ok (.invokestatic 95, 3) := by decide +kernel
theorem dX9_isPart_15 : decode cX9_isPart 15 = .ok (.ireturn, 1) := by decide +kernel
theorem dX9_isParts_0 : decode cX9_isParts 0 = .ok (.iload_n 1, 1) := by decide +kernel
theorem dX9_isParts_1 : decode cX9_isParts 1 = .ok (.i2l, 1) := by decide +kernel
theorem dX9_isParts_2 : decode cX9_isParts 2 = .ok (.lconst 0, 1) := by decide +kernel
theorem dX9_isParts_3 : decode cX9_isParts 3 = .ok (.iconst 1, 1) := by decide +kernel
theorem dX9_isParts_4 : decode cX9_isParts 4 = .ok (.aload_n 0, 1) := by decide +kernel
theorem dX9_isParts_5 : decode cX9_isParts 5 = .ok (.getfield 35, 3) := by decide +kernel
theorem dX9_isParts_8 : decode cX9_isParts 8 = .ok (.iconst 1, 1) := by decide +kernel
theorem dX9_isParts_9 : decode cX9_isParts 9 = .ok (.iaload, 1) := by decide +kernel
theorem dX9_isParts_10 : decode cX9_isParts 10 = .ok (.ishl, 1) := by decide +kernel
theorem dX9_isParts_11 : decode cX9_isParts 11 = .ok (.iconst 1, 1) := by decide +kernel
theorem dX9_isParts_12 : decode cX9_isParts 12 = .ok (.isub, 1) := by decide +kernel
theorem dX9_isParts_13 : decode cX9_isParts 13 = .ok (.i2l, 1) := by decide +kernel
theorem dX9_isParts_14 : decode cX9_isParts 14 = .ok (.invokestatic 95, 3) := by decide +kernel
theorem dX9_isParts_17 : decode cX9_isParts 17 = .ok (.ireturn, 1) := by decide +kernel
theorem dX9_told_0 : decode cX9_told 0 = .ok (.iload_n 1, 1) := by decide +kernel
theorem dX9_told_1 : decode cX9_told 1 = .ok (.tableswitch 88 0 6 #[43, 50, 57, 62, 67, 75, 80], 43) := by decide +kernel
theorem dX9_told_44 : decode cX9_told 44 = .ok (.aload_n 0, 1) := by decide +kernel
theorem dX9_told_45 : decode cX9_told 45 = .ok (.getfield 35, 3) := by decide +kernel
theorem dX9_told_48 : decode cX9_told 48 = .ok (.iconst 0, 1) := by decide +kernel
theorem dX9_told_49 : decode cX9_told 49 = .ok (.iaload, 1) := by decide +kernel
theorem dX9_told_50 : decode cX9_told 50 = .ok (.ireturn, 1) := by decide +kernel
theorem dX9_told_51 : decode cX9_told 51 = .ok (.aload_n 0, 1) := by decide +kernel
theorem dX9_told_52 : decode cX9_told 52 = .ok (.getfield 35, 3) := by decide +kernel
theorem dX9_told_55 : decode cX9_told 55 = .ok (.iconst 1, 1) := by decide +kernel
theorem dX9_told_56 : decode cX9_told 56 = .ok (.iaload, 1) := by decide +kernel
theorem dX9_told_57 : decode cX9_told 57 = .ok (.ireturn, 1) := by decide +kernel
theorem dX9_told_58 : decode cX9_told 58 = .ok (.aload_n 0, 1) := by decide +kernel
theorem dX9_told_59 : decode cX9_told 59 = .ok (.getfield 173, 3) := by decide +kernel
theorem dX9_told_62 : decode cX9_told 62 = .ok (.ireturn, 1) := by decide +kernel
theorem dX9_told_63 : decode cX9_told 63 = .ok (.aload_n 0, 1) := by decide +kernel
theorem dX9_told_64 : decode cX9_told 64 = .ok (.getfield 100, 3) := by decide +kernel
theorem dX9_told_67 : decode cX9_told 67 = .ok (.ireturn, 1) := by decide +kernel
theorem dX9_told_68 : decode cX9_told 68 = .ok (.aload_n 0, 1) := by decide +kernel
theorem dX9_told_69 : decode cX9_told 69 = .ok (.getfield 7, 3) := by decide +kernel
theorem dX9_told_72 : decode cX9_told 72 = .ok (.bipush 24, 2) := by decide +kernel
theorem dX9_told_74 : decode cX9_told 74 = .ok (.iaload, 1) := by decide +kernel
theorem dX9_told_75 : decode cX9_told 75 = .ok (.ireturn, 1) := by decide +kernel
theorem dX9_told_76 : decode cX9_told 76 = .ok (.aload_n 0, 1) := by decide +kernel
theorem dX9_told_77 : decode cX9_told 77 = .ok (.getfield 176, 3) := by decide +kernel
theorem dX9_told_80 : decode cX9_told 80 = .ok (.ireturn, 1) := by decide +kernel
theorem dX9_told_81 : decode cX9_told 81 = .ok (.aload_n 0, 1) := by decide +kernel
theorem dX9_told_82 : decode cX9_told 82 = .ok (.getfield 179, 3) := by decide +kernel
theorem dX9_told_85 : decode cX9_told 85 = .ok (.invokestatic 189, 3) := by decide +kernel
theorem dX9_told_88 : decode cX9_told 88 = .ok (.ireturn, 1) := by decide +kernel
theorem dX9_told_89 : decode cX9_told 89 = .ok (.ldc 99, 2) := by decide +kernel
theorem dX9_told_91 : decode cX9_told 91 = .ok (.ireturn, 1) := by decide +kernel
theorem dX9_partsAt_0 : decode cX9_partsAt 0 = .ok (.iconst 0, 1) := by decide +kernel
theorem dX9_partsAt_1 : decode cX9_partsAt 1 = .ok (.istore_n 2, 1) := by decide +kernel
theorem dX9_partsAt_2 : decode cX9_partsAt 2 = .ok (.iconst 0, 1) := by decide +kernel
theorem dX9_partsAt_3 : decode cX9_partsAt 3 = .ok (.istore_n 3, 1) := by decide +kernel
theorem dX9_partsAt_4 : decode cX9_partsAt 4 = .ok (.iload_n 3, 1) := by decide +kernel
theorem dX9_partsAt_5 : decode cX9_partsAt 5 = .ok (.aload_n 0, 1) := by decide +kernel
theorem dX9_partsAt_6 : decode cX9_partsAt 6 = .ok (.getfield 35, 3) := by decide +kernel
theorem dX9_partsAt_9 : decode cX9_partsAt 9 = .ok (.iconst 1, 1) := by decide +kernel
theorem dX9_partsAt_10 : decode cX9_partsAt 10 = .ok (.iaload, 1) := by decide +kernel
theorem dX9_partsAt_11 : decode cX9_partsAt 11 = .ok (.if_icmp .ge 32, 3) := by decide +kernel
theorem dX9_partsAt_14 : decode cX9_partsAt 14 = .ok (.iload_n 2, 1) := by decide +kernel
theorem dX9_partsAt_15 : decode cX9_partsAt 15 = .ok (.aload_n 0, 1) := by decide +kernel
theorem dX9_partsAt_16 : decode cX9_partsAt 16 = .ok (.getfield 7, 3) := by decide +kernel
theorem dX9_partsAt_19 : decode cX9_partsAt 19 = .ok (.iload_n 3, 1) := by decide +kernel
theorem dX9_partsAt_20 : decode cX9_partsAt 20 = .ok (.iaload, 1) := by decide +kernel
theorem dX9_partsAt_21 : decode cX9_partsAt 21 = .ok (.iload_n 1, 1) := by decide +kernel
theorem dX9_partsAt_22 : decode cX9_partsAt 22 = .ok (.if_icmp .ne 7, 3) := by decide +kernel
theorem dX9_partsAt_25 : decode cX9_partsAt 25 = .ok (.iconst 1, 1) := by decide +kernel
theorem dX9_partsAt_26 : decode cX9_partsAt 26 = .ok (.goto 4, 3) := by decide +kernel
theorem dX9_partsAt_29 : decode cX9_partsAt 29 = .ok (.iconst 0, 1) := by decide +kernel
theorem dX9_partsAt_30 : decode cX9_partsAt 30 = .ok (.invokestatic 150, 3) := by decide +kernel
theorem dX9_partsAt_33 : decode cX9_partsAt 33 = .ok (.iload_n 3, 1) := by decide +kernel
theorem dX9_partsAt_34 : decode cX9_partsAt 34 = .ok (.ishl, 1) := by decide +kernel
theorem dX9_partsAt_35 : decode cX9_partsAt 35 = .ok (.ior, 1) := by decide +kernel
theorem dX9_partsAt_36 : decode cX9_partsAt 36 = .ok (.istore_n 2, 1) := by decide +kernel
theorem dX9_partsAt_37 : decode cX9_partsAt 37 = .ok (.iinc 3 1, 3) := by decide +kernel
theorem dX9_partsAt_40 : decode cX9_partsAt 40 = .ok (.goto (-36), 3) := by decide +kernel
theorem dX9_partsAt_43 : decode cX9_partsAt 43 = .ok (.iload_n 2, 1) := by decide +kernel
theorem dX9_partsAt_44 : decode cX9_partsAt 44 = .ok (.ireturn, 1) := by decide +kernel
theorem dX9_house_0 : decode cX9_house 0 = .ok (.aload_n 0, 1) := by decide +kernel
theorem dX9_house_1 : decode cX9_house 1 = .ok (.iload_n 1, 1) := by decide +kernel
theorem dX9_house_2 : decode cX9_house 2 = .ok (.invokevirtual 193, 3) := by decide +kernel
theorem dX9_house_5 : decode cX9_house 5 = .ok (.ifCond .ne 6, 3) := by decide +kernel
theorem dX9_house_8 : decode cX9_house 8 = .ok (.ldc 197, 2) := by decide +kernel
theorem dX9_house_10 : decode cX9_house 10 = .ok (.ireturn, 1) := by decide +kernel
theorem dX9_house_11 : decode cX9_house 11 = .ok (.iload_n 2, 1) := by decide +kernel
theorem dX9_house_12 : decode cX9_house 12 = .ok (.i2l, 1) := by decide +kernel
theorem dX9_house_13 : decode cX9_house 13 = .ok (.lconst 0, 1) := by decide +kernel
theorem dX9_house_14 : decode cX9_house 14 = .ok (.ldc2_w 198, 3) := by decide +kernel
theorem dX9_house_17 : decode cX9_house 17 = .ok (.invokestatic 95, 3) := by decide +kernel
theorem dX9_house_20 : decode cX9_house 20 = .ok (.ifCond .eq 17, 3) := by decide +kernel
theorem dX9_house_23 : decode cX9_house 23 = .ok (.aload_n 0, 1) := by decide +kernel
theorem dX9_house_24 : decode cX9_house 24 = .ok (.getfield 17, 3) := by decide +kernel
theorem dX9_house_27 : decode cX9_house 27 = .ok (.bipush 6, 2) := by decide +kernel
theorem dX9_house_29 : decode cX9_house 29 = .ok (.iload_n 1, 1) := by decide +kernel
theorem dX9_house_30 : decode cX9_house 30 = .ok (.imul, 1) := by decide +kernel
theorem dX9_house_31 : decode cX9_house 31 = .ok (.iload_n 2, 1) := by decide +kernel
theorem dX9_house_32 : decode cX9_house 32 = .ok (.iadd, 1) := by decide +kernel
theorem dX9_house_33 : decode cX9_house 33 = .ok (.iaload, 1) := by decide +kernel
theorem dX9_house_34 : decode cX9_house 34 = .ok (.goto 19, 3) := by decide +kernel
theorem dX9_house_37 : decode cX9_house 37 = .ok (.iload_n 2, 1) := by decide +kernel
theorem dX9_house_38 : decode cX9_house 38 = .ok (.bipush 6, 2) := by decide +kernel
theorem dX9_house_40 : decode cX9_house 40 = .ok (.if_icmp .ne 11, 3) := by decide +kernel
theorem dX9_house_43 : decode cX9_house 43 = .ok (.aload_n 0, 1) := by decide +kernel
theorem dX9_house_44 : decode cX9_house 44 = .ok (.iload_n 1, 1) := by decide +kernel
theorem dX9_house_45 : decode cX9_house 45 = .ok (.invokevirtual 200, 3) := by decide +kernel
theorem dX9_house_48 : decode cX9_house 48 = .ok (.goto 5, 3) := by decide +kernel
theorem dX9_house_51 : decode cX9_house 51 = .ok (.ldc 99, 2) := by decide +kernel
theorem dX9_house_53 : decode cX9_house 53 = .ok (.ireturn, 1) := by decide +kernel
theorem dX9_far_0 : decode cX9_far 0 = .ok (.aload_n 0, 1) := by decide +kernel
theorem dX9_far_1 : decode cX9_far 1 = .ok (.iload_n 1, 1) := by decide +kernel
theorem dX9_far_2 : decode cX9_far 2 = .ok (.invokevirtual 193, 3) := by decide +kernel
theorem dX9_far_5 : decode cX9_far 5 = .ok (.ifCond .eq 20, 3) := by decide +kernel
theorem dX9_far_8 : decode cX9_far 8 = .ok (.aload_n 0, 1) := by decide +kernel
theorem dX9_far_9 : decode cX9_far 9 = .ok (.iload_n 2, 1) := by decide +kernel
theorem dX9_far_10 : decode cX9_far 10 = .ok (.invokevirtual 193, 3) := by decide +kernel
theorem dX9_far_13 : decode cX9_far 13 = .ok (.ifCond .eq 12, 3) := by decide +kernel
theorem dX9_far_16 : decode cX9_far 16 = .ok (.aload_n 0, 1) := by decide +kernel
theorem dX9_far_17 : decode cX9_far 17 = .ok (.iload_n 1, 1) := by decide +kernel
theorem dX9_far_18 : decode cX9_far 18 = .ok (.iload_n 2, 1) := by decide +kernel
theorem dX9_far_19 : decode cX9_far 19 = .ok (.invokevirtual 203, 3) := by decide +kernel
theorem dX9_far_22 : decode cX9_far 22 = .ok (.goto 5, 3) := by decide +kernel
theorem dX9_far_25 : decode cX9_far 25 = .ok (.ldc 197, 2) := by decide +kernel
theorem dX9_far_27 : decode cX9_far 27 = .ok (.ireturn, 1) := by decide +kernel
theorem dX9_part_0 : decode cX9_part 0 = .ok (.aload_n 0, 1) := by decide +kernel
theorem dX9_part_1 : decode cX9_part 1 = .ok (.iload_n 1, 1) := by decide +kernel
theorem dX9_part_2 : decode cX9_part 2 = .ok (.invokevirtual 206, 3) := by decide +kernel
theorem dX9_part_5 : decode cX9_part 5 = .ok (.ifCond .ne 6, 3) := by decide +kernel
theorem dX9_part_8 : decode cX9_part 8 = .ok (.ldc 197, 2) := by decide +kernel
theorem dX9_part_10 : decode cX9_part 10 = .ok (.ireturn, 1) := by decide +kernel
theorem dX9_part_11 : decode cX9_part 11 = .ok (.iload_n 2, 1) := by decide +kernel
theorem dX9_part_12 : decode cX9_part 12 = .ok (.tableswitch 85 0 5 #[40, 47, 54, 61, 68, 75], 40) := by decide +kernel
theorem dX9_part_52 : decode cX9_part 52 = .ok (.aload_n 0, 1) := by decide +kernel
theorem dX9_part_53 : decode cX9_part 53 = .ok (.getfield 7, 3) := by decide +kernel
theorem dX9_part_56 : decode cX9_part 56 = .ok (.iload_n 1, 1) := by decide +kernel
theorem dX9_part_57 : decode cX9_part 57 = .ok (.iaload, 1) := by decide +kernel
theorem dX9_part_58 : decode cX9_part 58 = .ok (.ireturn, 1) := by decide +kernel
theorem dX9_part_59 : decode cX9_part 59 = .ok (.aload_n 0, 1) := by decide +kernel
theorem dX9_part_60 : decode cX9_part 60 = .ok (.getfield 26, 3) := by decide +kernel
theorem dX9_part_63 : decode cX9_part 63 = .ok (.iload_n 1, 1) := by decide +kernel
theorem dX9_part_64 : decode cX9_part 64 = .ok (.iaload, 1) := by decide +kernel
theorem dX9_part_65 : decode cX9_part 65 = .ok (.ireturn, 1) := by decide +kernel
theorem dX9_part_66 : decode cX9_part 66 = .ok (.aload_n 0, 1) := by decide +kernel
theorem dX9_part_67 : decode cX9_part 67 = .ok (.getfield 29, 3) := by decide +kernel
theorem dX9_part_70 : decode cX9_part 70 = .ok (.iload_n 1, 1) := by decide +kernel
theorem dX9_part_71 : decode cX9_part 71 = .ok (.iaload, 1) := by decide +kernel
theorem dX9_part_72 : decode cX9_part 72 = .ok (.ireturn, 1) := by decide +kernel
theorem dX9_part_73 : decode cX9_part 73 = .ok (.aload_n 0, 1) := by decide +kernel
theorem dX9_part_74 : decode cX9_part 74 = .ok (.getfield 32, 3) := by decide +kernel
theorem dX9_part_77 : decode cX9_part 77 = .ok (.iload_n 1, 1) := by decide +kernel
theorem dX9_part_78 : decode cX9_part 78 = .ok (.iaload, 1) := by decide +kernel
theorem dX9_part_79 : decode cX9_part 79 = .ok (.ireturn, 1) := by decide +kernel
theorem dX9_part_80 : decode cX9_part 80 = .ok (.aload_n 0, 1) := by decide +kernel
theorem dX9_part_81 : decode cX9_part 81 = .ok (.getfield 44, 3) := by decide +kernel
theorem dX9_part_84 : decode cX9_part 84 = .ok (.iload_n 1, 1) := by decide +kernel
theorem dX9_part_85 : decode cX9_part 85 = .ok (.iaload, 1) := by decide +kernel
theorem dX9_part_86 : decode cX9_part 86 = .ok (.ireturn, 1) := by decide +kernel
theorem dX9_part_87 : decode cX9_part 87 = .ok (.aload_n 0, 1) := by decide +kernel
theorem dX9_part_88 : decode cX9_part 88 = .ok (.getfield 7, 3) := by decide +kernel
theorem dX9_part_91 : decode cX9_part 91 = .ok (.bipush 12, 2) := by decide +kernel
theorem dX9_part_93 : decode cX9_part 93 = .ok (.iload_n 1, 1) := by decide +kernel
theorem dX9_part_94 : decode cX9_part 94 = .ok (.iadd, 1) := by decide +kernel
theorem dX9_part_95 : decode cX9_part 95 = .ok (.iaload, 1) := by decide +kernel
theorem dX9_part_96 : decode cX9_part 96 = .ok (.ireturn, 1) := by decide +kernel
theorem dX9_part_97 : decode cX9_part 97 = .ok (.ldc 99, 2) := by decide +kernel
theorem dX9_part_99 : decode cX9_part 99 = .ok (.ireturn, 1) := by decide +kernel
theorem dX9_isAway_0 : decode cX9_isAway 0 = .ok (.iload_n 0, 1) := by decide +kernel
theorem dX9_isAway_1 : decode cX9_isAway 1 = .ok (.iload_n 2, 1) := by decide +kernel
theorem dX9_isAway_2 : decode cX9_isAway 2 = .ok (.if_icmp .eq 15, 3) := by decide +kernel
theorem dX9_isAway_5 : decode cX9_isAway 5 = .ok (.iload_n 1, 1) := by decide +kernel
theorem dX9_isAway_6 : decode cX9_isAway 6 = .ok (.iload_n 0, 1) := by decide +kernel
theorem dX9_isAway_7 : decode cX9_isAway 7 = .ok (.invokestatic 146, 3) := by decide +kernel
theorem dX9_isAway_10 : decode cX9_isAway 10 = .ok (.ifCond .eq 7, 3) := by decide +kernel
theorem dX9_isAway_13 : decode cX9_isAway 13 = .ok (.iconst 1, 1) := by decide +kernel
theorem dX9_isAway_14 : decode cX9_isAway 14 = .ok (.goto 4, 3) := by decide +kernel
theorem dX9_isAway_17 : decode cX9_isAway 17 = .ok (.iconst 0, 1) := by decide +kernel
theorem dX9_isAway_18 : decode cX9_isAway 18 = .ok (.ireturn, 1) := by decide +kernel
theorem dX9_goRound_0 : decode cX9_goRound 0 = .ok (.iload_n 2, 1) := by decide +kernel
theorem dX9_goRound_1 : decode cX9_goRound 1 = .ok (.istore 6, 2) := by decide +kernel
theorem dX9_goRound_3 : decode cX9_goRound 3 = .ok (.iload_n 1, 1) := by decide +kernel
theorem dX9_goRound_4 : decode cX9_goRound 4 = .ok (.istore 7, 2) := by decide +kernel
theorem dX9_goRound_6 : decode cX9_goRound 6 = .ok (.iconst 0, 1) := by decide +kernel
theorem dX9_goRound_7 : decode cX9_goRound 7 = .ok (.istore 8, 2) := by decide +kernel
theorem dX9_goRound_9 : decode cX9_goRound 9 = .ok (.iconst 0, 1) := by decide +kernel
theorem dX9_goRound_10 : decode cX9_goRound 10 = .ok (.istore 9, 2) := by decide +kernel
theorem dX9_goRound_12 : decode cX9_goRound 12 = .ok (.iload 9, 2) := by decide +kernel
theorem dX9_goRound_14 : decode cX9_goRound 14 = .ok (.aload_n 0, 1) := by decide +kernel
theorem dX9_goRound_15 : decode cX9_goRound 15 = .ok (.getfield 209, 3) := by decide +kernel
theorem dX9_goRound_18 : decode cX9_goRound 18 = .ok (.if_icmp .ge 104, 3) := by decide +kernel
theorem dX9_goRound_21 : decode cX9_goRound 21 = .ok (.iload 6, 2) := by decide +kernel
theorem dX9_goRound_23 : decode cX9_goRound 23 = .ok (.aload_n 0, 1) := by decide +kernel
theorem dX9_goRound_24 : decode cX9_goRound 24 = .ok (.iload 7, 2) := by decide +kernel
theorem dX9_goRound_26 : decode cX9_goRound 26 = .ok (.aload_n 0, 1) := by decide +kernel
theorem dX9_goRound_27 : decode cX9_goRound 27 = .ok (.getfield 63, 3) := by decide +kernel
theorem dX9_goRound_30 : decode cX9_goRound 30 = .ok (.iload 9, 2) := by decide +kernel
theorem dX9_goRound_32 : decode cX9_goRound 32 = .ok (.iaload, 1) := by decide +kernel
theorem dX9_goRound_33 : decode cX9_goRound 33 = .ok (.invokevirtual 203, 3) := by decide +kernel
theorem dX9_goRound_36 : decode cX9_goRound 36 = .ok (.iadd, 1) := by decide +kernel
theorem dX9_goRound_37 : decode cX9_goRound 37 = .ok (.istore 6, 2) := by decide +kernel
theorem dX9_goRound_39 : decode cX9_goRound 39 = .ok (.aload_n 0, 1) := by decide +kernel
theorem dX9_goRound_40 : decode cX9_goRound 40 = .ok (.getfield 63, 3) := by decide +kernel
theorem dX9_goRound_43 : decode cX9_goRound 43 = .ok (.iload 9, 2) := by decide +kernel
theorem dX9_goRound_45 : decode cX9_goRound 45 = .ok (.iaload, 1) := by decide +kernel
theorem dX9_goRound_46 : decode cX9_goRound 46 = .ok (.istore 7, 2) := by decide +kernel
theorem dX9_goRound_48 : decode cX9_goRound 48 = .ok (.iload 7, 2) := by decide +kernel
theorem dX9_goRound_50 : decode cX9_goRound 50 = .ok (.iload 5, 2) := by decide +kernel
theorem dX9_goRound_52 : decode cX9_goRound 52 = .ok (.iload 4, 2) := by decide +kernel
theorem dX9_goRound_54 : decode cX9_goRound 54 = .ok (.invokestatic 212, 3) := by decide +kernel
theorem dX9_goRound_57 : decode cX9_goRound 57 = .ok (.ifCond .eq 32, 3) := by decide +kernel
theorem dX9_goRound_60 : decode cX9_goRound 60 = .ok (.iload 6, 2) := by decide +kernel
theorem dX9_goRound_62 : decode cX9_goRound 62 = .ok (.aload_n 0, 1) := by decide +kernel
theorem dX9_goRound_63 : decode cX9_goRound 63 = .ok (.getfield 17, 3) := by decide +kernel
theorem dX9_goRound_66 : decode cX9_goRound 66 = .ok (.bipush 6, 2) := by decide +kernel
theorem dX9_goRound_68 : decode cX9_goRound 68 = .ok (.iload 7, 2) := by decide +kernel
theorem dX9_goRound_70 : decode cX9_goRound 70 = .ok (.imul, 1) := by decide +kernel
theorem dX9_goRound_71 : decode cX9_goRound 71 = .ok (.iconst 1, 1) := by decide +kernel
theorem dX9_goRound_72 : decode cX9_goRound 72 = .ok (.iadd, 1) := by decide +kernel
theorem dX9_goRound_73 : decode cX9_goRound 73 = .ok (.iaload, 1) := by decide +kernel
theorem dX9_goRound_74 : decode cX9_goRound 74 = .ok (.iadd, 1) := by decide +kernel
theorem dX9_goRound_75 : decode cX9_goRound 75 = .ok (.istore 6, 2) := by decide +kernel
theorem dX9_goRound_77 : decode cX9_goRound 77 = .ok (.iload 8, 2) := by decide +kernel
theorem dX9_goRound_79 : decode cX9_goRound 79 = .ok (.iconst 1, 1) := by decide +kernel
theorem dX9_goRound_80 : decode cX9_goRound 80 = .ok (.iload 7, 2) := by decide +kernel
theorem dX9_goRound_82 : decode cX9_goRound 82 = .ok (.ishl, 1) := by decide +kernel
theorem dX9_goRound_83 : decode cX9_goRound 83 = .ok (.ior, 1) := by decide +kernel
theorem dX9_goRound_84 : decode cX9_goRound 84 = .ok (.istore 8, 2) := by decide +kernel
theorem dX9_goRound_86 : decode cX9_goRound 86 = .ok (.goto 30, 3) := by decide +kernel
theorem dX9_goRound_89 : decode cX9_goRound 89 = .ok (.iload 7, 2) := by decide +kernel
theorem dX9_goRound_91 : decode cX9_goRound 91 = .ok (.iload 4, 2) := by decide +kernel
theorem dX9_goRound_93 : decode cX9_goRound 93 = .ok (.if_icmp .eq 23, 3) := by decide +kernel
theorem dX9_goRound_96 : decode cX9_goRound 96 = .ok (.aload_n 0, 1) := by decide +kernel
theorem dX9_goRound_97 : decode cX9_goRound 97 = .ok (.getfield 57, 3) := by decide +kernel
theorem dX9_goRound_100 : decode cX9_goRound 100 = .ok (.iload 7, 2) := by decide +kernel
theorem dX9_goRound_102 : decode cX9_goRound 102 = .ok (.iload 6, 2) := by decide +kernel
theorem dX9_goRound_104 : decode cX9_goRound 104 = .ok (.aload_n 0, 1) := by decide +kernel
theorem dX9_goRound_105 : decode cX9_goRound 105 = .ok (.getfield 17, 3) := by decide +kernel
theorem dX9_goRound_108 : decode cX9_goRound 108 = .ok (.bipush 6, 2) := by decide +kernel
theorem dX9_goRound_110 : decode cX9_goRound 110 = .ok (.iload 7, 2) := by decide +kernel
theorem dX9_goRound_112 : decode cX9_goRound 112 = .ok (.imul, 1) := by decide +kernel
theorem dX9_goRound_113 : decode cX9_goRound 113 = .ok (.iaload, 1) := by decide +kernel
theorem dX9_goRound_114 : decode cX9_goRound 114 = .ok (.iadd, 1) := by decide +kernel
theorem dX9_goRound_115 : decode cX9_goRound 115 = .ok (.iastore, 1) := by decide +kernel
theorem dX9_goRound_116 : decode cX9_goRound 116 = .ok (.iinc 9 1, 3) := by decide +kernel
theorem dX9_goRound_119 : decode cX9_goRound 119 = .ok (.goto (-107), 3) := by decide +kernel
theorem dX9_goRound_122 : decode cX9_goRound 122 = .ok (.iconst 0, 1) := by decide +kernel
theorem dX9_goRound_123 : decode cX9_goRound 123 = .ok (.istore 9, 2) := by decide +kernel
theorem dX9_goRound_125 : decode cX9_goRound 125 = .ok (.iload 9, 2) := by decide +kernel
theorem dX9_goRound_127 : decode cX9_goRound 127 = .ok (.aload_n 0, 1) := by decide +kernel
theorem dX9_goRound_128 : decode cX9_goRound 128 = .ok (.getfield 35, 3) := by decide +kernel
theorem dX9_goRound_131 : decode cX9_goRound 131 = .ok (.iconst 0, 1) := by decide +kernel
theorem dX9_goRound_132 : decode cX9_goRound 132 = .ok (.iaload, 1) := by decide +kernel
theorem dX9_goRound_133 : decode cX9_goRound 133 = .ok (.if_icmp .ge 46, 3) := by decide +kernel
theorem dX9_goRound_136 : decode cX9_goRound 136 = .ok (.aload_n 0, 1) := by decide +kernel
theorem dX9_goRound_137 : decode cX9_goRound 137 = .ok (.getfield 60, 3) := by decide +kernel
theorem dX9_goRound_140 : decode cX9_goRound 140 = .ok (.iload 9, 2) := by decide +kernel
theorem dX9_goRound_142 : decode cX9_goRound 142 = .ok (.iload 8, 2) := by decide +kernel
theorem dX9_goRound_144 : decode cX9_goRound 144 = .ok (.iload 9, 2) := by decide +kernel
theorem dX9_goRound_146 : decode cX9_goRound 146 = .ok (.invokestatic 146, 3) := by decide +kernel
theorem dX9_goRound_149 : decode cX9_goRound 149 = .ok (.ifCond .eq 16, 3) := by decide +kernel
theorem dX9_goRound_152 : decode cX9_goRound 152 = .ok (.iload 6, 2) := by decide +kernel
theorem dX9_goRound_154 : decode cX9_goRound 154 = .ok (.aload_n 0, 1) := by decide +kernel
theorem dX9_goRound_155 : decode cX9_goRound 155 = .ok (.iload 7, 2) := by decide +kernel
theorem dX9_goRound_157 : decode cX9_goRound 157 = .ok (.iload_n 3, 1) := by decide +kernel
theorem dX9_goRound_158 : decode cX9_goRound 158 = .ok (.invokevirtual 203, 3) := by decide +kernel
theorem dX9_goRound_161 : decode cX9_goRound 161 = .ok (.iadd, 1) := by decide +kernel
theorem dX9_goRound_162 : decode cX9_goRound 162 = .ok (.goto 10, 3) := by decide +kernel
theorem dX9_goRound_165 : decode cX9_goRound 165 = .ok (.aload_n 0, 1) := by decide +kernel
theorem dX9_goRound_166 : decode cX9_goRound 166 = .ok (.getfield 60, 3) := by decide +kernel
theorem dX9_goRound_169 : decode cX9_goRound 169 = .ok (.iload 9, 2) := by decide +kernel
theorem dX9_goRound_171 : decode cX9_goRound 171 = .ok (.iaload, 1) := by decide +kernel
theorem dX9_goRound_172 : decode cX9_goRound 172 = .ok (.iastore, 1) := by decide +kernel
theorem dX9_goRound_173 : decode cX9_goRound 173 = .ok (.iinc 9 1, 3) := by decide +kernel
theorem dX9_goRound_176 : decode cX9_goRound 176 = .ok (.goto (-51), 3) := by decide +kernel
theorem dX9_goRound_179 : decode cX9_goRound 179 = .ok (.return_, 1) := by decide +kernel
theorem dX9_begin_0 : decode cX9_begin 0 = .ok (.iconst 0, 1) := by decide +kernel
theorem dX9_begin_1 : decode cX9_begin 1 = .ok (.istore_n 2, 1) := by decide +kernel
theorem dX9_begin_2 : decode cX9_begin 2 = .ok (.iload_n 2, 1) := by decide +kernel
theorem dX9_begin_3 : decode cX9_begin 3 = .ok (.bipush 9, 2) := by decide +kernel
theorem dX9_begin_5 : decode cX9_begin 5 = .ok (.if_icmp .ge 32, 3) := by decide +kernel
theorem dX9_begin_8 : decode cX9_begin 8 = .ok (.aload_n 0, 1) := by decide +kernel
theorem dX9_begin_9 : decode cX9_begin 9 = .ok (.getfield 57, 3) := by decide +kernel
theorem dX9_begin_12 : decode cX9_begin 12 = .ok (.iload_n 2, 1) := by decide +kernel
theorem dX9_begin_13 : decode cX9_begin 13 = .ok (.iload_n 2, 1) := by decide +kernel
theorem dX9_begin_14 : decode cX9_begin 14 = .ok (.iload_n 1, 1) := by decide +kernel
theorem dX9_begin_15 : decode cX9_begin 15 = .ok (.if_icmp .ne 7, 3) := by decide +kernel
theorem dX9_begin_18 : decode cX9_begin 18 = .ok (.iconst 0, 1) := by decide +kernel
theorem dX9_begin_19 : decode cX9_begin 19 = .ok (.goto 4, 3) := by decide +kernel
theorem dX9_begin_22 : decode cX9_begin 22 = .ok (.iconst (-1), 1) := by decide +kernel
theorem dX9_begin_23 : decode cX9_begin 23 = .ok (.iastore, 1) := by decide +kernel
theorem dX9_begin_24 : decode cX9_begin 24 = .ok (.aload_n 0, 1) := by decide +kernel
theorem dX9_begin_25 : decode cX9_begin 25 = .ok (.getfield 60, 3) := by decide +kernel
theorem dX9_begin_28 : decode cX9_begin 28 = .ok (.iload_n 2, 1) := by decide +kernel
theorem dX9_begin_29 : decode cX9_begin 29 = .ok (.iconst (-1), 1) := by decide +kernel
theorem dX9_begin_30 : decode cX9_begin 30 = .ok (.iastore, 1) := by decide +kernel
theorem dX9_begin_31 : decode cX9_begin 31 = .ok (.iinc 2 1, 3) := by decide +kernel
theorem dX9_begin_34 : decode cX9_begin 34 = .ok (.goto (-32), 3) := by decide +kernel
theorem dX9_begin_37 : decode cX9_begin 37 = .ok (.return_, 1) := by decide +kernel
theorem dX9_arriveAwake_0 : decode cX9_arriveAwake 0 = .ok (.iconst 0, 1) := by decide +kernel
theorem dX9_arriveAwake_1 : decode cX9_arriveAwake 1 = .ok (.istore_n 2, 1) := by decide +kernel
theorem dX9_arriveAwake_2 : decode cX9_arriveAwake 2 = .ok (.iload_n 2, 1) := by decide +kernel
theorem dX9_arriveAwake_3 : decode cX9_arriveAwake 3 = .ok (.aload_n 0, 1) := by decide +kernel
theorem dX9_arriveAwake_4 : decode cX9_arriveAwake 4 = .ok (.getfield 35, 3) := by decide +kernel
theorem dX9_arriveAwake_7 : decode cX9_arriveAwake 7 = .ok (.iconst 0, 1) := by decide +kernel
theorem dX9_arriveAwake_8 : decode cX9_arriveAwake 8 = .ok (.iaload, 1) := by decide +kernel
theorem dX9_arriveAwake_9 : decode cX9_arriveAwake 9 = .ok (.if_icmp .ge 46, 3) := by decide +kernel
theorem dX9_arriveAwake_12 : decode cX9_arriveAwake 12 = .ok (.aload_n 0, 1) := by decide +kernel
theorem dX9_arriveAwake_13 : decode cX9_arriveAwake 13 = .ok (.getfield 60, 3) := by decide +kernel
theorem dX9_arriveAwake_16 : decode cX9_arriveAwake 16 = .ok (.iload_n 2, 1) := by decide +kernel
theorem dX9_arriveAwake_17 : decode cX9_arriveAwake 17 = .ok (.aload_n 0, 1) := by decide +kernel
theorem dX9_arriveAwake_18 : decode cX9_arriveAwake 18 = .ok (.getfield 57, 3) := by decide +kernel
theorem dX9_arriveAwake_21 : decode cX9_arriveAwake 21 = .ok (.iload_n 2, 1) := by decide +kernel
theorem dX9_arriveAwake_22 : decode cX9_arriveAwake 22 = .ok (.iaload, 1) := by decide +kernel
theorem dX9_arriveAwake_23 : decode cX9_arriveAwake 23 = .ok (.ifCond .lt 19, 3) := by decide +kernel
theorem dX9_arriveAwake_26 : decode cX9_arriveAwake 26 = .ok (.aload_n 0, 1) := by decide +kernel
theorem dX9_arriveAwake_27 : decode cX9_arriveAwake 27 = .ok (.getfield 57, 3) := by decide +kernel
theorem dX9_arriveAwake_30 : decode cX9_arriveAwake 30 = .ok (.iload_n 2, 1) := by decide +kernel
theorem dX9_arriveAwake_31 : decode cX9_arriveAwake 31 = .ok (.iaload, 1) := by decide +kernel
theorem dX9_arriveAwake_32 : decode cX9_arriveAwake 32 = .ok (.aload_n 0, 1) := by decide +kernel
theorem dX9_arriveAwake_33 : decode cX9_arriveAwake 33 = .ok (.iload_n 2, 1) := by decide +kernel
theorem dX9_arriveAwake_34 : decode cX9_arriveAwake 34 = .ok (.iload_n 1, 1) := by decide +kernel
theorem dX9_arriveAwake_35 : decode cX9_arriveAwake 35 = .ok (.invokevirtual 203, 3) := by decide +kernel
theorem dX9_arriveAwake_38 : decode cX9_arriveAwake 38 = .ok (.iadd, 1) := by decide +kernel
theorem dX9_arriveAwake_39 : decode cX9_arriveAwake 39 = .ok (.goto 9, 3) := by decide +kernel
theorem dX9_arriveAwake_42 : decode cX9_arriveAwake 42 = .ok (.aload_n 0, 1) := by decide +kernel
theorem dX9_arriveAwake_43 : decode cX9_arriveAwake 43 = .ok (.getfield 60, 3) := by decide +kernel
theorem dX9_arriveAwake_46 : decode cX9_arriveAwake 46 = .ok (.iload_n 2, 1) := by decide +kernel
theorem dX9_arriveAwake_47 : decode cX9_arriveAwake 47 = .ok (.iaload, 1) := by decide +kernel
theorem dX9_arriveAwake_48 : decode cX9_arriveAwake 48 = .ok (.iastore, 1) := by decide +kernel
theorem dX9_arriveAwake_49 : decode cX9_arriveAwake 49 = .ok (.iinc 2 1, 3) := by decide +kernel
theorem dX9_arriveAwake_52 : decode cX9_arriveAwake 52 = .ok (.goto (-50), 3) := by decide +kernel
theorem dX9_arriveAwake_55 : decode cX9_arriveAwake 55 = .ok (.return_, 1) := by decide +kernel
theorem dX9_burn_0 : decode cX9_burn 0 = .ok (.aload_n 0, 1) := by decide +kernel
theorem dX9_burn_1 : decode cX9_burn 1 = .ok (.iload_n 2, 1) := by decide +kernel
theorem dX9_burn_2 : decode cX9_burn 2 = .ok (.invokevirtual 216, 3) := by decide +kernel
theorem dX9_burn_5 : decode cX9_burn 5 = .ok (.iconst 0, 1) := by decide +kernel
theorem dX9_burn_6 : decode cX9_burn 6 = .ok (.istore 4, 2) := by decide +kernel
theorem dX9_burn_8 : decode cX9_burn 8 = .ok (.iconst 1, 1) := by decide +kernel
theorem dX9_burn_9 : decode cX9_burn 9 = .ok (.istore 5, 2) := by decide +kernel
theorem dX9_burn_11 : decode cX9_burn 11 = .ok (.iload 5, 2) := by decide +kernel
theorem dX9_burn_13 : decode cX9_burn 13 = .ok (.ifCond .eq 138, 3) := by decide +kernel
theorem dX9_burn_16 : decode cX9_burn 16 = .ok (.iconst 0, 1) := by decide +kernel
theorem dX9_burn_17 : decode cX9_burn 17 = .ok (.istore 5, 2) := by decide +kernel
theorem dX9_burn_19 : decode cX9_burn 19 = .ok (.iconst 0, 1) := by decide +kernel
theorem dX9_burn_20 : decode cX9_burn 20 = .ok (.istore 6, 2) := by decide +kernel
theorem dX9_burn_22 : decode cX9_burn 22 = .ok (.iload 6, 2) := by decide +kernel
theorem dX9_burn_24 : decode cX9_burn 24 = .ok (.aload_n 0, 1) := by decide +kernel
theorem dX9_burn_25 : decode cX9_burn 25 = .ok (.getfield 35, 3) := by decide +kernel
theorem dX9_burn_28 : decode cX9_burn 28 = .ok (.iconst 0, 1) := by decide +kernel
theorem dX9_burn_29 : decode cX9_burn 29 = .ok (.iaload, 1) := by decide +kernel
theorem dX9_burn_30 : decode cX9_burn 30 = .ok (.if_icmp .ge 118, 3) := by decide +kernel
theorem dX9_burn_33 : decode cX9_burn 33 = .ok (.aload_n 0, 1) := by decide +kernel
theorem dX9_burn_34 : decode cX9_burn 34 = .ok (.getfield 57, 3) := by decide +kernel
theorem dX9_burn_37 : decode cX9_burn 37 = .ok (.iload 6, 2) := by decide +kernel
theorem dX9_burn_39 : decode cX9_burn 39 = .ok (.iaload, 1) := by decide +kernel
theorem dX9_burn_40 : decode cX9_burn 40 = .ok (.ifCond .lt 102, 3) := by decide +kernel
theorem dX9_burn_43 : decode cX9_burn 43 = .ok (.iload 4, 2) := by decide +kernel
theorem dX9_burn_45 : decode cX9_burn 45 = .ok (.iload 6, 2) := by decide +kernel
theorem dX9_burn_47 : decode cX9_burn 47 = .ok (.invokestatic 146, 3) := by decide +kernel
theorem dX9_burn_50 : decode cX9_burn 50 = .ok (.ifCond .ne 92, 3) := by decide +kernel
theorem dX9_burn_53 : decode cX9_burn 53 = .ok (.iload 4, 2) := by decide +kernel
theorem dX9_burn_55 : decode cX9_burn 55 = .ok (.iconst 1, 1) := by decide +kernel
theorem dX9_burn_56 : decode cX9_burn 56 = .ok (.iload 6, 2) := by decide +kernel
theorem dX9_burn_58 : decode cX9_burn 58 = .ok (.ishl, 1) := by decide +kernel
theorem dX9_burn_59 : decode cX9_burn 59 = .ok (.ior, 1) := by decide +kernel
theorem dX9_burn_60 : decode cX9_burn 60 = .ok (.istore 4, 2) := by decide +kernel
theorem dX9_burn_62 : decode cX9_burn 62 = .ok (.iconst 1, 1) := by decide +kernel
theorem dX9_burn_63 : decode cX9_burn 63 = .ok (.istore 5, 2) := by decide +kernel
theorem dX9_burn_65 : decode cX9_burn 65 = .ok (.aload_n 0, 1) := by decide +kernel
theorem dX9_burn_66 : decode cX9_burn 66 = .ok (.iconst 0, 1) := by decide +kernel
theorem dX9_burn_67 : decode cX9_burn 67 = .ok (.putfield 209, 3) := by decide +kernel
theorem dX9_burn_70 : decode cX9_burn 70 = .ok (.iconst 0, 1) := by decide +kernel
theorem dX9_burn_71 : decode cX9_burn 71 = .ok (.istore 7, 2) := by decide +kernel
theorem dX9_burn_73 : decode cX9_burn 73 = .ok (.iload 7, 2) := by decide +kernel
theorem dX9_burn_75 : decode cX9_burn 75 = .ok (.aload_n 0, 1) := by decide +kernel
theorem dX9_burn_76 : decode cX9_burn 76 = .ok (.getfield 173, 3) := by decide +kernel
theorem dX9_burn_79 : decode cX9_burn 79 = .ok (.if_icmp .ge 47, 3) := by decide +kernel
theorem dX9_burn_82 : decode cX9_burn 82 = .ok (.aload_n 0, 1) := by decide +kernel
theorem dX9_burn_83 : decode cX9_burn 83 = .ok (.getfield 38, 3) := by decide +kernel
theorem dX9_burn_86 : decode cX9_burn 86 = .ok (.iload 7, 2) := by decide +kernel
theorem dX9_burn_88 : decode cX9_burn 88 = .ok (.iaload, 1) := by decide +kernel
theorem dX9_burn_89 : decode cX9_burn 89 = .ok (.iload 6, 2) := by decide +kernel
theorem dX9_burn_91 : decode cX9_burn 91 = .ok (.if_icmp .ne 29, 3) := by decide +kernel
theorem dX9_burn_94 : decode cX9_burn 94 = .ok (.aload_n 0, 1) := by decide +kernel
theorem dX9_burn_95 : decode cX9_burn 95 = .ok (.getfield 63, 3) := by decide +kernel
theorem dX9_burn_98 : decode cX9_burn 98 = .ok (.aload_n 0, 1) := by decide +kernel
theorem dX9_burn_99 : decode cX9_burn 99 = .ok (.getfield 209, 3) := by decide +kernel
theorem dX9_burn_102 : decode cX9_burn 102 = .ok (.aload_n 0, 1) := by decide +kernel
theorem dX9_burn_103 : decode cX9_burn 103 = .ok (.getfield 41, 3) := by decide +kernel
theorem dX9_burn_106 : decode cX9_burn 106 = .ok (.iload 7, 2) := by decide +kernel
theorem dX9_burn_108 : decode cX9_burn 108 = .ok (.iaload, 1) := by decide +kernel
theorem dX9_burn_109 : decode cX9_burn 109 = .ok (.iastore, 1) := by decide +kernel
theorem dX9_burn_110 : decode cX9_burn 110 = .ok (.aload_n 0, 1) := by decide +kernel
theorem dX9_burn_111 : decode cX9_burn 111 = .ok (.dup, 1) := by decide +kernel
theorem dX9_burn_112 : decode cX9_burn 112 = .ok (.getfield 209, 3) := by decide +kernel
theorem dX9_burn_115 : decode cX9_burn 115 = .ok (.iconst 1, 1) := by decide +kernel
theorem dX9_burn_116 : decode cX9_burn 116 = .ok (.iadd, 1) := by decide +kernel
theorem dX9_burn_117 : decode cX9_burn 117 = .ok (.putfield 209, 3) := by decide +kernel
theorem dX9_burn_120 : decode cX9_burn 120 = .ok (.iinc 7 1, 3) := by decide +kernel
theorem dX9_burn_123 : decode cX9_burn 123 = .ok (.goto (-50), 3) := by decide +kernel
theorem dX9_burn_126 : decode cX9_burn 126 = .ok (.aload_n 0, 1) := by decide +kernel
theorem dX9_burn_127 : decode cX9_burn 127 = .ok (.iload 6, 2) := by decide +kernel
theorem dX9_burn_129 : decode cX9_burn 129 = .ok (.aload_n 0, 1) := by decide +kernel
theorem dX9_burn_130 : decode cX9_burn 130 = .ok (.getfield 57, 3) := by decide +kernel
theorem dX9_burn_133 : decode cX9_burn 133 = .ok (.iload 6, 2) := by decide +kernel
theorem dX9_burn_135 : decode cX9_burn 135 = .ok (.iaload, 1) := by decide +kernel
theorem dX9_burn_136 : decode cX9_burn 136 = .ok (.iload_n 1, 1) := by decide +kernel
theorem dX9_burn_137 : decode cX9_burn 137 = .ok (.iload_n 2, 1) := by decide +kernel
theorem dX9_burn_138 : decode cX9_burn 138 = .ok (.iload_n 3, 1) := by decide +kernel
theorem dX9_burn_139 : decode cX9_burn 139 = .ok (.invokevirtual 219, 3) := by decide +kernel
theorem dX9_burn_142 : decode cX9_burn 142 = .ok (.iinc 6 1, 3) := by decide +kernel
theorem dX9_burn_145 : decode cX9_burn 145 = .ok (.goto (-123), 3) := by decide +kernel
theorem dX9_burn_148 : decode cX9_burn 148 = .ok (.goto (-137), 3) := by decide +kernel
theorem dX9_burn_151 : decode cX9_burn 151 = .ok (.aload_n 0, 1) := by decide +kernel
theorem dX9_burn_152 : decode cX9_burn 152 = .ok (.iload_n 1, 1) := by decide +kernel
theorem dX9_burn_153 : decode cX9_burn 153 = .ok (.invokevirtual 223, 3) := by decide +kernel
theorem dX9_burn_156 : decode cX9_burn 156 = .ok (.return_, 1) := by decide +kernel
theorem dX9_comeAll_0 : decode cX9_comeAll 0 = .ok (.iconst 0, 1) := by decide +kernel
theorem dX9_comeAll_1 : decode cX9_comeAll 1 = .ok (.istore_n 1, 1) := by decide +kernel
theorem dX9_comeAll_2 : decode cX9_comeAll 2 = .ok (.iload_n 1, 1) := by decide +kernel
theorem dX9_comeAll_3 : decode cX9_comeAll 3 = .ok (.aload_n 0, 1) := by decide +kernel
theorem dX9_comeAll_4 : decode cX9_comeAll 4 = .ok (.getfield 35, 3) := by decide +kernel
theorem dX9_comeAll_7 : decode cX9_comeAll 7 = .ok (.iconst 1, 1) := by decide +kernel
theorem dX9_comeAll_8 : decode cX9_comeAll 8 = .ok (.iaload, 1) := by decide +kernel
theorem dX9_comeAll_9 : decode cX9_comeAll 9 = .ok (.if_icmp .ge 26, 3) := by decide +kernel
theorem dX9_comeAll_12 : decode cX9_comeAll 12 = .ok (.aload_n 0, 1) := by decide +kernel
theorem dX9_comeAll_13 : decode cX9_comeAll 13 = .ok (.getfield 66, 3) := by decide +kernel
theorem dX9_comeAll_16 : decode cX9_comeAll 16 = .ok (.iload_n 1, 1) := by decide +kernel
theorem dX9_comeAll_17 : decode cX9_comeAll 17 = .ok (.aload_n 0, 1) := by decide +kernel
theorem dX9_comeAll_18 : decode cX9_comeAll 18 = .ok (.getfield 60, 3) := by decide +kernel
theorem dX9_comeAll_21 : decode cX9_comeAll 21 = .ok (.aload_n 0, 1) := by decide +kernel
theorem dX9_comeAll_22 : decode cX9_comeAll 22 = .ok (.getfield 7, 3) := by decide +kernel
theorem dX9_comeAll_25 : decode cX9_comeAll 25 = .ok (.iload_n 1, 1) := by decide +kernel
theorem dX9_comeAll_26 : decode cX9_comeAll 26 = .ok (.iaload, 1) := by decide +kernel
theorem dX9_comeAll_27 : decode cX9_comeAll 27 = .ok (.iaload, 1) := by decide +kernel
theorem dX9_comeAll_28 : decode cX9_comeAll 28 = .ok (.iastore, 1) := by decide +kernel
theorem dX9_comeAll_29 : decode cX9_comeAll 29 = .ok (.iinc 1 1, 3) := by decide +kernel
theorem dX9_comeAll_32 : decode cX9_comeAll 32 = .ok (.goto (-30), 3) := by decide +kernel
theorem dX9_comeAll_35 : decode cX9_comeAll 35 = .ok (.return_, 1) := by decide +kernel
theorem dX9_putIn_0 : decode cX9_putIn 0 = .ok (.aload_n 0, 1) := by decide +kernel
theorem dX9_putIn_1 : decode cX9_putIn 1 = .ok (.iconst 0, 1) := by decide +kernel
theorem dX9_putIn_2 : decode cX9_putIn 2 = .ok (.putfield 226, 3) := by decide +kernel
theorem dX9_putIn_5 : decode cX9_putIn 5 = .ok (.iconst 0, 1) := by decide +kernel
theorem dX9_putIn_6 : decode cX9_putIn 6 = .ok (.istore_n 2, 1) := by decide +kernel
theorem dX9_putIn_7 : decode cX9_putIn 7 = .ok (.iload_n 2, 1) := by decide +kernel
theorem dX9_putIn_8 : decode cX9_putIn 8 = .ok (.aload_n 0, 1) := by decide +kernel
theorem dX9_putIn_9 : decode cX9_putIn 9 = .ok (.getfield 35, 3) := by decide +kernel
theorem dX9_putIn_12 : decode cX9_putIn 12 = .ok (.iconst 1, 1) := by decide +kernel
theorem dX9_putIn_13 : decode cX9_putIn 13 = .ok (.iaload, 1) := by decide +kernel
theorem dX9_putIn_14 : decode cX9_putIn 14 = .ok (.if_icmp .ge 181, 3) := by decide +kernel
theorem dX9_putIn_17 : decode cX9_putIn 17 = .ok (.iload_n 1, 1) := by decide +kernel
theorem dX9_putIn_18 : decode cX9_putIn 18 = .ok (.iload_n 2, 1) := by decide +kernel
theorem dX9_putIn_19 : decode cX9_putIn 19 = .ok (.invokestatic 146, 3) := by decide +kernel
theorem dX9_putIn_22 : decode cX9_putIn 22 = .ok (.ifCond .eq 167, 3) := by decide +kernel
theorem dX9_putIn_25 : decode cX9_putIn 25 = .ok (.aload_n 0, 1) := by decide +kernel
theorem dX9_putIn_26 : decode cX9_putIn 26 = .ok (.getfield 66, 3) := by decide +kernel
theorem dX9_putIn_29 : decode cX9_putIn 29 = .ok (.iload_n 2, 1) := by decide +kernel
theorem dX9_putIn_30 : decode cX9_putIn 30 = .ok (.iaload, 1) := by decide +kernel
theorem dX9_putIn_31 : decode cX9_putIn 31 = .ok (.ifCond .ge 5, 3) := by decide +kernel
theorem dX9_putIn_34 : decode cX9_putIn 34 = .ok (.iconst (-1), 1) := by decide +kernel
theorem dX9_putIn_35 : decode cX9_putIn 35 = .ok (.ireturn, 1) := by decide +kernel
theorem dX9_putIn_36 : decode cX9_putIn 36 = .ok (.aload_n 0, 1) := by decide +kernel
theorem dX9_putIn_37 : decode cX9_putIn 37 = .ok (.getfield 69, 3) := by decide +kernel
theorem dX9_putIn_40 : decode cX9_putIn 40 = .ok (.iload_n 2, 1) := by decide +kernel
theorem dX9_putIn_41 : decode cX9_putIn 41 = .ok (.aload_n 0, 1) := by decide +kernel
theorem dX9_putIn_42 : decode cX9_putIn 42 = .ok (.getfield 66, 3) := by decide +kernel
theorem dX9_putIn_45 : decode cX9_putIn 45 = .ok (.iload_n 2, 1) := by decide +kernel
theorem dX9_putIn_46 : decode cX9_putIn 46 = .ok (.iaload, 1) := by decide +kernel
theorem dX9_putIn_47 : decode cX9_putIn 47 = .ok (.iastore, 1) := by decide +kernel
theorem dX9_putIn_48 : decode cX9_putIn 48 = .ok (.iconst 0, 1) := by decide +kernel
theorem dX9_putIn_49 : decode cX9_putIn 49 = .ok (.istore_n 3, 1) := by decide +kernel
theorem dX9_putIn_50 : decode cX9_putIn 50 = .ok (.iload_n 3, 1) := by decide +kernel
theorem dX9_putIn_51 : decode cX9_putIn 51 = .ok (.iload_n 2, 1) := by decide +kernel
theorem dX9_putIn_52 : decode cX9_putIn 52 = .ok (.if_icmp .ge 69, 3) := by decide +kernel
theorem dX9_putIn_55 : decode cX9_putIn 55 = .ok (.aload_n 0, 1) := by decide +kernel
theorem dX9_putIn_56 : decode cX9_putIn 56 = .ok (.getfield 32, 3) := by decide +kernel
theorem dX9_putIn_59 : decode cX9_putIn 59 = .ok (.iload_n 2, 1) := by decide +kernel
theorem dX9_putIn_60 : decode cX9_putIn 60 = .ok (.iaload, 1) := by decide +kernel
theorem dX9_putIn_61 : decode cX9_putIn 61 = .ok (.iload_n 3, 1) := by decide +kernel
theorem dX9_putIn_62 : decode cX9_putIn 62 = .ok (.invokestatic 146, 3) := by decide +kernel
theorem dX9_putIn_65 : decode cX9_putIn 65 = .ok (.ifCond .eq 19, 3) := by decide +kernel
theorem dX9_putIn_68 : decode cX9_putIn 68 = .ok (.aload_n 0, 1) := by decide +kernel
theorem dX9_putIn_69 : decode cX9_putIn 69 = .ok (.getfield 69, 3) := by decide +kernel
theorem dX9_putIn_72 : decode cX9_putIn 72 = .ok (.iload_n 3, 1) := by decide +kernel
theorem dX9_putIn_73 : decode cX9_putIn 73 = .ok (.iaload, 1) := by decide +kernel
theorem dX9_putIn_74 : decode cX9_putIn 74 = .ok (.aload_n 0, 1) := by decide +kernel
theorem dX9_putIn_75 : decode cX9_putIn 75 = .ok (.getfield 26, 3) := by decide +kernel
theorem dX9_putIn_78 : decode cX9_putIn 78 = .ok (.iload_n 3, 1) := by decide +kernel
theorem dX9_putIn_79 : decode cX9_putIn 79 = .ok (.iaload, 1) := by decide +kernel
theorem dX9_putIn_80 : decode cX9_putIn 80 = .ok (.iadd, 1) := by decide +kernel
theorem dX9_putIn_81 : decode cX9_putIn 81 = .ok (.goto 4, 3) := by decide +kernel
theorem dX9_putIn_84 : decode cX9_putIn 84 = .ok (.iconst 0, 1) := by decide +kernel
theorem dX9_putIn_85 : decode cX9_putIn 85 = .ok (.istore 4, 2) := by decide +kernel
theorem dX9_putIn_87 : decode cX9_putIn 87 = .ok (.aload_n 0, 1) := by decide +kernel
theorem dX9_putIn_88 : decode cX9_putIn 88 = .ok (.getfield 69, 3) := by decide +kernel
theorem dX9_putIn_91 : decode cX9_putIn 91 = .ok (.iload_n 2, 1) := by decide +kernel
theorem dX9_putIn_92 : decode cX9_putIn 92 = .ok (.iload 4, 2) := by decide +kernel
theorem dX9_putIn_94 : decode cX9_putIn 94 = .ok (.aload_n 0, 1) := by decide +kernel
theorem dX9_putIn_95 : decode cX9_putIn 95 = .ok (.getfield 69, 3) := by decide +kernel
theorem dX9_putIn_98 : decode cX9_putIn 98 = .ok (.iload_n 2, 1) := by decide +kernel
theorem dX9_putIn_99 : decode cX9_putIn 99 = .ok (.iaload, 1) := by decide +kernel
theorem dX9_putIn_100 : decode cX9_putIn 100 = .ok (.if_icmp .le 8, 3) := by decide +kernel
theorem dX9_putIn_103 : decode cX9_putIn 103 = .ok (.iload 4, 2) := by decide +kernel
theorem dX9_putIn_105 : decode cX9_putIn 105 = .ok (.goto 9, 3) := by decide +kernel
theorem dX9_putIn_108 : decode cX9_putIn 108 = .ok (.aload_n 0, 1) := by decide +kernel
theorem dX9_putIn_109 : decode cX9_putIn 109 = .ok (.getfield 69, 3) := by decide +kernel
theorem dX9_putIn_112 : decode cX9_putIn 112 = .ok (.iload_n 2, 1) := by decide +kernel
theorem dX9_putIn_113 : decode cX9_putIn 113 = .ok (.iaload, 1) := by decide +kernel
theorem dX9_putIn_114 : decode cX9_putIn 114 = .ok (.iastore, 1) := by decide +kernel
theorem dX9_putIn_115 : decode cX9_putIn 115 = .ok (.iinc 3 1, 3) := by decide +kernel
theorem dX9_putIn_118 : decode cX9_putIn 118 = .ok (.goto (-68), 3) := by decide +kernel
theorem dX9_putIn_121 : decode cX9_putIn 121 = .ok (.aload_n 0, 1) := by decide +kernel
theorem dX9_putIn_122 : decode cX9_putIn 122 = .ok (.getfield 226, 3) := by decide +kernel
theorem dX9_putIn_125 : decode cX9_putIn 125 = .ok (.istore_n 3, 1) := by decide +kernel
theorem dX9_putIn_126 : decode cX9_putIn 126 = .ok (.iload_n 3, 1) := by decide +kernel
theorem dX9_putIn_127 : decode cX9_putIn 127 = .ok (.ifCond .le 45, 3) := by decide +kernel
theorem dX9_putIn_130 : decode cX9_putIn 130 = .ok (.aload_n 0, 1) := by decide +kernel
theorem dX9_putIn_131 : decode cX9_putIn 131 = .ok (.getfield 69, 3) := by decide +kernel
theorem dX9_putIn_134 : decode cX9_putIn 134 = .ok (.aload_n 0, 1) := by decide +kernel
theorem dX9_putIn_135 : decode cX9_putIn 135 = .ok (.getfield 72, 3) := by decide +kernel
theorem dX9_putIn_138 : decode cX9_putIn 138 = .ok (.iload_n 3, 1) := by decide +kernel
theorem dX9_putIn_139 : decode cX9_putIn 139 = .ok (.iconst 1, 1) := by decide +kernel
theorem dX9_putIn_140 : decode cX9_putIn 140 = .ok (.isub, 1) := by decide +kernel
theorem dX9_putIn_141 : decode cX9_putIn 141 = .ok (.iaload, 1) := by decide +kernel
theorem dX9_putIn_142 : decode cX9_putIn 142 = .ok (.iaload, 1) := by decide +kernel
theorem dX9_putIn_143 : decode cX9_putIn 143 = .ok (.aload_n 0, 1) := by decide +kernel
theorem dX9_putIn_144 : decode cX9_putIn 144 = .ok (.getfield 69, 3) := by decide +kernel
theorem dX9_putIn_147 : decode cX9_putIn 147 = .ok (.iload_n 2, 1) := by decide +kernel
theorem dX9_putIn_148 : decode cX9_putIn 148 = .ok (.iaload, 1) := by decide +kernel
theorem dX9_putIn_149 : decode cX9_putIn 149 = .ok (.if_icmp .le 23, 3) := by decide +kernel
theorem dX9_putIn_152 : decode cX9_putIn 152 = .ok (.aload_n 0, 1) := by decide +kernel
theorem dX9_putIn_153 : decode cX9_putIn 153 = .ok (.getfield 72, 3) := by decide +kernel
theorem dX9_putIn_156 : decode cX9_putIn 156 = .ok (.iload_n 3, 1) := by decide +kernel
theorem dX9_putIn_157 : decode cX9_putIn 157 = .ok (.aload_n 0, 1) := by decide +kernel
theorem dX9_putIn_158 : decode cX9_putIn 158 = .ok (.getfield 72, 3) := by decide +kernel
theorem dX9_putIn_161 : decode cX9_putIn 161 = .ok (.iload_n 3, 1) := by decide +kernel
theorem dX9_putIn_162 : decode cX9_putIn 162 = .ok (.iconst 1, 1) := by decide +kernel
theorem dX9_putIn_163 : decode cX9_putIn 163 = .ok (.isub, 1) := by decide +kernel
theorem dX9_putIn_164 : decode cX9_putIn 164 = .ok (.iaload, 1) := by decide +kernel
theorem dX9_putIn_165 : decode cX9_putIn 165 = .ok (.iastore, 1) := by decide +kernel
theorem dX9_putIn_166 : decode cX9_putIn 166 = .ok (.iinc 3 (-1), 3) := by decide +kernel
theorem dX9_putIn_169 : decode cX9_putIn 169 = .ok (.goto (-43), 3) := by decide +kernel
theorem dX9_putIn_172 : decode cX9_putIn 172 = .ok (.aload_n 0, 1) := by decide +kernel
theorem dX9_putIn_173 : decode cX9_putIn 173 = .ok (.getfield 72, 3) := by decide +kernel
theorem dX9_putIn_176 : decode cX9_putIn 176 = .ok (.iload_n 3, 1) := by decide +kernel
theorem dX9_putIn_177 : decode cX9_putIn 177 = .ok (.iload_n 2, 1) := by decide +kernel
theorem dX9_putIn_178 : decode cX9_putIn 178 = .ok (.iastore, 1) := by decide +kernel
theorem dX9_putIn_179 : decode cX9_putIn 179 = .ok (.aload_n 0, 1) := by decide +kernel
theorem dX9_putIn_180 : decode cX9_putIn 180 = .ok (.dup, 1) := by decide +kernel
theorem dX9_putIn_181 : decode cX9_putIn 181 = .ok (.getfield 226, 3) := by decide +kernel
theorem dX9_putIn_184 : decode cX9_putIn 184 = .ok (.iconst 1, 1) := by decide +kernel
theorem dX9_putIn_185 : decode cX9_putIn 185 = .ok (.iadd, 1) := by decide +kernel
theorem dX9_putIn_186 : decode cX9_putIn 186 = .ok (.putfield 226, 3) := by decide +kernel
theorem dX9_putIn_189 : decode cX9_putIn 189 = .ok (.iinc 2 1, 3) := by decide +kernel
theorem dX9_putIn_192 : decode cX9_putIn 192 = .ok (.goto (-185), 3) := by decide +kernel
theorem dX9_putIn_195 : decode cX9_putIn 195 = .ok (.iconst 0, 1) := by decide +kernel
theorem dX9_putIn_196 : decode cX9_putIn 196 = .ok (.istore_n 2, 1) := by decide +kernel
theorem dX9_putIn_197 : decode cX9_putIn 197 = .ok (.iconst 0, 1) := by decide +kernel
theorem dX9_putIn_198 : decode cX9_putIn 198 = .ok (.istore_n 3, 1) := by decide +kernel
theorem dX9_putIn_199 : decode cX9_putIn 199 = .ok (.iload_n 3, 1) := by decide +kernel
theorem dX9_putIn_200 : decode cX9_putIn 200 = .ok (.aload_n 0, 1) := by decide +kernel
theorem dX9_putIn_201 : decode cX9_putIn 201 = .ok (.getfield 226, 3) := by decide +kernel
theorem dX9_putIn_204 : decode cX9_putIn 204 = .ok (.if_icmp .ge 60, 3) := by decide +kernel
theorem dX9_putIn_207 : decode cX9_putIn 207 = .ok (.aload_n 0, 1) := by decide +kernel
theorem dX9_putIn_208 : decode cX9_putIn 208 = .ok (.getfield 72, 3) := by decide +kernel
theorem dX9_putIn_211 : decode cX9_putIn 211 = .ok (.iload_n 3, 1) := by decide +kernel
theorem dX9_putIn_212 : decode cX9_putIn 212 = .ok (.iaload, 1) := by decide +kernel
theorem dX9_putIn_213 : decode cX9_putIn 213 = .ok (.istore 4, 2) := by decide +kernel
theorem dX9_putIn_215 : decode cX9_putIn 215 = .ok (.aload_n 0, 1) := by decide +kernel
theorem dX9_putIn_216 : decode cX9_putIn 216 = .ok (.getfield 75, 3) := by decide +kernel
theorem dX9_putIn_219 : decode cX9_putIn 219 = .ok (.iload_n 3, 1) := by decide +kernel
theorem dX9_putIn_220 : decode cX9_putIn 220 = .ok (.aload_n 0, 1) := by decide +kernel
theorem dX9_putIn_221 : decode cX9_putIn 221 = .ok (.getfield 66, 3) := by decide +kernel
theorem dX9_putIn_224 : decode cX9_putIn 224 = .ok (.iload 4, 2) := by decide +kernel
theorem dX9_putIn_226 : decode cX9_putIn 226 = .ok (.iaload, 1) := by decide +kernel
theorem dX9_putIn_227 : decode cX9_putIn 227 = .ok (.iload_n 2, 1) := by decide +kernel
theorem dX9_putIn_228 : decode cX9_putIn 228 = .ok (.if_icmp .le 13, 3) := by decide +kernel
theorem dX9_putIn_231 : decode cX9_putIn 231 = .ok (.aload_n 0, 1) := by decide +kernel
theorem dX9_putIn_232 : decode cX9_putIn 232 = .ok (.getfield 66, 3) := by decide +kernel
theorem dX9_putIn_235 : decode cX9_putIn 235 = .ok (.iload 4, 2) := by decide +kernel
theorem dX9_putIn_237 : decode cX9_putIn 237 = .ok (.iaload, 1) := by decide +kernel
theorem dX9_putIn_238 : decode cX9_putIn 238 = .ok (.goto 4, 3) := by decide +kernel
theorem dX9_putIn_241 : decode cX9_putIn 241 = .ok (.iload_n 2, 1) := by decide +kernel
theorem dX9_putIn_242 : decode cX9_putIn 242 = .ok (.iastore, 1) := by decide +kernel
theorem dX9_putIn_243 : decode cX9_putIn 243 = .ok (.aload_n 0, 1) := by decide +kernel
theorem dX9_putIn_244 : decode cX9_putIn 244 = .ok (.getfield 75, 3) := by decide +kernel
theorem dX9_putIn_247 : decode cX9_putIn 247 = .ok (.iload_n 3, 1) := by decide +kernel
theorem dX9_putIn_248 : decode cX9_putIn 248 = .ok (.iaload, 1) := by decide +kernel
theorem dX9_putIn_249 : decode cX9_putIn 249 = .ok (.aload_n 0, 1) := by decide +kernel
theorem dX9_putIn_250 : decode cX9_putIn 250 = .ok (.getfield 26, 3) := by decide +kernel
theorem dX9_putIn_253 : decode cX9_putIn 253 = .ok (.iload 4, 2) := by decide +kernel
theorem dX9_putIn_255 : decode cX9_putIn 255 = .ok (.iaload, 1) := by decide +kernel
theorem dX9_putIn_256 : decode cX9_putIn 256 = .ok (.iadd, 1) := by decide +kernel
theorem dX9_putIn_257 : decode cX9_putIn 257 = .ok (.istore_n 2, 1) := by decide +kernel
theorem dX9_putIn_258 : decode cX9_putIn 258 = .ok (.iinc 3 1, 3) := by decide +kernel
theorem dX9_putIn_261 : decode cX9_putIn 261 = .ok (.goto (-62), 3) := by decide +kernel
theorem dX9_putIn_264 : decode cX9_putIn 264 = .ok (.iload_n 2, 1) := by decide +kernel
theorem dX9_putIn_265 : decode cX9_putIn 265 = .ok (.ireturn, 1) := by decide +kernel
theorem dX9_allParts_0 : decode cX9_allParts 0 = .ok (.iconst 1, 1) := by decide +kernel
theorem dX9_allParts_1 : decode cX9_allParts 1 = .ok (.aload_n 0, 1) := by decide +kernel
theorem dX9_allParts_2 : decode cX9_allParts 2 = .ok (.getfield 35, 3) := by decide +kernel
theorem dX9_allParts_5 : decode cX9_allParts 5 = .ok (.iconst 1, 1) := by decide +kernel
theorem dX9_allParts_6 : decode cX9_allParts 6 = .ok (.iaload, 1) := by decide +kernel
theorem dX9_allParts_7 : decode cX9_allParts 7 = .ok (.ishl, 1) := by decide +kernel
theorem dX9_allParts_8 : decode cX9_allParts 8 = .ok (.iconst 1, 1) := by decide +kernel
theorem dX9_allParts_9 : decode cX9_allParts 9 = .ok (.isub, 1) := by decide +kernel
theorem dX9_allParts_10 : decode cX9_allParts 10 = .ok (.ireturn, 1) := by decide +kernel
theorem dX9_standsBy_0 : decode cX9_standsBy 0 = .ok (.aload_n 0, 1) := by decide +kernel
theorem dX9_standsBy_1 : decode cX9_standsBy 1 = .ok (.iload_n 1, 1) := by decide +kernel
theorem dX9_standsBy_2 : decode cX9_standsBy 2 = .ok (.iload_n 2, 1) := by decide +kernel
theorem dX9_standsBy_3 : decode cX9_standsBy 3 = .ok (.iload_n 3, 1) := by decide +kernel
theorem dX9_standsBy_4 : decode cX9_standsBy 4 = .ok (.invokevirtual 229, 3) := by decide +kernel
theorem dX9_standsBy_7 : decode cX9_standsBy 7 = .ok (.aload_n 0, 1) := by decide +kernel
theorem dX9_standsBy_8 : decode cX9_standsBy 8 = .ok (.invokevirtual 233, 3) := by decide +kernel
theorem dX9_standsBy_11 : decode cX9_standsBy 11 = .ok (.aload_n 0, 1) := by decide +kernel
theorem dX9_standsBy_12 : decode cX9_standsBy 12 = .ok (.aload_n 0, 1) := by decide +kernel
theorem dX9_standsBy_13 : decode cX9_standsBy 13 = .ok (.invokevirtual 236, 3) := by decide +kernel
theorem dX9_standsBy_16 : decode cX9_standsBy 16 = .ok (.invokevirtual 239, 3) := by decide +kernel
theorem dX9_standsBy_19 : decode cX9_standsBy 19 = .ok (.ireturn, 1) := by decide +kernel
theorem dX9_held_0 : decode cX9_held 0 = .ok (.iload_n 0, 1) := by decide +kernel
theorem dX9_held_1 : decode cX9_held 1 = .ok (.ifCond .ge 9, 3) := by decide +kernel
theorem dX9_held_4 : decode cX9_held 4 = .ok (.sipush 500, 3) := by decide +kernel
theorem dX9_held_7 : decode cX9_held 7 = .ok (.goto 4, 3) := by decide +kernel
theorem dX9_held_10 : decode cX9_held 10 = .ok (.iload_n 0, 1) := by decide +kernel
theorem dX9_held_11 : decode cX9_held 11 = .ok (.ireturn, 1) := by decide +kernel
theorem dX9_away_0 : decode cX9_away 0 = .ok (.iload_n 1, 1) := by decide +kernel
theorem dX9_away_1 : decode cX9_away 1 = .ok (.i2l, 1) := by decide +kernel
theorem dX9_away_2 : decode cX9_away 2 = .ok (.lconst 0, 1) := by decide +kernel
theorem dX9_away_3 : decode cX9_away 3 = .ok (.iconst 1, 1) := by decide +kernel
theorem dX9_away_4 : decode cX9_away 4 = .ok (.aload_n 0, 1) := by decide +kernel
theorem dX9_away_5 : decode cX9_away 5 = .ok (.getfield 35, 3) := by decide +kernel
theorem dX9_away_8 : decode cX9_away 8 = .ok (.iconst 0, 1) := by decide +kernel
theorem dX9_away_9 : decode cX9_away 9 = .ok (.iaload, 1) := by decide +kernel
theorem dX9_away_10 : decode cX9_away 10 = .ok (.ishl, 1) := by decide +kernel
theorem dX9_away_11 : decode cX9_away 11 = .ok (.iconst 1, 1) := by decide +kernel
theorem dX9_away_12 : decode cX9_away 12 = .ok (.isub, 1) := by decide +kernel
theorem dX9_away_13 : decode cX9_away 13 = .ok (.i2l, 1) := by decide +kernel
theorem dX9_away_14 : decode cX9_away 14 = .ok (.invokestatic 95, 3) := by decide +kernel
theorem dX9_away_17 : decode cX9_away 17 = .ok (.ifCond .ne 6, 3) := by decide +kernel
theorem dX9_away_20 : decode cX9_away 20 = .ok (.ldc 197, 2) := by decide +kernel
theorem dX9_away_22 : decode cX9_away 22 = .ok (.ireturn, 1) := by decide +kernel
theorem dX9_away_23 : decode cX9_away 23 = .ok (.aload_n 0, 1) := by decide +kernel
theorem dX9_away_24 : decode cX9_away 24 = .ok (.getfield 7, 3) := by decide +kernel
theorem dX9_away_27 : decode cX9_away 27 = .ok (.bipush 24, 2) := by decide +kernel
theorem dX9_away_29 : decode cX9_away 29 = .ok (.iaload, 1) := by decide +kernel
theorem dX9_away_30 : decode cX9_away 30 = .ok (.istore_n 2, 1) := by decide +kernel
theorem dX9_away_31 : decode cX9_away 31 = .ok (.aload_n 0, 1) := by decide +kernel
theorem dX9_away_32 : decode cX9_away 32 = .ok (.getfield 7, 3) := by decide +kernel
theorem dX9_away_35 : decode cX9_away 35 = .ok (.bipush 24, 2) := by decide +kernel
theorem dX9_away_37 : decode cX9_away 37 = .ok (.iload_n 1, 1) := by decide +kernel
theorem dX9_away_38 : decode cX9_away 38 = .ok (.iastore, 1) := by decide +kernel
theorem dX9_away_39 : decode cX9_away 39 = .ok (.iload_n 2, 1) := by decide +kernel
theorem dX9_away_40 : decode cX9_away 40 = .ok (.ireturn, 1) := by decide +kernel
theorem dX9_awake_0 : decode cX9_awake 0 = .ok (.aload_n 0, 1) := by decide +kernel
theorem dX9_awake_1 : decode cX9_awake 1 = .ok (.iload_n 1, 1) := by decide +kernel
theorem dX9_awake_2 : decode cX9_awake 2 = .ok (.invokevirtual 193, 3) := by decide +kernel
theorem dX9_awake_5 : decode cX9_awake 5 = .ok (.ifCond .eq 11, 3) := by decide +kernel
theorem dX9_awake_8 : decode cX9_awake 8 = .ok (.aload_n 0, 1) := by decide +kernel
theorem dX9_awake_9 : decode cX9_awake 9 = .ok (.iload_n 2, 1) := by decide +kernel
theorem dX9_awake_10 : decode cX9_awake 10 = .ok (.invokevirtual 193, 3) := by decide +kernel
theorem dX9_awake_13 : decode cX9_awake 13 = .ok (.ifCond .ne 6, 3) := by decide +kernel
theorem dX9_awake_16 : decode cX9_awake 16 = .ok (.ldc 197, 2) := by decide +kernel
theorem dX9_awake_18 : decode cX9_awake 18 = .ok (.ireturn, 1) := by decide +kernel
theorem dX9_awake_19 : decode cX9_awake 19 = .ok (.aload_n 0, 1) := by decide +kernel
theorem dX9_awake_20 : decode cX9_awake 20 = .ok (.iconst 0, 1) := by decide +kernel
theorem dX9_awake_21 : decode cX9_awake 21 = .ok (.iload_n 1, 1) := by decide +kernel
theorem dX9_awake_22 : decode cX9_awake 22 = .ok (.aload_n 0, 1) := by decide +kernel
theorem dX9_awake_23 : decode cX9_awake 23 = .ok (.getfield 7, 3) := by decide +kernel
theorem dX9_awake_26 : decode cX9_awake 26 = .ok (.bipush 24, 2) := by decide +kernel
theorem dX9_awake_28 : decode cX9_awake 28 = .ok (.iaload, 1) := by decide +kernel
theorem dX9_awake_29 : decode cX9_awake 29 = .ok (.invokevirtual 229, 3) := by decide +kernel
theorem dX9_awake_32 : decode cX9_awake 32 = .ok (.aload_n 0, 1) := by decide +kernel
theorem dX9_awake_33 : decode cX9_awake 33 = .ok (.getfield 57, 3) := by decide +kernel
theorem dX9_awake_36 : decode cX9_awake 36 = .ok (.iload_n 2, 1) := by decide +kernel
theorem dX9_awake_37 : decode cX9_awake 37 = .ok (.iaload, 1) := by decide +kernel
theorem dX9_awake_38 : decode cX9_awake 38 = .ok (.ireturn, 1) := by decide +kernel
theorem dX9_comes_0 : decode cX9_comes 0 = .ok (.aload_n 0, 1) := by decide +kernel
theorem dX9_comes_1 : decode cX9_comes 1 = .ok (.iload_n 1, 1) := by decide +kernel
theorem dX9_comes_2 : decode cX9_comes 2 = .ok (.invokevirtual 193, 3) := by decide +kernel
theorem dX9_comes_5 : decode cX9_comes 5 = .ok (.ifCond .eq 19, 3) := by decide +kernel
theorem dX9_comes_8 : decode cX9_comes 8 = .ok (.aload_n 0, 1) := by decide +kernel
theorem dX9_comes_9 : decode cX9_comes 9 = .ok (.iload_n 2, 1) := by decide +kernel
theorem dX9_comes_10 : decode cX9_comes 10 = .ok (.invokevirtual 193, 3) := by decide +kernel
theorem dX9_comes_13 : decode cX9_comes 13 = .ok (.ifCond .eq 11, 3) := by decide +kernel
theorem dX9_comes_16 : decode cX9_comes 16 = .ok (.aload_n 0, 1) := by decide +kernel
theorem dX9_comes_17 : decode cX9_comes 17 = .ok (.iload_n 3, 1) := by decide +kernel
theorem dX9_comes_18 : decode cX9_comes 18 = .ok (.invokevirtual 206, 3) := by decide +kernel
theorem dX9_comes_21 : decode cX9_comes 21 = .ok (.ifCond .ne 6, 3) := by decide +kernel
theorem dX9_comes_24 : decode cX9_comes 24 = .ok (.ldc 197, 2) := by decide +kernel
theorem dX9_comes_26 : decode cX9_comes 26 = .ok (.ireturn, 1) := by decide +kernel
theorem dX9_comes_27 : decode cX9_comes 27 = .ok (.aload_n 0, 1) := by decide +kernel
theorem dX9_comes_28 : decode cX9_comes 28 = .ok (.iload_n 1, 1) := by decide +kernel
theorem dX9_comes_29 : decode cX9_comes 29 = .ok (.iload_n 2, 1) := by decide +kernel
theorem dX9_comes_30 : decode cX9_comes 30 = .ok (.aload_n 0, 1) := by decide +kernel
theorem dX9_comes_31 : decode cX9_comes 31 = .ok (.getfield 7, 3) := by decide +kernel
theorem dX9_comes_34 : decode cX9_comes 34 = .ok (.bipush 24, 2) := by decide +kernel
theorem dX9_comes_36 : decode cX9_comes 36 = .ok (.iaload, 1) := by decide +kernel
theorem dX9_comes_37 : decode cX9_comes 37 = .ok (.invokevirtual 229, 3) := by decide +kernel
theorem dX9_comes_40 : decode cX9_comes 40 = .ok (.aload_n 0, 1) := by decide +kernel
theorem dX9_comes_41 : decode cX9_comes 41 = .ok (.invokevirtual 233, 3) := by decide +kernel
theorem dX9_comes_44 : decode cX9_comes 44 = .ok (.aload_n 0, 1) := by decide +kernel
theorem dX9_comes_45 : decode cX9_comes 45 = .ok (.getfield 66, 3) := by decide +kernel
theorem dX9_comes_48 : decode cX9_comes 48 = .ok (.iload_n 3, 1) := by decide +kernel
theorem dX9_comes_49 : decode cX9_comes 49 = .ok (.iaload, 1) := by decide +kernel
theorem dX9_comes_50 : decode cX9_comes 50 = .ok (.ireturn, 1) := by decide +kernel
theorem dX9_stands_0 : decode cX9_stands 0 = .ok (.aload_n 0, 1) := by decide +kernel
theorem dX9_stands_1 : decode cX9_stands 1 = .ok (.iload_n 1, 1) := by decide +kernel
theorem dX9_stands_2 : decode cX9_stands 2 = .ok (.invokevirtual 193, 3) := by decide +kernel
theorem dX9_stands_5 : decode cX9_stands 5 = .ok (.ifCond .eq 27, 3) := by decide +kernel
theorem dX9_stands_8 : decode cX9_stands 8 = .ok (.aload_n 0, 1) := by decide +kernel
theorem dX9_stands_9 : decode cX9_stands 9 = .ok (.iload_n 2, 1) := by decide +kernel
theorem dX9_stands_10 : decode cX9_stands 10 = .ok (.invokevirtual 193, 3) := by decide +kernel
theorem dX9_stands_13 : decode cX9_stands 13 = .ok (.ifCond .eq 19, 3) := by decide +kernel
theorem dX9_stands_16 : decode cX9_stands 16 = .ok (.aload_n 0, 1) := by decide +kernel
theorem dX9_stands_17 : decode cX9_stands 17 = .ok (.iload_n 1, 1) := by decide +kernel
theorem dX9_stands_18 : decode cX9_stands 18 = .ok (.iload_n 2, 1) := by decide +kernel
theorem dX9_stands_19 : decode cX9_stands 19 = .ok (.aload_n 0, 1) := by decide +kernel
theorem dX9_stands_20 : decode cX9_stands 20 = .ok (.getfield 7, 3) := by decide +kernel
theorem dX9_stands_23 : decode cX9_stands 23 = .ok (.bipush 24, 2) := by decide +kernel
theorem dX9_stands_25 : decode cX9_stands 25 = .ok (.iaload, 1) := by decide +kernel
theorem dX9_stands_26 : decode cX9_stands 26 = .ok (.invokevirtual 242, 3) := by decide +kernel
theorem dX9_stands_29 : decode cX9_stands 29 = .ok (.goto 5, 3) := by decide +kernel
theorem dX9_stands_32 : decode cX9_stands 32 = .ok (.ldc 197, 2) := by decide +kernel
theorem dX9_stands_34 : decode cX9_stands 34 = .ok (.ireturn, 1) := by decide +kernel
theorem dX9_put_0 : decode cX9_put 0 = .ok (.aload_n 0, 1) := by decide +kernel
theorem dX9_put_1 : decode cX9_put 1 = .ok (.iload_n 1, 1) := by decide +kernel
theorem dX9_put_2 : decode cX9_put 2 = .ok (.invokevirtual 193, 3) := by decide +kernel
theorem dX9_put_5 : decode cX9_put 5 = .ok (.ifCond .eq 11, 3) := by decide +kernel
theorem dX9_put_8 : decode cX9_put 8 = .ok (.aload_n 0, 1) := by decide +kernel
theorem dX9_put_9 : decode cX9_put 9 = .ok (.iload_n 2, 1) := by decide +kernel
theorem dX9_put_10 : decode cX9_put 10 = .ok (.invokevirtual 193, 3) := by decide +kernel
theorem dX9_put_13 : decode cX9_put 13 = .ok (.ifCond .ne 6, 3) := by decide +kernel
theorem dX9_put_16 : decode cX9_put 16 = .ok (.ldc 197, 2) := by decide +kernel
theorem dX9_put_18 : decode cX9_put 18 = .ok (.ireturn, 1) := by decide +kernel
theorem dX9_put_19 : decode cX9_put 19 = .ok (.aload_n 0, 1) := by decide +kernel
theorem dX9_put_20 : decode cX9_put 20 = .ok (.iload_n 1, 1) := by decide +kernel
theorem dX9_put_21 : decode cX9_put 21 = .ok (.iload_n 2, 1) := by decide +kernel
theorem dX9_put_22 : decode cX9_put 22 = .ok (.aload_n 0, 1) := by decide +kernel
theorem dX9_put_23 : decode cX9_put 23 = .ok (.getfield 7, 3) := by decide +kernel
theorem dX9_put_26 : decode cX9_put 26 = .ok (.bipush 24, 2) := by decide +kernel
theorem dX9_put_28 : decode cX9_put 28 = .ok (.iaload, 1) := by decide +kernel
theorem dX9_put_29 : decode cX9_put 29 = .ok (.invokevirtual 242, 3) := by decide +kernel
theorem dX9_put_32 : decode cX9_put 32 = .ok (.istore 4, 2) := by decide +kernel
theorem dX9_put_34 : decode cX9_put 34 = .ok (.iload 4, 2) := by decide +kernel
theorem dX9_put_36 : decode cX9_put 36 = .ok (.ifCond .lt 28, 3) := by decide +kernel
theorem dX9_put_39 : decode cX9_put 39 = .ok (.iload_n 3, 1) := by decide +kernel
theorem dX9_put_40 : decode cX9_put 40 = .ok (.i2l, 1) := by decide +kernel
theorem dX9_put_41 : decode cX9_put 41 = .ok (.lconst 0, 1) := by decide +kernel
theorem dX9_put_42 : decode cX9_put 42 = .ok (.aload_n 0, 1) := by decide +kernel
theorem dX9_put_43 : decode cX9_put 43 = .ok (.getfield 226, 3) := by decide +kernel
theorem dX9_put_46 : decode cX9_put 46 = .ok (.iconst 1, 1) := by decide +kernel
theorem dX9_put_47 : decode cX9_put 47 = .ok (.isub, 1) := by decide +kernel
theorem dX9_put_48 : decode cX9_put 48 = .ok (.i2l, 1) := by decide +kernel
theorem dX9_put_49 : decode cX9_put 49 = .ok (.invokestatic 95, 3) := by decide +kernel
theorem dX9_put_52 : decode cX9_put 52 = .ok (.ifCond .eq 12, 3) := by decide +kernel
theorem dX9_put_55 : decode cX9_put 55 = .ok (.aload_n 0, 1) := by decide +kernel
theorem dX9_put_56 : decode cX9_put 56 = .ok (.getfield 72, 3) := by decide +kernel
theorem dX9_put_59 : decode cX9_put 59 = .ok (.iload_n 3, 1) := by decide +kernel
theorem dX9_put_60 : decode cX9_put 60 = .ok (.iaload, 1) := by decide +kernel
theorem dX9_put_61 : decode cX9_put 61 = .ok (.goto 4, 3) := by decide +kernel
theorem dX9_put_64 : decode cX9_put 64 = .ok (.iconst (-1), 1) := by decide +kernel
theorem dX9_put_65 : decode cX9_put 65 = .ok (.ireturn, 1) := by decide +kernel
theorem dX9_waited_0 : decode cX9_waited 0 = .ok (.aload_n 0, 1) := by decide +kernel
theorem dX9_waited_1 : decode cX9_waited 1 = .ok (.iload_n 1, 1) := by decide +kernel
theorem dX9_waited_2 : decode cX9_waited 2 = .ok (.invokevirtual 193, 3) := by decide +kernel
theorem dX9_waited_5 : decode cX9_waited 5 = .ok (.ifCond .eq 11, 3) := by decide +kernel
theorem dX9_waited_8 : decode cX9_waited 8 = .ok (.aload_n 0, 1) := by decide +kernel
theorem dX9_waited_9 : decode cX9_waited 9 = .ok (.iload_n 2, 1) := by decide +kernel
theorem dX9_waited_10 : decode cX9_waited 10 = .ok (.invokevirtual 193, 3) := by decide +kernel
theorem dX9_waited_13 : decode cX9_waited 13 = .ok (.ifCond .ne 6, 3) := by decide +kernel
theorem dX9_waited_16 : decode cX9_waited 16 = .ok (.ldc 197, 2) := by decide +kernel
theorem dX9_waited_18 : decode cX9_waited 18 = .ok (.ireturn, 1) := by decide +kernel
theorem dX9_waited_19 : decode cX9_waited 19 = .ok (.aload_n 0, 1) := by decide +kernel
theorem dX9_waited_20 : decode cX9_waited 20 = .ok (.iload_n 1, 1) := by decide +kernel
theorem dX9_waited_21 : decode cX9_waited 21 = .ok (.iload_n 2, 1) := by decide +kernel
theorem dX9_waited_22 : decode cX9_waited 22 = .ok (.aload_n 0, 1) := by decide +kernel
theorem dX9_waited_23 : decode cX9_waited 23 = .ok (.getfield 7, 3) := by decide +kernel
theorem dX9_waited_26 : decode cX9_waited 26 = .ok (.bipush 24, 2) := by decide +kernel
theorem dX9_waited_28 : decode cX9_waited 28 = .ok (.iaload, 1) := by decide +kernel
theorem dX9_waited_29 : decode cX9_waited 29 = .ok (.invokevirtual 242, 3) := by decide +kernel
theorem dX9_waited_32 : decode cX9_waited 32 = .ok (.istore_n 3, 1) := by decide +kernel
theorem dX9_waited_33 : decode cX9_waited 33 = .ok (.iconst (-1), 1) := by decide +kernel
theorem dX9_waited_34 : decode cX9_waited 34 = .ok (.istore 4, 2) := by decide +kernel
theorem dX9_waited_36 : decode cX9_waited 36 = .ok (.iconst 0, 1) := by decide +kernel
theorem dX9_waited_37 : decode cX9_waited 37 = .ok (.istore 5, 2) := by decide +kernel
theorem dX9_waited_39 : decode cX9_waited 39 = .ok (.iload 5, 2) := by decide +kernel
theorem dX9_waited_41 : decode cX9_waited 41 = .ok (.aload_n 0, 1) := by decide +kernel
theorem dX9_waited_42 : decode cX9_waited 42 = .ok (.getfield 226, 3) := by decide +kernel
theorem dX9_waited_45 : decode cX9_waited 45 = .ok (.if_icmp .ge 99, 3) := by decide +kernel
theorem dX9_waited_48 : decode cX9_waited 48 = .ok (.iload_n 3, 1) := by decide +kernel
theorem dX9_waited_49 : decode cX9_waited 49 = .ok (.ifCond .lt 95, 3) := by decide +kernel
theorem dX9_waited_52 : decode cX9_waited 52 = .ok (.aload_n 0, 1) := by decide +kernel
theorem dX9_waited_53 : decode cX9_waited 53 = .ok (.getfield 72, 3) := by decide +kernel
theorem dX9_waited_56 : decode cX9_waited 56 = .ok (.iload 5, 2) := by decide +kernel
theorem dX9_waited_58 : decode cX9_waited 58 = .ok (.iaload, 1) := by decide +kernel
theorem dX9_waited_59 : decode cX9_waited 59 = .ok (.istore 6, 2) := by decide +kernel
theorem dX9_waited_61 : decode cX9_waited 61 = .ok (.iload 5, 2) := by decide +kernel
theorem dX9_waited_63 : decode cX9_waited 63 = .ok (.ifCond .eq 54, 3) := by decide +kernel
theorem dX9_waited_66 : decode cX9_waited 66 = .ok (.aload_n 0, 1) := by decide +kernel
theorem dX9_waited_67 : decode cX9_waited 67 = .ok (.getfield 75, 3) := by decide +kernel
theorem dX9_waited_70 : decode cX9_waited 70 = .ok (.iload 5, 2) := by decide +kernel
theorem dX9_waited_72 : decode cX9_waited 72 = .ok (.iaload, 1) := by decide +kernel
theorem dX9_waited_73 : decode cX9_waited 73 = .ok (.aload_n 0, 1) := by decide +kernel
theorem dX9_waited_74 : decode cX9_waited 74 = .ok (.getfield 66, 3) := by decide +kernel
theorem dX9_waited_77 : decode cX9_waited 77 = .ok (.iload 6, 2) := by decide +kernel
theorem dX9_waited_79 : decode cX9_waited 79 = .ok (.iaload, 1) := by decide +kernel
theorem dX9_waited_80 : decode cX9_waited 80 = .ok (.if_icmp .ne 41, 3) := by decide +kernel
theorem dX9_waited_83 : decode cX9_waited 83 = .ok (.aload_n 0, 1) := by decide +kernel
theorem dX9_waited_84 : decode cX9_waited 84 = .ok (.getfield 75, 3) := by decide +kernel
theorem dX9_waited_87 : decode cX9_waited 87 = .ok (.iload 5, 2) := by decide +kernel
theorem dX9_waited_89 : decode cX9_waited 89 = .ok (.iaload, 1) := by decide +kernel
theorem dX9_waited_90 : decode cX9_waited 90 = .ok (.aload_n 0, 1) := by decide +kernel
theorem dX9_waited_91 : decode cX9_waited 91 = .ok (.getfield 75, 3) := by decide +kernel
theorem dX9_waited_94 : decode cX9_waited 94 = .ok (.iload 5, 2) := by decide +kernel
theorem dX9_waited_96 : decode cX9_waited 96 = .ok (.iconst 1, 1) := by decide +kernel
theorem dX9_waited_97 : decode cX9_waited 97 = .ok (.isub, 1) := by decide +kernel
theorem dX9_waited_98 : decode cX9_waited 98 = .ok (.iaload, 1) := by decide +kernel
theorem dX9_waited_99 : decode cX9_waited 99 = .ok (.aload_n 0, 1) := by decide +kernel
theorem dX9_waited_100 : decode cX9_waited 100 = .ok (.getfield 26, 3) := by decide +kernel
theorem dX9_waited_103 : decode cX9_waited 103 = .ok (.aload_n 0, 1) := by decide +kernel
theorem dX9_waited_104 : decode cX9_waited 104 = .ok (.getfield 72, 3) := by decide +kernel
theorem dX9_waited_107 : decode cX9_waited 107 = .ok (.iload 5, 2) := by decide +kernel
theorem dX9_waited_109 : decode cX9_waited 109 = .ok (.iconst 1, 1) := by decide +kernel
theorem dX9_waited_110 : decode cX9_waited 110 = .ok (.isub, 1) := by decide +kernel
theorem dX9_waited_111 : decode cX9_waited 111 = .ok (.iaload, 1) := by decide +kernel
theorem dX9_waited_112 : decode cX9_waited 112 = .ok (.iaload, 1) := by decide +kernel
theorem dX9_waited_113 : decode cX9_waited 113 = .ok (.iadd, 1) := by decide +kernel
theorem dX9_waited_114 : decode cX9_waited 114 = .ok (.if_icmp .le 7, 3) := by decide +kernel
theorem dX9_waited_117 : decode cX9_waited 117 = .ok (.iconst 1, 1) := by decide +kernel
theorem dX9_waited_118 : decode cX9_waited 118 = .ok (.goto 4, 3) := by decide +kernel
theorem dX9_waited_121 : decode cX9_waited 121 = .ok (.iconst 0, 1) := by decide +kernel
theorem dX9_waited_122 : decode cX9_waited 122 = .ok (.istore 7, 2) := by decide +kernel
theorem dX9_waited_124 : decode cX9_waited 124 = .ok (.iload 7, 2) := by decide +kernel
theorem dX9_waited_126 : decode cX9_waited 126 = .ok (.ifCond .eq 8, 3) := by decide +kernel
theorem dX9_waited_129 : decode cX9_waited 129 = .ok (.iload 6, 2) := by decide +kernel
theorem dX9_waited_131 : decode cX9_waited 131 = .ok (.goto 5, 3) := by decide +kernel
theorem dX9_waited_134 : decode cX9_waited 134 = .ok (.iload 4, 2) := by decide +kernel
theorem dX9_waited_136 : decode cX9_waited 136 = .ok (.istore 4, 2) := by decide +kernel
theorem dX9_waited_138 : decode cX9_waited 138 = .ok (.iinc 5 1, 3) := by decide +kernel
theorem dX9_waited_141 : decode cX9_waited 141 = .ok (.goto (-102), 3) := by decide +kernel
theorem dX9_waited_144 : decode cX9_waited 144 = .ok (.iload 4, 2) := by decide +kernel
theorem dX9_waited_146 : decode cX9_waited 146 = .ok (.ireturn, 1) := by decide +kernel
theorem dX9_oddsOf_0 : decode cX9_oddsOf 0 = .ok (.ldc2_w 246, 3) := by decide +kernel
theorem dX9_oddsOf_3 : decode cX9_oddsOf 3 = .ok (.lstore 4, 2) := by decide +kernel
theorem dX9_oddsOf_5 : decode cX9_oddsOf 5 = .ok (.iconst 0, 1) := by decide +kernel
theorem dX9_oddsOf_6 : decode cX9_oddsOf 6 = .ok (.istore 6, 2) := by decide +kernel
theorem dX9_oddsOf_8 : decode cX9_oddsOf 8 = .ok (.iload 6, 2) := by decide +kernel
theorem dX9_oddsOf_10 : decode cX9_oddsOf 10 = .ok (.aload_n 0, 1) := by decide +kernel
theorem dX9_oddsOf_11 : decode cX9_oddsOf 11 = .ok (.getfield 35, 3) := by decide +kernel
theorem dX9_oddsOf_14 : decode cX9_oddsOf 14 = .ok (.iconst 0, 1) := by decide +kernel
theorem dX9_oddsOf_15 : decode cX9_oddsOf 15 = .ok (.iaload, 1) := by decide +kernel
theorem dX9_oddsOf_16 : decode cX9_oddsOf 16 = .ok (.if_icmp .ge 60, 3) := by decide +kernel
theorem dX9_oddsOf_19 : decode cX9_oddsOf 19 = .ok (.iload 6, 2) := by decide +kernel
theorem dX9_oddsOf_21 : decode cX9_oddsOf 21 = .ok (.iload_n 2, 1) := by decide +kernel
theorem dX9_oddsOf_22 : decode cX9_oddsOf 22 = .ok (.if_icmp .eq 48, 3) := by decide +kernel
theorem dX9_oddsOf_25 : decode cX9_oddsOf 25 = .ok (.lload 4, 2) := by decide +kernel
theorem dX9_oddsOf_27 : decode cX9_oddsOf 27 = .ok (.aload_n 0, 1) := by decide +kernel
theorem dX9_oddsOf_28 : decode cX9_oddsOf 28 = .ok (.getfield 17, 3) := by decide +kernel
theorem dX9_oddsOf_31 : decode cX9_oddsOf 31 = .ok (.bipush 6, 2) := by decide +kernel
theorem dX9_oddsOf_33 : decode cX9_oddsOf 33 = .ok (.iload 6, 2) := by decide +kernel
theorem dX9_oddsOf_35 : decode cX9_oddsOf 35 = .ok (.imul, 1) := by decide +kernel
theorem dX9_oddsOf_36 : decode cX9_oddsOf 36 = .ok (.iconst 2, 1) := by decide +kernel
theorem dX9_oddsOf_37 : decode cX9_oddsOf 37 = .ok (.iadd, 1) := by decide +kernel
theorem dX9_oddsOf_38 : decode cX9_oddsOf 38 = .ok (.iload_n 3, 1) := by decide +kernel
theorem dX9_oddsOf_39 : decode cX9_oddsOf 39 = .ok (.iadd, 1) := by decide +kernel
theorem dX9_oddsOf_40 : decode cX9_oddsOf 40 = .ok (.iaload, 1) := by decide +kernel
theorem dX9_oddsOf_41 : decode cX9_oddsOf 41 = .ok (.i2l, 1) := by decide +kernel
theorem dX9_oddsOf_42 : decode cX9_oddsOf 42 = .ok (.lmul, 1) := by decide +kernel
theorem dX9_oddsOf_43 : decode cX9_oddsOf 43 = .ok (.ldc2_w 248, 3) := by decide +kernel
theorem dX9_oddsOf_46 : decode cX9_oddsOf 46 = .ok (.ldiv, 1) := by decide +kernel
theorem dX9_oddsOf_47 : decode cX9_oddsOf 47 = .ok (.lstore 7, 2) := by decide +kernel
theorem dX9_oddsOf_49 : decode cX9_oddsOf 49 = .ok (.iload_n 1, 1) := by decide +kernel
theorem dX9_oddsOf_50 : decode cX9_oddsOf 50 = .ok (.iload 6, 2) := by decide +kernel
theorem dX9_oddsOf_52 : decode cX9_oddsOf 52 = .ok (.invokestatic 146, 3) := by decide +kernel
theorem dX9_oddsOf_55 : decode cX9_oddsOf 55 = .ok (.ifCond .eq 8, 3) := by decide +kernel
theorem dX9_oddsOf_58 : decode cX9_oddsOf 58 = .ok (.lload 7, 2) := by decide +kernel
theorem dX9_oddsOf_60 : decode cX9_oddsOf 60 = .ok (.goto 8, 3) := by decide +kernel
theorem dX9_oddsOf_63 : decode cX9_oddsOf 63 = .ok (.lload 4, 2) := by decide +kernel
theorem dX9_oddsOf_65 : decode cX9_oddsOf 65 = .ok (.lload 7, 2) := by decide +kernel
theorem dX9_oddsOf_67 : decode cX9_oddsOf 67 = .ok (.lsub, 1) := by decide +kernel
theorem dX9_oddsOf_68 : decode cX9_oddsOf 68 = .ok (.lstore 4, 2) := by decide +kernel
theorem dX9_oddsOf_70 : decode cX9_oddsOf 70 = .ok (.iinc 6 1, 3) := by decide +kernel
theorem dX9_oddsOf_73 : decode cX9_oddsOf 73 = .ok (.goto (-65), 3) := by decide +kernel
theorem dX9_oddsOf_76 : decode cX9_oddsOf 76 = .ok (.lload 4, 2) := by decide +kernel
theorem dX9_oddsOf_78 : decode cX9_oddsOf 78 = .ok (.lreturn, 1) := by decide +kernel
theorem dX9_odds_0 : decode cX9_odds 0 = .ok (.aload_n 0, 1) := by decide +kernel
theorem dX9_odds_1 : decode cX9_odds 1 = .ok (.iload_n 1, 1) := by decide +kernel
theorem dX9_odds_2 : decode cX9_odds 2 = .ok (.invokevirtual 193, 3) := by decide +kernel
theorem dX9_odds_5 : decode cX9_odds 5 = .ok (.ifCond .eq 11, 3) := by decide +kernel
theorem dX9_odds_8 : decode cX9_odds 8 = .ok (.aload_n 0, 1) := by decide +kernel
theorem dX9_odds_9 : decode cX9_odds 9 = .ok (.iload_n 2, 1) := by decide +kernel
theorem dX9_odds_10 : decode cX9_odds 10 = .ok (.invokevirtual 193, 3) := by decide +kernel
theorem dX9_odds_13 : decode cX9_odds 13 = .ok (.ifCond .ne 6, 3) := by decide +kernel
theorem dX9_odds_16 : decode cX9_odds 16 = .ok (.ldc 197, 2) := by decide +kernel
theorem dX9_odds_18 : decode cX9_odds 18 = .ok (.ireturn, 1) := by decide +kernel
theorem dX9_odds_19 : decode cX9_odds 19 = .ok (.iload_n 3, 1) := by decide +kernel
theorem dX9_odds_20 : decode cX9_odds 20 = .ok (.i2l, 1) := by decide +kernel
theorem dX9_odds_21 : decode cX9_odds 21 = .ok (.lconst 0, 1) := by decide +kernel
theorem dX9_odds_22 : decode cX9_odds 22 = .ok (.ldc2_w 250, 3) := by decide +kernel
theorem dX9_odds_25 : decode cX9_odds 25 = .ok (.invokestatic 95, 3) := by decide +kernel
theorem dX9_odds_28 : decode cX9_odds 28 = .ok (.ifCond .eq 14, 3) := by decide +kernel
theorem dX9_odds_31 : decode cX9_odds 31 = .ok (.iload 4, 2) := by decide +kernel
theorem dX9_odds_33 : decode cX9_odds 33 = .ok (.i2l, 1) := by decide +kernel
theorem dX9_odds_34 : decode cX9_odds 34 = .ok (.lconst 0, 1) := by decide +kernel
theorem dX9_odds_35 : decode cX9_odds 35 = .ok (.lconst 1, 1) := by decide +kernel
theorem dX9_odds_36 : decode cX9_odds 36 = .ok (.invokestatic 95, 3) := by decide +kernel
theorem dX9_odds_39 : decode cX9_odds 39 = .ok (.ifCond .ne 6, 3) := by decide +kernel
theorem dX9_odds_42 : decode cX9_odds 42 = .ok (.ldc 99, 2) := by decide +kernel
theorem dX9_odds_44 : decode cX9_odds 44 = .ok (.ireturn, 1) := by decide +kernel
theorem dX9_odds_45 : decode cX9_odds 45 = .ok (.lconst 0, 1) := by decide +kernel
theorem dX9_odds_46 : decode cX9_odds 46 = .ok (.lstore 5, 2) := by decide +kernel
theorem dX9_odds_48 : decode cX9_odds 48 = .ok (.iconst 0, 1) := by decide +kernel
theorem dX9_odds_49 : decode cX9_odds 49 = .ok (.istore 7, 2) := by decide +kernel
theorem dX9_odds_51 : decode cX9_odds 51 = .ok (.iconst 0, 1) := by decide +kernel
theorem dX9_odds_52 : decode cX9_odds 52 = .ok (.istore 8, 2) := by decide +kernel
theorem dX9_odds_54 : decode cX9_odds 54 = .ok (.iload 8, 2) := by decide +kernel
theorem dX9_odds_56 : decode cX9_odds 56 = .ok (.iconst 1, 1) := by decide +kernel
theorem dX9_odds_57 : decode cX9_odds 57 = .ok (.aload_n 0, 1) := by decide +kernel
theorem dX9_odds_58 : decode cX9_odds 58 = .ok (.getfield 35, 3) := by decide +kernel
theorem dX9_odds_61 : decode cX9_odds 61 = .ok (.iconst 0, 1) := by decide +kernel
theorem dX9_odds_62 : decode cX9_odds 62 = .ok (.iaload, 1) := by decide +kernel
theorem dX9_odds_63 : decode cX9_odds 63 = .ok (.ishl, 1) := by decide +kernel
theorem dX9_odds_64 : decode cX9_odds 64 = .ok (.if_icmp .ge 79, 3) := by decide +kernel
theorem dX9_odds_67 : decode cX9_odds 67 = .ok (.iload 8, 2) := by decide +kernel
theorem dX9_odds_69 : decode cX9_odds 69 = .ok (.iload_n 2, 1) := by decide +kernel
theorem dX9_odds_70 : decode cX9_odds 70 = .ok (.invokestatic 146, 3) := by decide +kernel
theorem dX9_odds_73 : decode cX9_odds 73 = .ok (.ifCond .eq 7, 3) := by decide +kernel
theorem dX9_odds_76 : decode cX9_odds 76 = .ok (.lconst 0, 1) := by decide +kernel
theorem dX9_odds_77 : decode cX9_odds 77 = .ok (.goto 11, 3) := by decide +kernel
theorem dX9_odds_80 : decode cX9_odds 80 = .ok (.aload_n 0, 1) := by decide +kernel
theorem dX9_odds_81 : decode cX9_odds 81 = .ok (.iload 8, 2) := by decide +kernel
theorem dX9_odds_83 : decode cX9_odds 83 = .ok (.iload_n 2, 1) := by decide +kernel
theorem dX9_odds_84 : decode cX9_odds 84 = .ok (.iload_n 3, 1) := by decide +kernel
theorem dX9_odds_85 : decode cX9_odds 85 = .ok (.invokevirtual 252, 3) := by decide +kernel
theorem dX9_odds_88 : decode cX9_odds 88 = .ok (.lstore 9, 2) := by decide +kernel
theorem dX9_odds_90 : decode cX9_odds 90 = .ok (.lload 9, 2) := by decide +kernel
theorem dX9_odds_92 : decode cX9_odds 92 = .ok (.lconst 0, 1) := by decide +kernel
theorem dX9_odds_93 : decode cX9_odds 93 = .ok (.lcmp, 1) := by decide +kernel
theorem dX9_odds_94 : decode cX9_odds 94 = .ok (.ifCond .le 43, 3) := by decide +kernel
theorem dX9_odds_97 : decode cX9_odds 97 = .ok (.aload_n 0, 1) := by decide +kernel
theorem dX9_odds_98 : decode cX9_odds 98 = .ok (.iload_n 1, 1) := by decide +kernel
theorem dX9_odds_99 : decode cX9_odds 99 = .ok (.iload_n 2, 1) := by decide +kernel
theorem dX9_odds_100 : decode cX9_odds 100 = .ok (.iload 8, 2) := by decide +kernel
theorem dX9_odds_102 : decode cX9_odds 102 = .ok (.invokevirtual 242, 3) := by decide +kernel
theorem dX9_odds_105 : decode cX9_odds 105 = .ok (.invokestatic 256, 3) := by decide +kernel
theorem dX9_odds_108 : decode cX9_odds 108 = .ok (.istore 11, 2) := by decide +kernel
theorem dX9_odds_110 : decode cX9_odds 110 = .ok (.lload 5, 2) := by decide +kernel
theorem dX9_odds_112 : decode cX9_odds 112 = .ok (.lload 9, 2) := by decide +kernel
theorem dX9_odds_114 : decode cX9_odds 114 = .ok (.iload 11, 2) := by decide +kernel
theorem dX9_odds_116 : decode cX9_odds 116 = .ok (.i2l, 1) := by decide +kernel
theorem dX9_odds_117 : decode cX9_odds 117 = .ok (.lmul, 1) := by decide +kernel
theorem dX9_odds_118 : decode cX9_odds 118 = .ok (.ladd, 1) := by decide +kernel
theorem dX9_odds_119 : decode cX9_odds 119 = .ok (.lstore 5, 2) := by decide +kernel
theorem dX9_odds_121 : decode cX9_odds 121 = .ok (.iload 11, 2) := by decide +kernel
theorem dX9_odds_123 : decode cX9_odds 123 = .ok (.iload 7, 2) := by decide +kernel
theorem dX9_odds_125 : decode cX9_odds 125 = .ok (.if_icmp .le 8, 3) := by decide +kernel
theorem dX9_odds_128 : decode cX9_odds 128 = .ok (.iload 11, 2) := by decide +kernel
theorem dX9_odds_130 : decode cX9_odds 130 = .ok (.goto 5, 3) := by decide +kernel
theorem dX9_odds_133 : decode cX9_odds 133 = .ok (.iload 7, 2) := by decide +kernel
theorem dX9_odds_135 : decode cX9_odds 135 = .ok (.istore 7, 2) := by decide +kernel
theorem dX9_odds_137 : decode cX9_odds 137 = .ok (.iinc 8 1, 3) := by decide +kernel
theorem dX9_odds_140 : decode cX9_odds 140 = .ok (.goto (-86), 3) := by decide +kernel
theorem dX9_odds_143 : decode cX9_odds 143 = .ok (.iload 4, 2) := by decide +kernel
theorem dX9_odds_145 : decode cX9_odds 145 = .ok (.ifCond .ne 13, 3) := by decide +kernel
theorem dX9_odds_148 : decode cX9_odds 148 = .ok (.lload 5, 2) := by decide +kernel
theorem dX9_odds_150 : decode cX9_odds 150 = .ok (.ldc2_w 259, 3) := by decide +kernel
theorem dX9_odds_153 : decode cX9_odds 153 = .ok (.ldiv, 1) := by decide +kernel
theorem dX9_odds_154 : decode cX9_odds 154 = .ok (.l2i, 1) := by decide +kernel
theorem dX9_odds_155 : decode cX9_odds 155 = .ok (.goto 5, 3) := by decide +kernel
theorem dX9_odds_158 : decode cX9_odds 158 = .ok (.iload 7, 2) := by decide +kernel
theorem dX9_odds_160 : decode cX9_odds 160 = .ok (.ireturn, 1) := by decide +kernel
theorem dX9_draw_0 : decode cX9_draw 0 = .ok (.aload_n 0, 1) := by decide +kernel
theorem dX9_draw_1 : decode cX9_draw 1 = .ok (.getfield 7, 3) := by decide +kernel
theorem dX9_draw_4 : decode cX9_draw 4 = .ok (.bipush 25, 2) := by decide +kernel
theorem dX9_draw_6 : decode cX9_draw 6 = .ok (.aload_n 0, 1) := by decide +kernel
theorem dX9_draw_7 : decode cX9_draw 7 = .ok (.getfield 7, 3) := by decide +kernel
theorem dX9_draw_10 : decode cX9_draw 10 = .ok (.bipush 25, 2) := by decide +kernel
theorem dX9_draw_12 : decode cX9_draw 12 = .ok (.iaload, 1) := by decide +kernel
theorem dX9_draw_13 : decode cX9_draw 13 = .ok (.i2l, 1) := by decide +kernel
theorem dX9_draw_14 : decode cX9_draw 14 = .ok (.ldc2_w 261, 3) := by decide +kernel
theorem dX9_draw_17 : decode cX9_draw 17 = .ok (.lmul, 1) := by decide +kernel
theorem dX9_draw_18 : decode cX9_draw 18 = .ok (.ldc2_w 263, 3) := by decide +kernel
theorem dX9_draw_21 : decode cX9_draw 21 = .ok (.ladd, 1) := by decide +kernel
theorem dX9_draw_22 : decode cX9_draw 22 = .ok (.ldc2_w 265, 3) := by decide +kernel
theorem dX9_draw_25 : decode cX9_draw 25 = .ok (.lrem, 1) := by decide +kernel
theorem dX9_draw_26 : decode cX9_draw 26 = .ok (.l2i, 1) := by decide +kernel
theorem dX9_draw_27 : decode cX9_draw 27 = .ok (.iastore, 1) := by decide +kernel
theorem dX9_draw_28 : decode cX9_draw 28 = .ok (.aload_n 0, 1) := by decide +kernel
theorem dX9_draw_29 : decode cX9_draw 29 = .ok (.getfield 7, 3) := by decide +kernel
theorem dX9_draw_32 : decode cX9_draw 32 = .ok (.bipush 25, 2) := by decide +kernel
theorem dX9_draw_34 : decode cX9_draw 34 = .ok (.iaload, 1) := by decide +kernel
theorem dX9_draw_35 : decode cX9_draw 35 = .ok (.ldc_w 267, 3) := by decide +kernel
theorem dX9_draw_38 : decode cX9_draw 38 = .ok (.idiv, 1) := by decide +kernel
theorem dX9_draw_39 : decode cX9_draw 39 = .ok (.iload_n 1, 1) := by decide +kernel
theorem dX9_draw_40 : decode cX9_draw 40 = .ok (.irem, 1) := by decide +kernel
theorem dX9_draw_41 : decode cX9_draw 41 = .ok (.ireturn, 1) := by decide +kernel
theorem dX9_night_0 : decode cX9_night 0 = .ok (.iload_n 1, 1) := by decide +kernel
theorem dX9_night_1 : decode cX9_night 1 = .ok (.i2l, 1) := by decide +kernel
theorem dX9_night_2 : decode cX9_night 2 = .ok (.lconst 0, 1) := by decide +kernel
theorem dX9_night_3 : decode cX9_night 3 = .ok (.ldc2_w 250, 3) := by decide +kernel
theorem dX9_night_6 : decode cX9_night 6 = .ok (.invokestatic 95, 3) := by decide +kernel
theorem dX9_night_9 : decode cX9_night 9 = .ok (.ifCond .ne 6, 3) := by decide +kernel
theorem dX9_night_12 : decode cX9_night 12 = .ok (.ldc 99, 2) := by decide +kernel
theorem dX9_night_14 : decode cX9_night 14 = .ok (.ireturn, 1) := by decide +kernel
theorem dX9_night_15 : decode cX9_night 15 = .ok (.iconst 0, 1) := by decide +kernel
theorem dX9_night_16 : decode cX9_night 16 = .ok (.istore_n 2, 1) := by decide +kernel
theorem dX9_night_17 : decode cX9_night 17 = .ok (.iconst 0, 1) := by decide +kernel
theorem dX9_night_18 : decode cX9_night 18 = .ok (.istore_n 3, 1) := by decide +kernel
theorem dX9_night_19 : decode cX9_night 19 = .ok (.iload_n 3, 1) := by decide +kernel
theorem dX9_night_20 : decode cX9_night 20 = .ok (.aload_n 0, 1) := by decide +kernel
theorem dX9_night_21 : decode cX9_night 21 = .ok (.getfield 35, 3) := by decide +kernel
theorem dX9_night_24 : decode cX9_night 24 = .ok (.iconst 0, 1) := by decide +kernel
theorem dX9_night_25 : decode cX9_night 25 = .ok (.iaload, 1) := by decide +kernel
theorem dX9_night_26 : decode cX9_night 26 = .ok (.if_icmp .ge 44, 3) := by decide +kernel
theorem dX9_night_29 : decode cX9_night 29 = .ok (.iload_n 2, 1) := by decide +kernel
theorem dX9_night_30 : decode cX9_night 30 = .ok (.aload_n 0, 1) := by decide +kernel
theorem dX9_night_31 : decode cX9_night 31 = .ok (.bipush 100, 2) := by decide +kernel
theorem dX9_night_33 : decode cX9_night 33 = .ok (.invokevirtual 268, 3) := by decide +kernel
theorem dX9_night_36 : decode cX9_night 36 = .ok (.aload_n 0, 1) := by decide +kernel
theorem dX9_night_37 : decode cX9_night 37 = .ok (.getfield 17, 3) := by decide +kernel
theorem dX9_night_40 : decode cX9_night 40 = .ok (.bipush 6, 2) := by decide +kernel
theorem dX9_night_42 : decode cX9_night 42 = .ok (.iload_n 3, 1) := by decide +kernel
theorem dX9_night_43 : decode cX9_night 43 = .ok (.imul, 1) := by decide +kernel
theorem dX9_night_44 : decode cX9_night 44 = .ok (.iconst 2, 1) := by decide +kernel
theorem dX9_night_45 : decode cX9_night 45 = .ok (.iadd, 1) := by decide +kernel
theorem dX9_night_46 : decode cX9_night 46 = .ok (.iload_n 1, 1) := by decide +kernel
theorem dX9_night_47 : decode cX9_night 47 = .ok (.iadd, 1) := by decide +kernel
theorem dX9_night_48 : decode cX9_night 48 = .ok (.iaload, 1) := by decide +kernel
theorem dX9_night_49 : decode cX9_night 49 = .ok (.if_icmp .ge 7, 3) := by decide +kernel
theorem dX9_night_52 : decode cX9_night 52 = .ok (.iconst 1, 1) := by decide +kernel
theorem dX9_night_53 : decode cX9_night 53 = .ok (.goto 4, 3) := by decide +kernel
theorem dX9_night_56 : decode cX9_night 56 = .ok (.iconst 0, 1) := by decide +kernel
theorem dX9_night_57 : decode cX9_night 57 = .ok (.invokestatic 150, 3) := by decide +kernel
theorem dX9_night_60 : decode cX9_night 60 = .ok (.iload_n 3, 1) := by decide +kernel
theorem dX9_night_61 : decode cX9_night 61 = .ok (.ishl, 1) := by decide +kernel
theorem dX9_night_62 : decode cX9_night 62 = .ok (.ior, 1) := by decide +kernel
theorem dX9_night_63 : decode cX9_night 63 = .ok (.istore_n 2, 1) := by decide +kernel
theorem dX9_night_64 : decode cX9_night 64 = .ok (.iinc 3 1, 3) := by decide +kernel
theorem dX9_night_67 : decode cX9_night 67 = .ok (.goto (-48), 3) := by decide +kernel
theorem dX9_night_70 : decode cX9_night 70 = .ok (.aload_n 0, 1) := by decide +kernel
theorem dX9_night_71 : decode cX9_night 71 = .ok (.getfield 7, 3) := by decide +kernel
theorem dX9_night_74 : decode cX9_night 74 = .ok (.bipush 24, 2) := by decide +kernel
theorem dX9_night_76 : decode cX9_night 76 = .ok (.iload_n 2, 1) := by decide +kernel
theorem dX9_night_77 : decode cX9_night 77 = .ok (.iastore, 1) := by decide +kernel
theorem dX9_night_78 : decode cX9_night 78 = .ok (.iload_n 2, 1) := by decide +kernel
theorem dX9_night_79 : decode cX9_night 79 = .ok (.ireturn, 1) := by decide +kernel
theorem dX9_nextRound_0 : decode cX9_nextRound 0 = .ok (.aload_n 0, 1) := by decide +kernel
theorem dX9_nextRound_1 : decode cX9_nextRound 1 = .ok (.getfield 271, 3) := by decide +kernel
theorem dX9_nextRound_4 : decode cX9_nextRound 4 = .ok (.iconst 2, 1) := by decide +kernel
theorem dX9_nextRound_5 : decode cX9_nextRound 5 = .ok (.isub, 1) := by decide +kernel
theorem dX9_nextRound_6 : decode cX9_nextRound 6 = .ok (.istore_n 1, 1) := by decide +kernel
theorem dX9_nextRound_7 : decode cX9_nextRound 7 = .ok (.iload_n 1, 1) := by decide +kernel
theorem dX9_nextRound_8 : decode cX9_nextRound 8 = .ok (.ifCond .lt 26, 3) := by decide +kernel
theorem dX9_nextRound_11 : decode cX9_nextRound 11 = .ok (.aload_n 0, 1) := by decide +kernel
theorem dX9_nextRound_12 : decode cX9_nextRound 12 = .ok (.getfield 78, 3) := by decide +kernel
theorem dX9_nextRound_15 : decode cX9_nextRound 15 = .ok (.iload_n 1, 1) := by decide +kernel
theorem dX9_nextRound_16 : decode cX9_nextRound 16 = .ok (.iaload, 1) := by decide +kernel
theorem dX9_nextRound_17 : decode cX9_nextRound 17 = .ok (.aload_n 0, 1) := by decide +kernel
theorem dX9_nextRound_18 : decode cX9_nextRound 18 = .ok (.getfield 78, 3) := by decide +kernel
theorem dX9_nextRound_21 : decode cX9_nextRound 21 = .ok (.iload_n 1, 1) := by decide +kernel
theorem dX9_nextRound_22 : decode cX9_nextRound 22 = .ok (.iconst 1, 1) := by decide +kernel
theorem dX9_nextRound_23 : decode cX9_nextRound 23 = .ok (.iadd, 1) := by decide +kernel
theorem dX9_nextRound_24 : decode cX9_nextRound 24 = .ok (.iaload, 1) := by decide +kernel
theorem dX9_nextRound_25 : decode cX9_nextRound 25 = .ok (.if_icmp .le 9, 3) := by decide +kernel
theorem dX9_nextRound_28 : decode cX9_nextRound 28 = .ok (.iinc 1 (-1), 3) := by decide +kernel
theorem dX9_nextRound_31 : decode cX9_nextRound 31 = .ok (.goto (-24), 3) := by decide +kernel
theorem dX9_nextRound_34 : decode cX9_nextRound 34 = .ok (.iload_n 1, 1) := by decide +kernel
theorem dX9_nextRound_35 : decode cX9_nextRound 35 = .ok (.ifCond .ge 5, 3) := by decide +kernel
theorem dX9_nextRound_38 : decode cX9_nextRound 38 = .ok (.iconst 0, 1) := by decide +kernel
theorem dX9_nextRound_39 : decode cX9_nextRound 39 = .ok (.ireturn, 1) := by decide +kernel
theorem dX9_nextRound_40 : decode cX9_nextRound 40 = .ok (.aload_n 0, 1) := by decide +kernel
theorem dX9_nextRound_41 : decode cX9_nextRound 41 = .ok (.getfield 271, 3) := by decide +kernel
theorem dX9_nextRound_44 : decode cX9_nextRound 44 = .ok (.iconst 1, 1) := by decide +kernel
theorem dX9_nextRound_45 : decode cX9_nextRound 45 = .ok (.isub, 1) := by decide +kernel
theorem dX9_nextRound_46 : decode cX9_nextRound 46 = .ok (.istore_n 2, 1) := by decide +kernel
theorem dX9_nextRound_47 : decode cX9_nextRound 47 = .ok (.aload_n 0, 1) := by decide +kernel
theorem dX9_nextRound_48 : decode cX9_nextRound 48 = .ok (.getfield 78, 3) := by decide +kernel
theorem dX9_nextRound_51 : decode cX9_nextRound 51 = .ok (.iload_n 2, 1) := by decide +kernel
theorem dX9_nextRound_52 : decode cX9_nextRound 52 = .ok (.iaload, 1) := by decide +kernel
theorem dX9_nextRound_53 : decode cX9_nextRound 53 = .ok (.aload_n 0, 1) := by decide +kernel
theorem dX9_nextRound_54 : decode cX9_nextRound 54 = .ok (.getfield 78, 3) := by decide +kernel
theorem dX9_nextRound_57 : decode cX9_nextRound 57 = .ok (.iload_n 1, 1) := by decide +kernel
theorem dX9_nextRound_58 : decode cX9_nextRound 58 = .ok (.iaload, 1) := by decide +kernel
theorem dX9_nextRound_59 : decode cX9_nextRound 59 = .ok (.if_icmp .ge 9, 3) := by decide +kernel
theorem dX9_nextRound_62 : decode cX9_nextRound 62 = .ok (.iinc 2 (-1), 3) := by decide +kernel
theorem dX9_nextRound_65 : decode cX9_nextRound 65 = .ok (.goto (-18), 3) := by decide +kernel
theorem dX9_nextRound_68 : decode cX9_nextRound 68 = .ok (.aload_n 0, 1) := by decide +kernel
theorem dX9_nextRound_69 : decode cX9_nextRound 69 = .ok (.getfield 78, 3) := by decide +kernel
theorem dX9_nextRound_72 : decode cX9_nextRound 72 = .ok (.iload_n 1, 1) := by decide +kernel
theorem dX9_nextRound_73 : decode cX9_nextRound 73 = .ok (.iaload, 1) := by decide +kernel
theorem dX9_nextRound_74 : decode cX9_nextRound 74 = .ok (.istore_n 3, 1) := by decide +kernel
theorem dX9_nextRound_75 : decode cX9_nextRound 75 = .ok (.aload_n 0, 1) := by decide +kernel
theorem dX9_nextRound_76 : decode cX9_nextRound 76 = .ok (.getfield 78, 3) := by decide +kernel
theorem dX9_nextRound_79 : decode cX9_nextRound 79 = .ok (.iload_n 1, 1) := by decide +kernel
theorem dX9_nextRound_80 : decode cX9_nextRound 80 = .ok (.aload_n 0, 1) := by decide +kernel
theorem dX9_nextRound_81 : decode cX9_nextRound 81 = .ok (.getfield 78, 3) := by decide +kernel
theorem dX9_nextRound_84 : decode cX9_nextRound 84 = .ok (.iload_n 2, 1) := by decide +kernel
theorem dX9_nextRound_85 : decode cX9_nextRound 85 = .ok (.iaload, 1) := by decide +kernel
theorem dX9_nextRound_86 : decode cX9_nextRound 86 = .ok (.iastore, 1) := by decide +kernel
theorem dX9_nextRound_87 : decode cX9_nextRound 87 = .ok (.aload_n 0, 1) := by decide +kernel
theorem dX9_nextRound_88 : decode cX9_nextRound 88 = .ok (.getfield 78, 3) := by decide +kernel
theorem dX9_nextRound_91 : decode cX9_nextRound 91 = .ok (.iload_n 2, 1) := by decide +kernel
theorem dX9_nextRound_92 : decode cX9_nextRound 92 = .ok (.iload_n 3, 1) := by decide +kernel
theorem dX9_nextRound_93 : decode cX9_nextRound 93 = .ok (.iastore, 1) := by decide +kernel
theorem dX9_nextRound_94 : decode cX9_nextRound 94 = .ok (.iload_n 1, 1) := by decide +kernel
theorem dX9_nextRound_95 : decode cX9_nextRound 95 = .ok (.iconst 1, 1) := by decide +kernel
theorem dX9_nextRound_96 : decode cX9_nextRound 96 = .ok (.iadd, 1) := by decide +kernel
theorem dX9_nextRound_97 : decode cX9_nextRound 97 = .ok (.istore 4, 2) := by decide +kernel
theorem dX9_nextRound_99 : decode cX9_nextRound 99 = .ok (.aload_n 0, 1) := by decide +kernel
theorem dX9_nextRound_100 : decode cX9_nextRound 100 = .ok (.getfield 271, 3) := by decide +kernel
theorem dX9_nextRound_103 : decode cX9_nextRound 103 = .ok (.iconst 1, 1) := by decide +kernel
theorem dX9_nextRound_104 : decode cX9_nextRound 104 = .ok (.isub, 1) := by decide +kernel
theorem dX9_nextRound_105 : decode cX9_nextRound 105 = .ok (.istore 5, 2) := by decide +kernel
theorem dX9_nextRound_107 : decode cX9_nextRound 107 = .ok (.iload 4, 2) := by decide +kernel
theorem dX9_nextRound_109 : decode cX9_nextRound 109 = .ok (.iload 5, 2) := by decide +kernel
theorem dX9_nextRound_111 : decode cX9_nextRound 111 = .ok (.if_icmp .ge 42, 3) := by decide +kernel
theorem dX9_nextRound_114 : decode cX9_nextRound 114 = .ok (.aload_n 0, 1) := by decide +kernel
theorem dX9_nextRound_115 : decode cX9_nextRound 115 = .ok (.getfield 78, 3) := by decide +kernel
theorem dX9_nextRound_118 : decode cX9_nextRound 118 = .ok (.iload 4, 2) := by decide +kernel
theorem dX9_nextRound_120 : decode cX9_nextRound 120 = .ok (.iaload, 1) := by decide +kernel
theorem dX9_nextRound_121 : decode cX9_nextRound 121 = .ok (.istore_n 3, 1) := by decide +kernel
theorem dX9_nextRound_122 : decode cX9_nextRound 122 = .ok (.aload_n 0, 1) := by decide +kernel
theorem dX9_nextRound_123 : decode cX9_nextRound 123 = .ok (.getfield 78, 3) := by decide +kernel
theorem dX9_nextRound_126 : decode cX9_nextRound 126 = .ok (.iload 4, 2) := by decide +kernel
theorem dX9_nextRound_128 : decode cX9_nextRound 128 = .ok (.aload_n 0, 1) := by decide +kernel
theorem dX9_nextRound_129 : decode cX9_nextRound 129 = .ok (.getfield 78, 3) := by decide +kernel
theorem dX9_nextRound_132 : decode cX9_nextRound 132 = .ok (.iload 5, 2) := by decide +kernel
theorem dX9_nextRound_134 : decode cX9_nextRound 134 = .ok (.iaload, 1) := by decide +kernel
theorem dX9_nextRound_135 : decode cX9_nextRound 135 = .ok (.iastore, 1) := by decide +kernel
theorem dX9_nextRound_136 : decode cX9_nextRound 136 = .ok (.aload_n 0, 1) := by decide +kernel
theorem dX9_nextRound_137 : decode cX9_nextRound 137 = .ok (.getfield 78, 3) := by decide +kernel
theorem dX9_nextRound_140 : decode cX9_nextRound 140 = .ok (.iload 5, 2) := by decide +kernel
theorem dX9_nextRound_142 : decode cX9_nextRound 142 = .ok (.iload_n 3, 1) := by decide +kernel
theorem dX9_nextRound_143 : decode cX9_nextRound 143 = .ok (.iastore, 1) := by decide +kernel
theorem dX9_nextRound_144 : decode cX9_nextRound 144 = .ok (.iinc 4 1, 3) := by decide +kernel
theorem dX9_nextRound_147 : decode cX9_nextRound 147 = .ok (.iinc 5 (-1), 3) := by decide +kernel
theorem dX9_nextRound_150 : decode cX9_nextRound 150 = .ok (.goto (-43), 3) := by decide +kernel
theorem dX9_nextRound_153 : decode cX9_nextRound 153 = .ok (.iconst 1, 1) := by decide +kernel
theorem dX9_nextRound_154 : decode cX9_nextRound 154 = .ok (.ireturn, 1) := by decide +kernel
theorem dX9_cried_0 : decode cX9_cried 0 = .ok (.aload_n 0, 1) := by decide +kernel
theorem dX9_cried_1 : decode cX9_cried 1 = .ok (.iload_n 2, 1) := by decide +kernel
theorem dX9_cried_2 : decode cX9_cried 2 = .ok (.invokevirtual 216, 3) := by decide +kernel
theorem dX9_cried_5 : decode cX9_cried 5 = .ok (.aload_n 0, 1) := by decide +kernel
theorem dX9_cried_6 : decode cX9_cried 6 = .ok (.aload_n 0, 1) := by decide +kernel
theorem dX9_cried_7 : decode cX9_cried 7 = .ok (.getfield 271, 3) := by decide +kernel
theorem dX9_cried_10 : decode cX9_cried 10 = .ok (.putfield 209, 3) := by decide +kernel
theorem dX9_cried_13 : decode cX9_cried 13 = .ok (.iconst 0, 1) := by decide +kernel
theorem dX9_cried_14 : decode cX9_cried 14 = .ok (.istore_n 3, 1) := by decide +kernel
theorem dX9_cried_15 : decode cX9_cried 15 = .ok (.iload_n 3, 1) := by decide +kernel
theorem dX9_cried_16 : decode cX9_cried 16 = .ok (.aload_n 0, 1) := by decide +kernel
theorem dX9_cried_17 : decode cX9_cried 17 = .ok (.getfield 271, 3) := by decide +kernel
theorem dX9_cried_20 : decode cX9_cried 20 = .ok (.if_icmp .ge 21, 3) := by decide +kernel
theorem dX9_cried_23 : decode cX9_cried 23 = .ok (.aload_n 0, 1) := by decide +kernel
theorem dX9_cried_24 : decode cX9_cried 24 = .ok (.getfield 63, 3) := by decide +kernel
theorem dX9_cried_27 : decode cX9_cried 27 = .ok (.iload_n 3, 1) := by decide +kernel
theorem dX9_cried_28 : decode cX9_cried 28 = .ok (.aload_n 0, 1) := by decide +kernel
theorem dX9_cried_29 : decode cX9_cried 29 = .ok (.getfield 78, 3) := by decide +kernel
theorem dX9_cried_32 : decode cX9_cried 32 = .ok (.iload_n 3, 1) := by decide +kernel
theorem dX9_cried_33 : decode cX9_cried 33 = .ok (.iaload, 1) := by decide +kernel
theorem dX9_cried_34 : decode cX9_cried 34 = .ok (.iastore, 1) := by decide +kernel
theorem dX9_cried_35 : decode cX9_cried 35 = .ok (.iinc 3 1, 3) := by decide +kernel
theorem dX9_cried_38 : decode cX9_cried 38 = .ok (.goto (-23), 3) := by decide +kernel
theorem dX9_cried_41 : decode cX9_cried 41 = .ok (.aload_n 0, 1) := by decide +kernel
theorem dX9_cried_42 : decode cX9_cried 42 = .ok (.iload_n 2, 1) := by decide +kernel
theorem dX9_cried_43 : decode cX9_cried 43 = .ok (.iconst 0, 1) := by decide +kernel
theorem dX9_cried_44 : decode cX9_cried 44 = .ok (.iload_n 1, 1) := by decide +kernel
theorem dX9_cried_45 : decode cX9_cried 45 = .ok (.iload_n 2, 1) := by decide +kernel
theorem dX9_cried_46 : decode cX9_cried 46 = .ok (.aload_n 0, 1) := by decide +kernel
theorem dX9_cried_47 : decode cX9_cried 47 = .ok (.getfield 7, 3) := by decide +kernel
theorem dX9_cried_50 : decode cX9_cried 50 = .ok (.bipush 24, 2) := by decide +kernel
theorem dX9_cried_52 : decode cX9_cried 52 = .ok (.iaload, 1) := by decide +kernel
theorem dX9_cried_53 : decode cX9_cried 53 = .ok (.invokevirtual 219, 3) := by decide +kernel
theorem dX9_cried_56 : decode cX9_cried 56 = .ok (.aload_n 0, 1) := by decide +kernel
theorem dX9_cried_57 : decode cX9_cried 57 = .ok (.iload_n 1, 1) := by decide +kernel
theorem dX9_cried_58 : decode cX9_cried 58 = .ok (.invokevirtual 223, 3) := by decide +kernel
theorem dX9_cried_61 : decode cX9_cried 61 = .ok (.aload_n 0, 1) := by decide +kernel
theorem dX9_cried_62 : decode cX9_cried 62 = .ok (.invokevirtual 233, 3) := by decide +kernel
theorem dX9_cried_65 : decode cX9_cried 65 = .ok (.aload_n 0, 1) := by decide +kernel
theorem dX9_cried_66 : decode cX9_cried 66 = .ok (.aload_n 0, 1) := by decide +kernel
theorem dX9_cried_67 : decode cX9_cried 67 = .ok (.invokevirtual 236, 3) := by decide +kernel
theorem dX9_cried_70 : decode cX9_cried 70 = .ok (.invokevirtual 239, 3) := by decide +kernel
theorem dX9_cried_73 : decode cX9_cried 73 = .ok (.invokestatic 256, 3) := by decide +kernel
theorem dX9_cried_76 : decode cX9_cried 76 = .ok (.ireturn, 1) := by decide +kernel
theorem dX9_crier_0 : decode cX9_crier 0 = .ok (.aload_n 0, 1) := by decide +kernel
theorem dX9_crier_1 : decode cX9_crier 1 = .ok (.iload_n 1, 1) := by decide +kernel
theorem dX9_crier_2 : decode cX9_crier 2 = .ok (.invokevirtual 193, 3) := by decide +kernel
theorem dX9_crier_5 : decode cX9_crier 5 = .ok (.ifCond .eq 11, 3) := by decide +kernel
theorem dX9_crier_8 : decode cX9_crier 8 = .ok (.aload_n 0, 1) := by decide +kernel
theorem dX9_crier_9 : decode cX9_crier 9 = .ok (.iload_n 2, 1) := by decide +kernel
theorem dX9_crier_10 : decode cX9_crier 10 = .ok (.invokevirtual 193, 3) := by decide +kernel
theorem dX9_crier_13 : decode cX9_crier 13 = .ok (.ifCond .ne 6, 3) := by decide +kernel
theorem dX9_crier_16 : decode cX9_crier 16 = .ok (.ldc 197, 2) := by decide +kernel
theorem dX9_crier_18 : decode cX9_crier 18 = .ok (.ireturn, 1) := by decide +kernel
theorem dX9_crier_19 : decode cX9_crier 19 = .ok (.aload_n 0, 1) := by decide +kernel
theorem dX9_crier_20 : decode cX9_crier 20 = .ok (.iconst 0, 1) := by decide +kernel
theorem dX9_crier_21 : decode cX9_crier 21 = .ok (.putfield 271, 3) := by decide +kernel
theorem dX9_crier_24 : decode cX9_crier 24 = .ok (.iconst 0, 1) := by decide +kernel
theorem dX9_crier_25 : decode cX9_crier 25 = .ok (.istore 4, 2) := by decide +kernel
theorem dX9_crier_27 : decode cX9_crier 27 = .ok (.iload 4, 2) := by decide +kernel
theorem dX9_crier_29 : decode cX9_crier 29 = .ok (.aload_n 0, 1) := by decide +kernel
theorem dX9_crier_30 : decode cX9_crier 30 = .ok (.getfield 35, 3) := by decide +kernel
theorem dX9_crier_33 : decode cX9_crier 33 = .ok (.iconst 0, 1) := by decide +kernel
theorem dX9_crier_34 : decode cX9_crier 34 = .ok (.iaload, 1) := by decide +kernel
theorem dX9_crier_35 : decode cX9_crier 35 = .ok (.if_icmp .ge 45, 3) := by decide +kernel
theorem dX9_crier_38 : decode cX9_crier 38 = .ok (.iload 4, 2) := by decide +kernel
theorem dX9_crier_40 : decode cX9_crier 40 = .ok (.iload_n 2, 1) := by decide +kernel
theorem dX9_crier_41 : decode cX9_crier 41 = .ok (.if_icmp .eq 33, 3) := by decide +kernel
theorem dX9_crier_44 : decode cX9_crier 44 = .ok (.aload_n 0, 1) := by decide +kernel
theorem dX9_crier_45 : decode cX9_crier 45 = .ok (.iload 4, 2) := by decide +kernel
theorem dX9_crier_47 : decode cX9_crier 47 = .ok (.invokevirtual 200, 3) := by decide +kernel
theorem dX9_crier_50 : decode cX9_crier 50 = .ok (.ifCond .eq 24, 3) := by decide +kernel
theorem dX9_crier_53 : decode cX9_crier 53 = .ok (.aload_n 0, 1) := by decide +kernel
theorem dX9_crier_54 : decode cX9_crier 54 = .ok (.getfield 78, 3) := by decide +kernel
theorem dX9_crier_57 : decode cX9_crier 57 = .ok (.aload_n 0, 1) := by decide +kernel
theorem dX9_crier_58 : decode cX9_crier 58 = .ok (.getfield 271, 3) := by decide +kernel
theorem dX9_crier_61 : decode cX9_crier 61 = .ok (.iload 4, 2) := by decide +kernel
theorem dX9_crier_63 : decode cX9_crier 63 = .ok (.iastore, 1) := by decide +kernel
theorem dX9_crier_64 : decode cX9_crier 64 = .ok (.aload_n 0, 1) := by decide +kernel
theorem dX9_crier_65 : decode cX9_crier 65 = .ok (.dup, 1) := by decide +kernel
theorem dX9_crier_66 : decode cX9_crier 66 = .ok (.getfield 271, 3) := by decide +kernel
theorem dX9_crier_69 : decode cX9_crier 69 = .ok (.iconst 1, 1) := by decide +kernel
theorem dX9_crier_70 : decode cX9_crier 70 = .ok (.iadd, 1) := by decide +kernel
theorem dX9_crier_71 : decode cX9_crier 71 = .ok (.putfield 271, 3) := by decide +kernel
theorem dX9_crier_74 : decode cX9_crier 74 = .ok (.iinc 4 1, 3) := by decide +kernel
theorem dX9_crier_77 : decode cX9_crier 77 = .ok (.goto (-50), 3) := by decide +kernel
theorem dX9_crier_80 : decode cX9_crier 80 = .ok (.aload_n 0, 1) := by decide +kernel
theorem dX9_crier_81 : decode cX9_crier 81 = .ok (.getfield 271, 3) := by decide +kernel
theorem dX9_crier_84 : decode cX9_crier 84 = .ok (.bipush 7, 2) := by decide +kernel
theorem dX9_crier_86 : decode cX9_crier 86 = .ok (.if_icmp .le 6, 3) := by decide +kernel
theorem dX9_crier_89 : decode cX9_crier 89 = .ok (.ldc 185, 2) := by decide +kernel
theorem dX9_crier_91 : decode cX9_crier 91 = .ok (.ireturn, 1) := by decide +kernel
theorem dX9_crier_92 : decode cX9_crier 92 = .ok (.iconst (-1), 1) := by decide +kernel
theorem dX9_crier_93 : decode cX9_crier 93 = .ok (.istore 4, 2) := by decide +kernel
theorem dX9_crier_95 : decode cX9_crier 95 = .ok (.iconst 1, 1) := by decide +kernel
theorem dX9_crier_96 : decode cX9_crier 96 = .ok (.istore 5, 2) := by decide +kernel
theorem dX9_crier_98 : decode cX9_crier 98 = .ok (.iload 5, 2) := by decide +kernel
theorem dX9_crier_100 : decode cX9_crier 100 = .ok (.ifCond .eq 68, 3) := by decide +kernel
theorem dX9_crier_103 : decode cX9_crier 103 = .ok (.aload_n 0, 1) := by decide +kernel
theorem dX9_crier_104 : decode cX9_crier 104 = .ok (.iload_n 1, 1) := by decide +kernel
theorem dX9_crier_105 : decode cX9_crier 105 = .ok (.iload_n 2, 1) := by decide +kernel
theorem dX9_crier_106 : decode cX9_crier 106 = .ok (.invokevirtual 274, 3) := by decide +kernel
theorem dX9_crier_109 : decode cX9_crier 109 = .ok (.istore 6, 2) := by decide +kernel
theorem dX9_crier_111 : decode cX9_crier 111 = .ok (.iload 4, 2) := by decide +kernel
theorem dX9_crier_113 : decode cX9_crier 113 = .ok (.ifCond .lt 10, 3) := by decide +kernel
theorem dX9_crier_116 : decode cX9_crier 116 = .ok (.iload 6, 2) := by decide +kernel
theorem dX9_crier_118 : decode cX9_crier 118 = .ok (.iload 4, 2) := by decide +kernel
theorem dX9_crier_120 : decode cX9_crier 120 = .ok (.if_icmp .ge 39, 3) := by decide +kernel
theorem dX9_crier_123 : decode cX9_crier 123 = .ok (.iload 6, 2) := by decide +kernel
theorem dX9_crier_125 : decode cX9_crier 125 = .ok (.istore 4, 2) := by decide +kernel
theorem dX9_crier_127 : decode cX9_crier 127 = .ok (.iconst 0, 1) := by decide +kernel
theorem dX9_crier_128 : decode cX9_crier 128 = .ok (.istore 7, 2) := by decide +kernel
theorem dX9_crier_130 : decode cX9_crier 130 = .ok (.iload 7, 2) := by decide +kernel
theorem dX9_crier_132 : decode cX9_crier 132 = .ok (.aload_n 0, 1) := by decide +kernel
theorem dX9_crier_133 : decode cX9_crier 133 = .ok (.getfield 271, 3) := by decide +kernel
theorem dX9_crier_136 : decode cX9_crier 136 = .ok (.if_icmp .ge 23, 3) := by decide +kernel
theorem dX9_crier_139 : decode cX9_crier 139 = .ok (.aload_n 0, 1) := by decide +kernel
theorem dX9_crier_140 : decode cX9_crier 140 = .ok (.getfield 81, 3) := by decide +kernel
theorem dX9_crier_143 : decode cX9_crier 143 = .ok (.iload 7, 2) := by decide +kernel
theorem dX9_crier_145 : decode cX9_crier 145 = .ok (.aload_n 0, 1) := by decide +kernel
theorem dX9_crier_146 : decode cX9_crier 146 = .ok (.getfield 78, 3) := by decide +kernel
theorem dX9_crier_149 : decode cX9_crier 149 = .ok (.iload 7, 2) := by decide +kernel
theorem dX9_crier_151 : decode cX9_crier 151 = .ok (.iaload, 1) := by decide +kernel
theorem dX9_crier_152 : decode cX9_crier 152 = .ok (.iastore, 1) := by decide +kernel
theorem dX9_crier_153 : decode cX9_crier 153 = .ok (.iinc 7 1, 3) := by decide +kernel
theorem dX9_crier_156 : decode cX9_crier 156 = .ok (.goto (-26), 3) := by decide +kernel
theorem dX9_crier_159 : decode cX9_crier 159 = .ok (.aload_n 0, 1) := by decide +kernel
theorem dX9_crier_160 : decode cX9_crier 160 = .ok (.invokevirtual 277, 3) := by decide +kernel
theorem dX9_crier_163 : decode cX9_crier 163 = .ok (.istore 5, 2) := by decide +kernel
theorem dX9_crier_165 : decode cX9_crier 165 = .ok (.goto (-67), 3) := by decide +kernel
theorem dX9_crier_168 : decode cX9_crier 168 = .ok (.iload_n 3, 1) := by decide +kernel
theorem dX9_crier_169 : decode cX9_crier 169 = .ok (.iconst (-1), 1) := by decide +kernel
theorem dX9_crier_170 : decode cX9_crier 170 = .ok (.if_icmp .ne 8, 3) := by decide +kernel
theorem dX9_crier_173 : decode cX9_crier 173 = .ok (.iload 4, 2) := by decide +kernel
theorem dX9_crier_175 : decode cX9_crier 175 = .ok (.goto 29, 3) := by decide +kernel
theorem dX9_crier_178 : decode cX9_crier 178 = .ok (.iload_n 3, 1) := by decide +kernel
theorem dX9_crier_179 : decode cX9_crier 179 = .ok (.i2l, 1) := by decide +kernel
theorem dX9_crier_180 : decode cX9_crier 180 = .ok (.lconst 0, 1) := by decide +kernel
theorem dX9_crier_181 : decode cX9_crier 181 = .ok (.aload_n 0, 1) := by decide +kernel
theorem dX9_crier_182 : decode cX9_crier 182 = .ok (.getfield 271, 3) := by decide +kernel
theorem dX9_crier_185 : decode cX9_crier 185 = .ok (.iconst 1, 1) := by decide +kernel
theorem dX9_crier_186 : decode cX9_crier 186 = .ok (.isub, 1) := by decide +kernel
theorem dX9_crier_187 : decode cX9_crier 187 = .ok (.i2l, 1) := by decide +kernel
theorem dX9_crier_188 : decode cX9_crier 188 = .ok (.invokestatic 95, 3) := by decide +kernel
theorem dX9_crier_191 : decode cX9_crier 191 = .ok (.ifCond .eq 12, 3) := by decide +kernel
theorem dX9_crier_194 : decode cX9_crier 194 = .ok (.aload_n 0, 1) := by decide +kernel
theorem dX9_crier_195 : decode cX9_crier 195 = .ok (.getfield 81, 3) := by decide +kernel
theorem dX9_crier_198 : decode cX9_crier 198 = .ok (.iload_n 3, 1) := by decide +kernel
theorem dX9_crier_199 : decode cX9_crier 199 = .ok (.iaload, 1) := by decide +kernel
theorem dX9_crier_200 : decode cX9_crier 200 = .ok (.goto 4, 3) := by decide +kernel
theorem dX9_crier_203 : decode cX9_crier 203 = .ok (.iconst (-1), 1) := by decide +kernel
theorem dX9_crier_204 : decode cX9_crier 204 = .ok (.ireturn, 1) := by decide +kernel
theorem dX9_keepAt_0 : decode cX9_keepAt 0 = .ok (.aload_n 0, 1) := by decide +kernel
theorem dX9_keepAt_1 : decode cX9_keepAt 1 = .ok (.iload_n 1, 1) := by decide +kernel
theorem dX9_keepAt_2 : decode cX9_keepAt 2 = .ok (.invokevirtual 206, 3) := by decide +kernel
theorem dX9_keepAt_5 : decode cX9_keepAt 5 = .ok (.ifCond .eq 11, 3) := by decide +kernel
theorem dX9_keepAt_8 : decode cX9_keepAt 8 = .ok (.aload_n 0, 1) := by decide +kernel
theorem dX9_keepAt_9 : decode cX9_keepAt 9 = .ok (.iload_n 2, 1) := by decide +kernel
theorem dX9_keepAt_10 : decode cX9_keepAt 10 = .ok (.invokevirtual 193, 3) := by decide +kernel
theorem dX9_keepAt_13 : decode cX9_keepAt 13 = .ok (.ifCond .ne 6, 3) := by decide +kernel
theorem dX9_keepAt_16 : decode cX9_keepAt 16 = .ok (.ldc 197, 2) := by decide +kernel
theorem dX9_keepAt_18 : decode cX9_keepAt 18 = .ok (.ireturn, 1) := by decide +kernel
theorem dX9_keepAt_19 : decode cX9_keepAt 19 = .ok (.aload_n 0, 1) := by decide +kernel
theorem dX9_keepAt_20 : decode cX9_keepAt 20 = .ok (.getfield 7, 3) := by decide +kernel
theorem dX9_keepAt_23 : decode cX9_keepAt 23 = .ok (.iload_n 1, 1) := by decide +kernel
theorem dX9_keepAt_24 : decode cX9_keepAt 24 = .ok (.iaload, 1) := by decide +kernel
theorem dX9_keepAt_25 : decode cX9_keepAt 25 = .ok (.istore_n 3, 1) := by decide +kernel
theorem dX9_keepAt_26 : decode cX9_keepAt 26 = .ok (.aload_n 0, 1) := by decide +kernel
theorem dX9_keepAt_27 : decode cX9_keepAt 27 = .ok (.getfield 7, 3) := by decide +kernel
theorem dX9_keepAt_30 : decode cX9_keepAt 30 = .ok (.iload_n 1, 1) := by decide +kernel
theorem dX9_keepAt_31 : decode cX9_keepAt 31 = .ok (.iload_n 2, 1) := by decide +kernel
theorem dX9_keepAt_32 : decode cX9_keepAt 32 = .ok (.iastore, 1) := by decide +kernel
theorem dX9_keepAt_33 : decode cX9_keepAt 33 = .ok (.iload_n 3, 1) := by decide +kernel
theorem dX9_keepAt_34 : decode cX9_keepAt 34 = .ok (.ireturn, 1) := by decide +kernel
theorem dX9_holds_0 : decode cX9_holds 0 = .ok (.iconst 1, 1) := by decide +kernel
theorem dX9_holds_1 : decode cX9_holds 1 = .ok (.istore_n 3, 1) := by decide +kernel
theorem dX9_holds_2 : decode cX9_holds 2 = .ok (.iconst 0, 1) := by decide +kernel
theorem dX9_holds_3 : decode cX9_holds 3 = .ok (.istore 4, 2) := by decide +kernel
theorem dX9_holds_5 : decode cX9_holds 5 = .ok (.iload 4, 2) := by decide +kernel
theorem dX9_holds_7 : decode cX9_holds 7 = .ok (.aload_n 0, 1) := by decide +kernel
theorem dX9_holds_8 : decode cX9_holds 8 = .ok (.getfield 35, 3) := by decide +kernel
theorem dX9_holds_11 : decode cX9_holds 11 = .ok (.iconst 0, 1) := by decide +kernel
theorem dX9_holds_12 : decode cX9_holds 12 = .ok (.iaload, 1) := by decide +kernel
theorem dX9_holds_13 : decode cX9_holds 13 = .ok (.if_icmp .ge 40, 3) := by decide +kernel
theorem dX9_holds_16 : decode cX9_holds 16 = .ok (.iload_n 3, 1) := by decide +kernel
theorem dX9_holds_17 : decode cX9_holds 17 = .ok (.ifCond .eq 36, 3) := by decide +kernel
theorem dX9_holds_20 : decode cX9_holds 20 = .ok (.aload_n 0, 1) := by decide +kernel
theorem dX9_holds_21 : decode cX9_holds 21 = .ok (.iload 4, 2) := by decide +kernel
theorem dX9_holds_23 : decode cX9_holds 23 = .ok (.iload_n 1, 1) := by decide +kernel
theorem dX9_holds_24 : decode cX9_holds 24 = .ok (.iconst 0, 1) := by decide +kernel
theorem dX9_holds_25 : decode cX9_holds 25 = .ok (.invokevirtual 242, 3) := by decide +kernel
theorem dX9_holds_28 : decode cX9_holds 28 = .ok (.istore 5, 2) := by decide +kernel
theorem dX9_holds_30 : decode cX9_holds 30 = .ok (.iload 5, 2) := by decide +kernel
theorem dX9_holds_32 : decode cX9_holds 32 = .ok (.ifCond .lt 13, 3) := by decide +kernel
theorem dX9_holds_35 : decode cX9_holds 35 = .ok (.iload 5, 2) := by decide +kernel
theorem dX9_holds_37 : decode cX9_holds 37 = .ok (.iload_n 2, 1) := by decide +kernel
theorem dX9_holds_38 : decode cX9_holds 38 = .ok (.if_icmp .gt 7, 3) := by decide +kernel
theorem dX9_holds_41 : decode cX9_holds 41 = .ok (.iconst 1, 1) := by decide +kernel
theorem dX9_holds_42 : decode cX9_holds 42 = .ok (.goto 4, 3) := by decide +kernel
theorem dX9_holds_45 : decode cX9_holds 45 = .ok (.iconst 0, 1) := by decide +kernel
theorem dX9_holds_46 : decode cX9_holds 46 = .ok (.istore_n 3, 1) := by decide +kernel
theorem dX9_holds_47 : decode cX9_holds 47 = .ok (.iinc 4 1, 3) := by decide +kernel
theorem dX9_holds_50 : decode cX9_holds 50 = .ok (.goto (-45), 3) := by decide +kernel
theorem dX9_holds_53 : decode cX9_holds 53 = .ok (.iload_n 3, 1) := by decide +kernel
theorem dX9_holds_54 : decode cX9_holds 54 = .ok (.ireturn, 1) := by decide +kernel
theorem dX9_movesTwo_0 : decode cX9_movesTwo 0 = .ok (.iload_n 3, 1) := by decide +kernel
theorem dX9_movesTwo_1 : decode cX9_movesTwo 1 = .ok (.iconst 1, 1) := by decide +kernel
theorem dX9_movesTwo_2 : decode cX9_movesTwo 2 = .ok (.iadd, 1) := by decide +kernel
theorem dX9_movesTwo_3 : decode cX9_movesTwo 3 = .ok (.istore 4, 2) := by decide +kernel
theorem dX9_movesTwo_5 : decode cX9_movesTwo 5 = .ok (.iload 4, 2) := by decide +kernel
theorem dX9_movesTwo_7 : decode cX9_movesTwo 7 = .ok (.aload_n 0, 1) := by decide +kernel
theorem dX9_movesTwo_8 : decode cX9_movesTwo 8 = .ok (.getfield 35, 3) := by decide +kernel
theorem dX9_movesTwo_11 : decode cX9_movesTwo 11 = .ok (.iconst 1, 1) := by decide +kernel
theorem dX9_movesTwo_12 : decode cX9_movesTwo 12 = .ok (.iaload, 1) := by decide +kernel
theorem dX9_movesTwo_13 : decode cX9_movesTwo 13 = .ok (.if_icmp .ge 102, 3) := by decide +kernel
theorem dX9_movesTwo_16 : decode cX9_movesTwo 16 = .ok (.aload_n 0, 1) := by decide +kernel
theorem dX9_movesTwo_17 : decode cX9_movesTwo 17 = .ok (.getfield 7, 3) := by decide +kernel
theorem dX9_movesTwo_20 : decode cX9_movesTwo 20 = .ok (.iload 4, 2) := by decide +kernel
theorem dX9_movesTwo_22 : decode cX9_movesTwo 22 = .ok (.iaload, 1) := by decide +kernel
theorem dX9_movesTwo_23 : decode cX9_movesTwo 23 = .ok (.istore 5, 2) := by decide +kernel
theorem dX9_movesTwo_25 : decode cX9_movesTwo 25 = .ok (.iconst 0, 1) := by decide +kernel
theorem dX9_movesTwo_26 : decode cX9_movesTwo 26 = .ok (.istore 6, 2) := by decide +kernel
theorem dX9_movesTwo_28 : decode cX9_movesTwo 28 = .ok (.iload 6, 2) := by decide +kernel
theorem dX9_movesTwo_30 : decode cX9_movesTwo 30 = .ok (.aload_n 0, 1) := by decide +kernel
theorem dX9_movesTwo_31 : decode cX9_movesTwo 31 = .ok (.getfield 35, 3) := by decide +kernel
theorem dX9_movesTwo_34 : decode cX9_movesTwo 34 = .ok (.iconst 0, 1) := by decide +kernel
theorem dX9_movesTwo_35 : decode cX9_movesTwo 35 = .ok (.iaload, 1) := by decide +kernel
theorem dX9_movesTwo_36 : decode cX9_movesTwo 36 = .ok (.if_icmp .ge 73, 3) := by decide +kernel
theorem dX9_movesTwo_39 : decode cX9_movesTwo 39 = .ok (.aload_n 0, 1) := by decide +kernel
theorem dX9_movesTwo_40 : decode cX9_movesTwo 40 = .ok (.getfield 7, 3) := by decide +kernel
theorem dX9_movesTwo_43 : decode cX9_movesTwo 43 = .ok (.iload 4, 2) := by decide +kernel
theorem dX9_movesTwo_45 : decode cX9_movesTwo 45 = .ok (.iload 6, 2) := by decide +kernel
theorem dX9_movesTwo_47 : decode cX9_movesTwo 47 = .ok (.iastore, 1) := by decide +kernel
theorem dX9_movesTwo_48 : decode cX9_movesTwo 48 = .ok (.iload 6, 2) := by decide +kernel
theorem dX9_movesTwo_50 : decode cX9_movesTwo 50 = .ok (.iload 5, 2) := by decide +kernel
theorem dX9_movesTwo_52 : decode cX9_movesTwo 52 = .ok (.if_icmp .eq 16, 3) := by decide +kernel
theorem dX9_movesTwo_55 : decode cX9_movesTwo 55 = .ok (.aload_n 0, 1) := by decide +kernel
theorem dX9_movesTwo_56 : decode cX9_movesTwo 56 = .ok (.iload_n 1, 1) := by decide +kernel
theorem dX9_movesTwo_57 : decode cX9_movesTwo 57 = .ok (.iload_n 2, 1) := by decide +kernel
theorem dX9_movesTwo_58 : decode cX9_movesTwo 58 = .ok (.invokevirtual 281, 3) := by decide +kernel
theorem dX9_movesTwo_61 : decode cX9_movesTwo 61 = .ok (.ifCond .eq 7, 3) := by decide +kernel
theorem dX9_movesTwo_64 : decode cX9_movesTwo 64 = .ok (.iconst 1, 1) := by decide +kernel
theorem dX9_movesTwo_65 : decode cX9_movesTwo 65 = .ok (.goto 4, 3) := by decide +kernel
theorem dX9_movesTwo_68 : decode cX9_movesTwo 68 = .ok (.iconst 0, 1) := by decide +kernel
theorem dX9_movesTwo_69 : decode cX9_movesTwo 69 = .ok (.istore 7, 2) := by decide +kernel
theorem dX9_movesTwo_71 : decode cX9_movesTwo 71 = .ok (.aload_n 0, 1) := by decide +kernel
theorem dX9_movesTwo_72 : decode cX9_movesTwo 72 = .ok (.getfield 7, 3) := by decide +kernel
theorem dX9_movesTwo_75 : decode cX9_movesTwo 75 = .ok (.iload 4, 2) := by decide +kernel
theorem dX9_movesTwo_77 : decode cX9_movesTwo 77 = .ok (.iload 5, 2) := by decide +kernel
theorem dX9_movesTwo_79 : decode cX9_movesTwo 79 = .ok (.iastore, 1) := by decide +kernel
theorem dX9_movesTwo_80 : decode cX9_movesTwo 80 = .ok (.iload 7, 2) := by decide +kernel
theorem dX9_movesTwo_82 : decode cX9_movesTwo 82 = .ok (.ifCond .eq 21, 3) := by decide +kernel
theorem dX9_movesTwo_85 : decode cX9_movesTwo 85 = .ok (.aload_n 0, 1) := by decide +kernel
theorem dX9_movesTwo_86 : decode cX9_movesTwo 86 = .ok (.getfield 84, 3) := by decide +kernel
theorem dX9_movesTwo_89 : decode cX9_movesTwo 89 = .ok (.iconst 3, 1) := by decide +kernel
theorem dX9_movesTwo_90 : decode cX9_movesTwo 90 = .ok (.iload 4, 2) := by decide +kernel
theorem dX9_movesTwo_92 : decode cX9_movesTwo 92 = .ok (.iastore, 1) := by decide +kernel
theorem dX9_movesTwo_93 : decode cX9_movesTwo 93 = .ok (.aload_n 0, 1) := by decide +kernel
theorem dX9_movesTwo_94 : decode cX9_movesTwo 94 = .ok (.getfield 84, 3) := by decide +kernel
theorem dX9_movesTwo_97 : decode cX9_movesTwo 97 = .ok (.iconst 4, 1) := by decide +kernel
theorem dX9_movesTwo_98 : decode cX9_movesTwo 98 = .ok (.iload 6, 2) := by decide +kernel
theorem dX9_movesTwo_100 : decode cX9_movesTwo 100 = .ok (.iastore, 1) := by decide +kernel
theorem dX9_movesTwo_101 : decode cX9_movesTwo 101 = .ok (.iconst 1, 1) := by decide +kernel
theorem dX9_movesTwo_102 : decode cX9_movesTwo 102 = .ok (.ireturn, 1) := by decide +kernel
theorem dX9_movesTwo_103 : decode cX9_movesTwo 103 = .ok (.iinc 6 1, 3) := by decide +kernel
theorem dX9_movesTwo_106 : decode cX9_movesTwo 106 = .ok (.goto (-78), 3) := by decide +kernel
theorem dX9_movesTwo_109 : decode cX9_movesTwo 109 = .ok (.iinc 4 1, 3) := by decide +kernel
theorem dX9_movesTwo_112 : decode cX9_movesTwo 112 = .ok (.goto (-107), 3) := by decide +kernel
theorem dX9_movesTwo_115 : decode cX9_movesTwo 115 = .ok (.iconst 0, 1) := by decide +kernel
theorem dX9_movesTwo_116 : decode cX9_movesTwo 116 = .ok (.ireturn, 1) := by decide +kernel
theorem dX9_findMoved_0 : decode cX9_findMoved 0 = .ok (.aload_n 0, 1) := by decide +kernel
theorem dX9_findMoved_1 : decode cX9_findMoved 1 = .ok (.iload_n 1, 1) := by decide +kernel
theorem dX9_findMoved_2 : decode cX9_findMoved 2 = .ok (.iload_n 2, 1) := by decide +kernel
theorem dX9_findMoved_3 : decode cX9_findMoved 3 = .ok (.invokevirtual 281, 3) := by decide +kernel
theorem dX9_findMoved_6 : decode cX9_findMoved 6 = .ok (.ifCond .eq 5, 3) := by decide +kernel
theorem dX9_findMoved_9 : decode cX9_findMoved 9 = .ok (.iconst 0, 1) := by decide +kernel
theorem dX9_findMoved_10 : decode cX9_findMoved 10 = .ok (.ireturn, 1) := by decide +kernel
theorem dX9_findMoved_11 : decode cX9_findMoved 11 = .ok (.iconst 1, 1) := by decide +kernel
theorem dX9_findMoved_12 : decode cX9_findMoved 12 = .ok (.istore_n 3, 1) := by decide +kernel
theorem dX9_findMoved_13 : decode cX9_findMoved 13 = .ok (.iload_n 3, 1) := by decide +kernel
theorem dX9_findMoved_14 : decode cX9_findMoved 14 = .ok (.iconst 2, 1) := by decide +kernel
theorem dX9_findMoved_15 : decode cX9_findMoved 15 = .ok (.if_icmp .gt 141, 3) := by decide +kernel
theorem dX9_findMoved_18 : decode cX9_findMoved 18 = .ok (.iconst 0, 1) := by decide +kernel
theorem dX9_findMoved_19 : decode cX9_findMoved 19 = .ok (.istore 4, 2) := by decide +kernel
theorem dX9_findMoved_21 : decode cX9_findMoved 21 = .ok (.iload 4, 2) := by decide +kernel
theorem dX9_findMoved_23 : decode cX9_findMoved 23 = .ok (.aload_n 0, 1) := by decide +kernel
theorem dX9_findMoved_24 : decode cX9_findMoved 24 = .ok (.getfield 35, 3) := by decide +kernel
theorem dX9_findMoved_27 : decode cX9_findMoved 27 = .ok (.iconst 1, 1) := by decide +kernel
theorem dX9_findMoved_28 : decode cX9_findMoved 28 = .ok (.iaload, 1) := by decide +kernel
theorem dX9_findMoved_29 : decode cX9_findMoved 29 = .ok (.if_icmp .ge 121, 3) := by decide +kernel
theorem dX9_findMoved_32 : decode cX9_findMoved 32 = .ok (.aload_n 0, 1) := by decide +kernel
theorem dX9_findMoved_33 : decode cX9_findMoved 33 = .ok (.getfield 7, 3) := by decide +kernel
theorem dX9_findMoved_36 : decode cX9_findMoved 36 = .ok (.iload 4, 2) := by decide +kernel
theorem dX9_findMoved_38 : decode cX9_findMoved 38 = .ok (.iaload, 1) := by decide +kernel
theorem dX9_findMoved_39 : decode cX9_findMoved 39 = .ok (.istore 5, 2) := by decide +kernel
theorem dX9_findMoved_41 : decode cX9_findMoved 41 = .ok (.iconst 0, 1) := by decide +kernel
theorem dX9_findMoved_42 : decode cX9_findMoved 42 = .ok (.istore 6, 2) := by decide +kernel
theorem dX9_findMoved_44 : decode cX9_findMoved 44 = .ok (.iload 6, 2) := by decide +kernel
theorem dX9_findMoved_46 : decode cX9_findMoved 46 = .ok (.aload_n 0, 1) := by decide +kernel
theorem dX9_findMoved_47 : decode cX9_findMoved 47 = .ok (.getfield 35, 3) := by decide +kernel
theorem dX9_findMoved_50 : decode cX9_findMoved 50 = .ok (.iconst 0, 1) := by decide +kernel
theorem dX9_findMoved_51 : decode cX9_findMoved 51 = .ok (.iaload, 1) := by decide +kernel
theorem dX9_findMoved_52 : decode cX9_findMoved 52 = .ok (.if_icmp .ge 92, 3) := by decide +kernel
theorem dX9_findMoved_55 : decode cX9_findMoved 55 = .ok (.aload_n 0, 1) := by decide +kernel
theorem dX9_findMoved_56 : decode cX9_findMoved 56 = .ok (.getfield 7, 3) := by decide +kernel
theorem dX9_findMoved_59 : decode cX9_findMoved 59 = .ok (.iload 4, 2) := by decide +kernel
theorem dX9_findMoved_61 : decode cX9_findMoved 61 = .ok (.iload 6, 2) := by decide +kernel
theorem dX9_findMoved_63 : decode cX9_findMoved 63 = .ok (.iastore, 1) := by decide +kernel
theorem dX9_findMoved_64 : decode cX9_findMoved 64 = .ok (.iload 6, 2) := by decide +kernel
theorem dX9_findMoved_66 : decode cX9_findMoved 66 = .ok (.iload 5, 2) := by decide +kernel
theorem dX9_findMoved_68 : decode cX9_findMoved 68 = .ok (.if_icmp .eq 35, 3) := by decide +kernel
theorem dX9_findMoved_71 : decode cX9_findMoved 71 = .ok (.iload_n 3, 1) := by decide +kernel
theorem dX9_findMoved_72 : decode cX9_findMoved 72 = .ok (.iconst 1, 1) := by decide +kernel
theorem dX9_findMoved_73 : decode cX9_findMoved 73 = .ok (.if_icmp .ne 15, 3) := by decide +kernel
theorem dX9_findMoved_76 : decode cX9_findMoved 76 = .ok (.aload_n 0, 1) := by decide +kernel
theorem dX9_findMoved_77 : decode cX9_findMoved 77 = .ok (.iload_n 1, 1) := by decide +kernel
theorem dX9_findMoved_78 : decode cX9_findMoved 78 = .ok (.iload_n 2, 1) := by decide +kernel
theorem dX9_findMoved_79 : decode cX9_findMoved 79 = .ok (.invokevirtual 281, 3) := by decide +kernel
theorem dX9_findMoved_82 : decode cX9_findMoved 82 = .ok (.ifCond .eq 21, 3) := by decide +kernel
theorem dX9_findMoved_85 : decode cX9_findMoved 85 = .ok (.goto 14, 3) := by decide +kernel
theorem dX9_findMoved_88 : decode cX9_findMoved 88 = .ok (.aload_n 0, 1) := by decide +kernel
theorem dX9_findMoved_89 : decode cX9_findMoved 89 = .ok (.iload_n 1, 1) := by decide +kernel
theorem dX9_findMoved_90 : decode cX9_findMoved 90 = .ok (.iload_n 2, 1) := by decide +kernel
theorem dX9_findMoved_91 : decode cX9_findMoved 91 = .ok (.iload 4, 2) := by decide +kernel
theorem dX9_findMoved_93 : decode cX9_findMoved 93 = .ok (.invokevirtual 284, 3) := by decide +kernel
theorem dX9_findMoved_96 : decode cX9_findMoved 96 = .ok (.ifCond .eq 7, 3) := by decide +kernel
theorem dX9_findMoved_99 : decode cX9_findMoved 99 = .ok (.iconst 1, 1) := by decide +kernel
theorem dX9_findMoved_100 : decode cX9_findMoved 100 = .ok (.goto 4, 3) := by decide +kernel
theorem dX9_findMoved_103 : decode cX9_findMoved 103 = .ok (.iconst 0, 1) := by decide +kernel
theorem dX9_findMoved_104 : decode cX9_findMoved 104 = .ok (.istore 7, 2) := by decide +kernel
theorem dX9_findMoved_106 : decode cX9_findMoved 106 = .ok (.aload_n 0, 1) := by decide +kernel
theorem dX9_findMoved_107 : decode cX9_findMoved 107 = .ok (.getfield 7, 3) := by decide +kernel
theorem dX9_findMoved_110 : decode cX9_findMoved 110 = .ok (.iload 4, 2) := by decide +kernel
theorem dX9_findMoved_112 : decode cX9_findMoved 112 = .ok (.iload 5, 2) := by decide +kernel
theorem dX9_findMoved_114 : decode cX9_findMoved 114 = .ok (.iastore, 1) := by decide +kernel
theorem dX9_findMoved_115 : decode cX9_findMoved 115 = .ok (.iload 7, 2) := by decide +kernel
theorem dX9_findMoved_117 : decode cX9_findMoved 117 = .ok (.ifCond .eq 21, 3) := by decide +kernel
theorem dX9_findMoved_120 : decode cX9_findMoved 120 = .ok (.aload_n 0, 1) := by decide +kernel
theorem dX9_findMoved_121 : decode cX9_findMoved 121 = .ok (.getfield 84, 3) := by decide +kernel
theorem dX9_findMoved_124 : decode cX9_findMoved 124 = .ok (.iconst 1, 1) := by decide +kernel
theorem dX9_findMoved_125 : decode cX9_findMoved 125 = .ok (.iload 4, 2) := by decide +kernel
theorem dX9_findMoved_127 : decode cX9_findMoved 127 = .ok (.iastore, 1) := by decide +kernel
theorem dX9_findMoved_128 : decode cX9_findMoved 128 = .ok (.aload_n 0, 1) := by decide +kernel
theorem dX9_findMoved_129 : decode cX9_findMoved 129 = .ok (.getfield 84, 3) := by decide +kernel
theorem dX9_findMoved_132 : decode cX9_findMoved 132 = .ok (.iconst 2, 1) := by decide +kernel
theorem dX9_findMoved_133 : decode cX9_findMoved 133 = .ok (.iload 6, 2) := by decide +kernel
theorem dX9_findMoved_135 : decode cX9_findMoved 135 = .ok (.iastore, 1) := by decide +kernel
theorem dX9_findMoved_136 : decode cX9_findMoved 136 = .ok (.iload_n 3, 1) := by decide +kernel
theorem dX9_findMoved_137 : decode cX9_findMoved 137 = .ok (.ireturn, 1) := by decide +kernel
theorem dX9_findMoved_138 : decode cX9_findMoved 138 = .ok (.iinc 6 1, 3) := by decide +kernel
theorem dX9_findMoved_141 : decode cX9_findMoved 141 = .ok (.goto (-97), 3) := by decide +kernel
theorem dX9_findMoved_144 : decode cX9_findMoved 144 = .ok (.iinc 4 1, 3) := by decide +kernel
theorem dX9_findMoved_147 : decode cX9_findMoved 147 = .ok (.goto (-126), 3) := by decide +kernel
theorem dX9_findMoved_150 : decode cX9_findMoved 150 = .ok (.iinc 3 1, 3) := by decide +kernel
theorem dX9_findMoved_153 : decode cX9_findMoved 153 = .ok (.goto (-140), 3) := by decide +kernel
theorem dX9_findMoved_156 : decode cX9_findMoved 156 = .ok (.iconst (-1), 1) := by decide +kernel
theorem dX9_findMoved_157 : decode cX9_findMoved 157 = .ok (.ireturn, 1) := by decide +kernel
theorem dX9_kept_0 : decode cX9_kept 0 = .ok (.aload_n 0, 1) := by decide +kernel
theorem dX9_kept_1 : decode cX9_kept 1 = .ok (.iload_n 1, 1) := by decide +kernel
theorem dX9_kept_2 : decode cX9_kept 2 = .ok (.invokevirtual 193, 3) := by decide +kernel
theorem dX9_kept_5 : decode cX9_kept 5 = .ok (.ifCond .ne 6, 3) := by decide +kernel
theorem dX9_kept_8 : decode cX9_kept 8 = .ok (.ldc 197, 2) := by decide +kernel
theorem dX9_kept_10 : decode cX9_kept 10 = .ok (.ireturn, 1) := by decide +kernel
theorem dX9_kept_11 : decode cX9_kept 11 = .ok (.iload_n 2, 1) := by decide +kernel
theorem dX9_kept_12 : decode cX9_kept 12 = .ok (.i2l, 1) := by decide +kernel
theorem dX9_kept_13 : decode cX9_kept 13 = .ok (.lconst 0, 1) := by decide +kernel
theorem dX9_kept_14 : decode cX9_kept 14 = .ok (.ldc2_w 287, 3) := by decide +kernel
theorem dX9_kept_17 : decode cX9_kept 17 = .ok (.invokestatic 95, 3) := by decide +kernel
theorem dX9_kept_20 : decode cX9_kept 20 = .ok (.ifCond .eq 15, 3) := by decide +kernel
theorem dX9_kept_23 : decode cX9_kept 23 = .ok (.iload_n 3, 1) := by decide +kernel
theorem dX9_kept_24 : decode cX9_kept 24 = .ok (.i2l, 1) := by decide +kernel
theorem dX9_kept_25 : decode cX9_kept 25 = .ok (.lconst 0, 1) := by decide +kernel
theorem dX9_kept_26 : decode cX9_kept 26 = .ok (.ldc2_w 289, 3) := by decide +kernel
theorem dX9_kept_29 : decode cX9_kept 29 = .ok (.invokestatic 95, 3) := by decide +kernel
theorem dX9_kept_32 : decode cX9_kept 32 = .ok (.ifCond .ne 6, 3) := by decide +kernel
theorem dX9_kept_35 : decode cX9_kept 35 = .ok (.ldc 99, 2) := by decide +kernel
theorem dX9_kept_37 : decode cX9_kept 37 = .ok (.ireturn, 1) := by decide +kernel
theorem dX9_kept_38 : decode cX9_kept 38 = .ok (.aload_n 0, 1) := by decide +kernel
theorem dX9_kept_39 : decode cX9_kept 39 = .ok (.iload_n 1, 1) := by decide +kernel
theorem dX9_kept_40 : decode cX9_kept 40 = .ok (.iload_n 2, 1) := by decide +kernel
theorem dX9_kept_41 : decode cX9_kept 41 = .ok (.invokevirtual 291, 3) := by decide +kernel
theorem dX9_kept_44 : decode cX9_kept 44 = .ok (.istore 4, 2) := by decide +kernel
theorem dX9_kept_46 : decode cX9_kept 46 = .ok (.iload_n 3, 1) := by decide +kernel
theorem dX9_kept_47 : decode cX9_kept 47 = .ok (.ifCond .ne 8, 3) := by decide +kernel
theorem dX9_kept_50 : decode cX9_kept 50 = .ok (.iload 4, 2) := by decide +kernel
theorem dX9_kept_52 : decode cX9_kept 52 = .ok (.goto 21, 3) := by decide +kernel
theorem dX9_kept_55 : decode cX9_kept 55 = .ok (.iload_n 3, 1) := by decide +kernel
theorem dX9_kept_56 : decode cX9_kept 56 = .ok (.iconst 2, 1) := by decide +kernel
theorem dX9_kept_57 : decode cX9_kept 57 = .ok (.iload 4, 2) := by decide +kernel
theorem dX9_kept_59 : decode cX9_kept 59 = .ok (.imul, 1) := by decide +kernel
theorem dX9_kept_60 : decode cX9_kept 60 = .ok (.if_icmp .gt 12, 3) := by decide +kernel
theorem dX9_kept_63 : decode cX9_kept 63 = .ok (.aload_n 0, 1) := by decide +kernel
theorem dX9_kept_64 : decode cX9_kept 64 = .ok (.getfield 84, 3) := by decide +kernel
theorem dX9_kept_67 : decode cX9_kept 67 = .ok (.iload_n 3, 1) := by decide +kernel
theorem dX9_kept_68 : decode cX9_kept 68 = .ok (.iaload, 1) := by decide +kernel
theorem dX9_kept_69 : decode cX9_kept 69 = .ok (.goto 4, 3) := by decide +kernel
theorem dX9_kept_72 : decode cX9_kept 72 = .ok (.iconst (-1), 1) := by decide +kernel
theorem dX9_kept_73 : decode cX9_kept 73 = .ok (.ireturn, 1) := by decide +kernel
theorem dX9_canBeIn_0 : decode cX9_canBeIn 0 = .ok (.iconst 0, 1) := by decide +kernel
theorem dX9_canBeIn_1 : decode cX9_canBeIn 1 = .ok (.istore_n 2, 1) := by decide +kernel
theorem dX9_canBeIn_2 : decode cX9_canBeIn 2 = .ok (.iconst 0, 1) := by decide +kernel
theorem dX9_canBeIn_3 : decode cX9_canBeIn 3 = .ok (.istore_n 3, 1) := by decide +kernel
theorem dX9_canBeIn_4 : decode cX9_canBeIn 4 = .ok (.iload_n 3, 1) := by decide +kernel
theorem dX9_canBeIn_5 : decode cX9_canBeIn 5 = .ok (.aload_n 0, 1) := by decide +kernel
theorem dX9_canBeIn_6 : decode cX9_canBeIn 6 = .ok (.getfield 35, 3) := by decide +kernel
theorem dX9_canBeIn_9 : decode cX9_canBeIn 9 = .ok (.iconst 1, 1) := by decide +kernel
theorem dX9_canBeIn_10 : decode cX9_canBeIn 10 = .ok (.iaload, 1) := by decide +kernel
theorem dX9_canBeIn_11 : decode cX9_canBeIn 11 = .ok (.if_icmp .ge 43, 3) := by decide +kernel
theorem dX9_canBeIn_14 : decode cX9_canBeIn 14 = .ok (.iload_n 2, 1) := by decide +kernel
theorem dX9_canBeIn_15 : decode cX9_canBeIn 15 = .ok (.iload_n 1, 1) := by decide +kernel
theorem dX9_canBeIn_16 : decode cX9_canBeIn 16 = .ok (.iload_n 3, 1) := by decide +kernel
theorem dX9_canBeIn_17 : decode cX9_canBeIn 17 = .ok (.invokestatic 146, 3) := by decide +kernel
theorem dX9_canBeIn_20 : decode cX9_canBeIn 20 = .ok (.ifCond .eq 20, 3) := by decide +kernel
theorem dX9_canBeIn_23 : decode cX9_canBeIn 23 = .ok (.aload_n 0, 1) := by decide +kernel
theorem dX9_canBeIn_24 : decode cX9_canBeIn 24 = .ok (.getfield 32, 3) := by decide +kernel
theorem dX9_canBeIn_27 : decode cX9_canBeIn 27 = .ok (.iload_n 3, 1) := by decide +kernel
theorem dX9_canBeIn_28 : decode cX9_canBeIn 28 = .ok (.iaload, 1) := by decide +kernel
theorem dX9_canBeIn_29 : decode cX9_canBeIn 29 = .ok (.iload_n 2, 1) := by decide +kernel
theorem dX9_canBeIn_30 : decode cX9_canBeIn 30 = .ok (.iconst (-1), 1) := by decide +kernel
theorem dX9_canBeIn_31 : decode cX9_canBeIn 31 = .ok (.ixor, 1) := by decide +kernel
theorem dX9_canBeIn_32 : decode cX9_canBeIn 32 = .ok (.iand, 1) := by decide +kernel
theorem dX9_canBeIn_33 : decode cX9_canBeIn 33 = .ok (.ifCond .ne 7, 3) := by decide +kernel
theorem dX9_canBeIn_36 : decode cX9_canBeIn 36 = .ok (.iconst 1, 1) := by decide +kernel
theorem dX9_canBeIn_37 : decode cX9_canBeIn 37 = .ok (.goto 4, 3) := by decide +kernel
theorem dX9_canBeIn_40 : decode cX9_canBeIn 40 = .ok (.iconst 0, 1) := by decide +kernel
theorem dX9_canBeIn_41 : decode cX9_canBeIn 41 = .ok (.invokestatic 150, 3) := by decide +kernel
theorem dX9_canBeIn_44 : decode cX9_canBeIn 44 = .ok (.iload_n 3, 1) := by decide +kernel
theorem dX9_canBeIn_45 : decode cX9_canBeIn 45 = .ok (.ishl, 1) := by decide +kernel
theorem dX9_canBeIn_46 : decode cX9_canBeIn 46 = .ok (.ior, 1) := by decide +kernel
theorem dX9_canBeIn_47 : decode cX9_canBeIn 47 = .ok (.istore_n 2, 1) := by decide +kernel
theorem dX9_canBeIn_48 : decode cX9_canBeIn 48 = .ok (.iinc 3 1, 3) := by decide +kernel
theorem dX9_canBeIn_51 : decode cX9_canBeIn 51 = .ok (.goto (-47), 3) := by decide +kernel
theorem dX9_canBeIn_54 : decode cX9_canBeIn 54 = .ok (.iload_n 2, 1) := by decide +kernel
theorem dX9_canBeIn_55 : decode cX9_canBeIn 55 = .ok (.ireturn, 1) := by decide +kernel
theorem dX9_reachOf_0 : decode cX9_reachOf 0 = .ok (.aload_n 0, 1) := by decide +kernel
theorem dX9_reachOf_1 : decode cX9_reachOf 1 = .ok (.iload_n 1, 1) := by decide +kernel
theorem dX9_reachOf_2 : decode cX9_reachOf 2 = .ok (.invokevirtual 294, 3) := by decide +kernel
theorem dX9_reachOf_5 : decode cX9_reachOf 5 = .ok (.istore_n 2, 1) := by decide +kernel
theorem dX9_reachOf_6 : decode cX9_reachOf 6 = .ok (.iconst 0, 1) := by decide +kernel
theorem dX9_reachOf_7 : decode cX9_reachOf 7 = .ok (.istore_n 3, 1) := by decide +kernel
theorem dX9_reachOf_8 : decode cX9_reachOf 8 = .ok (.iconst 0, 1) := by decide +kernel
theorem dX9_reachOf_9 : decode cX9_reachOf 9 = .ok (.istore 4, 2) := by decide +kernel
theorem dX9_reachOf_11 : decode cX9_reachOf 11 = .ok (.iload 4, 2) := by decide +kernel
theorem dX9_reachOf_13 : decode cX9_reachOf 13 = .ok (.aload_n 0, 1) := by decide +kernel
theorem dX9_reachOf_14 : decode cX9_reachOf 14 = .ok (.getfield 35, 3) := by decide +kernel
theorem dX9_reachOf_17 : decode cX9_reachOf 17 = .ok (.iconst 1, 1) := by decide +kernel
theorem dX9_reachOf_18 : decode cX9_reachOf 18 = .ok (.iaload, 1) := by decide +kernel
theorem dX9_reachOf_19 : decode cX9_reachOf 19 = .ok (.if_icmp .ge 32, 3) := by decide +kernel
theorem dX9_reachOf_22 : decode cX9_reachOf 22 = .ok (.iload_n 3, 1) := by decide +kernel
theorem dX9_reachOf_23 : decode cX9_reachOf 23 = .ok (.iload_n 2, 1) := by decide +kernel
theorem dX9_reachOf_24 : decode cX9_reachOf 24 = .ok (.iload 4, 2) := by decide +kernel
theorem dX9_reachOf_26 : decode cX9_reachOf 26 = .ok (.invokestatic 146, 3) := by decide +kernel
theorem dX9_reachOf_29 : decode cX9_reachOf 29 = .ok (.ifCond .eq 13, 3) := by decide +kernel
theorem dX9_reachOf_32 : decode cX9_reachOf 32 = .ok (.aload_n 0, 1) := by decide +kernel
theorem dX9_reachOf_33 : decode cX9_reachOf 33 = .ok (.getfield 29, 3) := by decide +kernel
theorem dX9_reachOf_36 : decode cX9_reachOf 36 = .ok (.iload 4, 2) := by decide +kernel
theorem dX9_reachOf_38 : decode cX9_reachOf 38 = .ok (.iaload, 1) := by decide +kernel
theorem dX9_reachOf_39 : decode cX9_reachOf 39 = .ok (.goto 4, 3) := by decide +kernel
theorem dX9_reachOf_42 : decode cX9_reachOf 42 = .ok (.iconst 0, 1) := by decide +kernel
theorem dX9_reachOf_43 : decode cX9_reachOf 43 = .ok (.iadd, 1) := by decide +kernel
theorem dX9_reachOf_44 : decode cX9_reachOf 44 = .ok (.istore_n 3, 1) := by decide +kernel
theorem dX9_reachOf_45 : decode cX9_reachOf 45 = .ok (.iinc 4 1, 3) := by decide +kernel
theorem dX9_reachOf_48 : decode cX9_reachOf 48 = .ok (.goto (-37), 3) := by decide +kernel
theorem dX9_reachOf_51 : decode cX9_reachOf 51 = .ok (.iload_n 3, 1) := by decide +kernel
theorem dX9_reachOf_52 : decode cX9_reachOf 52 = .ok (.ireturn, 1) := by decide +kernel
theorem dX9_reach_0 : decode cX9_reach 0 = .ok (.aload_n 0, 1) := by decide +kernel
theorem dX9_reach_1 : decode cX9_reach 1 = .ok (.iload_n 1, 1) := by decide +kernel
theorem dX9_reach_2 : decode cX9_reach 2 = .ok (.invokevirtual 297, 3) := by decide +kernel
theorem dX9_reach_5 : decode cX9_reach 5 = .ok (.ifCond .eq 11, 3) := by decide +kernel
theorem dX9_reach_8 : decode cX9_reach 8 = .ok (.aload_n 0, 1) := by decide +kernel
theorem dX9_reach_9 : decode cX9_reach 9 = .ok (.iload_n 1, 1) := by decide +kernel
theorem dX9_reach_10 : decode cX9_reach 10 = .ok (.invokevirtual 300, 3) := by decide +kernel
theorem dX9_reach_13 : decode cX9_reach 13 = .ok (.goto 5, 3) := by decide +kernel
theorem dX9_reach_16 : decode cX9_reach 16 = .ok (.ldc 197, 2) := by decide +kernel
theorem dX9_reach_18 : decode cX9_reach 18 = .ok (.ireturn, 1) := by decide +kernel
theorem dX9_needed_0 : decode cX9_needed 0 = .ok (.iload_n 1, 1) := by decide +kernel
theorem dX9_needed_1 : decode cX9_needed 1 = .ok (.i2l, 1) := by decide +kernel
theorem dX9_needed_2 : decode cX9_needed 2 = .ok (.lconst 0, 1) := by decide +kernel
theorem dX9_needed_3 : decode cX9_needed 3 = .ok (.ldc2_w 303, 3) := by decide +kernel
theorem dX9_needed_6 : decode cX9_needed 6 = .ok (.invokestatic 95, 3) := by decide +kernel
theorem dX9_needed_9 : decode cX9_needed 9 = .ok (.ifCond .ne 6, 3) := by decide +kernel
theorem dX9_needed_12 : decode cX9_needed 12 = .ok (.ldc 99, 2) := by decide +kernel
theorem dX9_needed_14 : decode cX9_needed 14 = .ok (.ireturn, 1) := by decide +kernel
theorem dX9_needed_15 : decode cX9_needed 15 = .ok (.iconst (-1), 1) := by decide +kernel
theorem dX9_needed_16 : decode cX9_needed 16 = .ok (.istore_n 2, 1) := by decide +kernel
theorem dX9_needed_17 : decode cX9_needed 17 = .ok (.iconst 0, 1) := by decide +kernel
theorem dX9_needed_18 : decode cX9_needed 18 = .ok (.istore_n 3, 1) := by decide +kernel
theorem dX9_needed_19 : decode cX9_needed 19 = .ok (.iload_n 3, 1) := by decide +kernel
theorem dX9_needed_20 : decode cX9_needed 20 = .ok (.aload_n 0, 1) := by decide +kernel
theorem dX9_needed_21 : decode cX9_needed 21 = .ok (.invokevirtual 236, 3) := by decide +kernel
theorem dX9_needed_24 : decode cX9_needed 24 = .ok (.if_icmp .gt 39, 3) := by decide +kernel
theorem dX9_needed_27 : decode cX9_needed 27 = .ok (.iload_n 2, 1) := by decide +kernel
theorem dX9_needed_28 : decode cX9_needed 28 = .ok (.ifCond .lt 14, 3) := by decide +kernel
theorem dX9_needed_31 : decode cX9_needed 31 = .ok (.iload_n 3, 1) := by decide +kernel
theorem dX9_needed_32 : decode cX9_needed 32 = .ok (.invokestatic 189, 3) := by decide +kernel
theorem dX9_needed_35 : decode cX9_needed 35 = .ok (.iload_n 2, 1) := by decide +kernel
theorem dX9_needed_36 : decode cX9_needed 36 = .ok (.invokestatic 189, 3) := by decide +kernel
theorem dX9_needed_39 : decode cX9_needed 39 = .ok (.if_icmp .ge 16, 3) := by decide +kernel
theorem dX9_needed_42 : decode cX9_needed 42 = .ok (.aload_n 0, 1) := by decide +kernel
theorem dX9_needed_43 : decode cX9_needed 43 = .ok (.iload_n 3, 1) := by decide +kernel
theorem dX9_needed_44 : decode cX9_needed 44 = .ok (.invokevirtual 300, 3) := by decide +kernel
theorem dX9_needed_47 : decode cX9_needed 47 = .ok (.iload_n 1, 1) := by decide +kernel
theorem dX9_needed_48 : decode cX9_needed 48 = .ok (.if_icmp .lt 7, 3) := by decide +kernel
theorem dX9_needed_51 : decode cX9_needed 51 = .ok (.iload_n 3, 1) := by decide +kernel
theorem dX9_needed_52 : decode cX9_needed 52 = .ok (.goto 4, 3) := by decide +kernel
theorem dX9_needed_55 : decode cX9_needed 55 = .ok (.iload_n 2, 1) := by decide +kernel
theorem dX9_needed_56 : decode cX9_needed 56 = .ok (.istore_n 2, 1) := by decide +kernel
theorem dX9_needed_57 : decode cX9_needed 57 = .ok (.iinc 3 1, 3) := by decide +kernel
theorem dX9_needed_60 : decode cX9_needed 60 = .ok (.goto (-41), 3) := by decide +kernel
theorem dX9_needed_63 : decode cX9_needed 63 = .ok (.iload_n 2, 1) := by decide +kernel
theorem dX9_needed_64 : decode cX9_needed 64 = .ok (.ireturn, 1) := by decide +kernel
theorem dX9_fit_0 : decode cX9_fit 0 = .ok (.aload_n 0, 1) := by decide +kernel
theorem dX9_fit_1 : decode cX9_fit 1 = .ok (.iload_n 1, 1) := by decide +kernel
theorem dX9_fit_2 : decode cX9_fit 2 = .ok (.invokevirtual 206, 3) := by decide +kernel
theorem dX9_fit_5 : decode cX9_fit 5 = .ok (.ifCond .eq 11, 3) := by decide +kernel
theorem dX9_fit_8 : decode cX9_fit 8 = .ok (.aload_n 0, 1) := by decide +kernel
theorem dX9_fit_9 : decode cX9_fit 9 = .ok (.iload_n 2, 1) := by decide +kernel
theorem dX9_fit_10 : decode cX9_fit 10 = .ok (.invokevirtual 297, 3) := by decide +kernel
theorem dX9_fit_13 : decode cX9_fit 13 = .ok (.ifCond .ne 6, 3) := by decide +kernel
theorem dX9_fit_16 : decode cX9_fit 16 = .ok (.ldc 197, 2) := by decide +kernel
theorem dX9_fit_18 : decode cX9_fit 18 = .ok (.ireturn, 1) := by decide +kernel
theorem dX9_fit_19 : decode cX9_fit 19 = .ok (.aload_n 0, 1) := by decide +kernel
theorem dX9_fit_20 : decode cX9_fit 20 = .ok (.getfield 7, 3) := by decide +kernel
theorem dX9_fit_23 : decode cX9_fit 23 = .ok (.bipush 12, 2) := by decide +kernel
theorem dX9_fit_25 : decode cX9_fit 25 = .ok (.iload_n 1, 1) := by decide +kernel
theorem dX9_fit_26 : decode cX9_fit 26 = .ok (.iadd, 1) := by decide +kernel
theorem dX9_fit_27 : decode cX9_fit 27 = .ok (.iaload, 1) := by decide +kernel
theorem dX9_fit_28 : decode cX9_fit 28 = .ok (.istore_n 3, 1) := by decide +kernel
theorem dX9_fit_29 : decode cX9_fit 29 = .ok (.aload_n 0, 1) := by decide +kernel
theorem dX9_fit_30 : decode cX9_fit 30 = .ok (.getfield 7, 3) := by decide +kernel
theorem dX9_fit_33 : decode cX9_fit 33 = .ok (.bipush 12, 2) := by decide +kernel
theorem dX9_fit_35 : decode cX9_fit 35 = .ok (.iload_n 1, 1) := by decide +kernel
theorem dX9_fit_36 : decode cX9_fit 36 = .ok (.iadd, 1) := by decide +kernel
theorem dX9_fit_37 : decode cX9_fit 37 = .ok (.iload_n 2, 1) := by decide +kernel
theorem dX9_fit_38 : decode cX9_fit 38 = .ok (.iconst 1, 1) := by decide +kernel
theorem dX9_fit_39 : decode cX9_fit 39 = .ok (.iload_n 1, 1) := by decide +kernel
theorem dX9_fit_40 : decode cX9_fit 40 = .ok (.ishl, 1) := by decide +kernel
theorem dX9_fit_41 : decode cX9_fit 41 = .ok (.ior, 1) := by decide +kernel
theorem dX9_fit_42 : decode cX9_fit 42 = .ok (.iastore, 1) := by decide +kernel
theorem dX9_fit_43 : decode cX9_fit 43 = .ok (.iload_n 3, 1) := by decide +kernel
theorem dX9_fit_44 : decode cX9_fit 44 = .ok (.ireturn, 1) := by decide +kernel
theorem dX9_laddersOf_0 : decode cX9_laddersOf 0 = .ok (.iconst 0, 1) := by decide +kernel
theorem dX9_laddersOf_1 : decode cX9_laddersOf 1 = .ok (.istore_n 3, 1) := by decide +kernel
theorem dX9_laddersOf_2 : decode cX9_laddersOf 2 = .ok (.iload_n 3, 1) := by decide +kernel
theorem dX9_laddersOf_3 : decode cX9_laddersOf 3 = .ok (.aload_n 0, 1) := by decide +kernel
theorem dX9_laddersOf_4 : decode cX9_laddersOf 4 = .ok (.invokevirtual 236, 3) := by decide +kernel
theorem dX9_laddersOf_7 : decode cX9_laddersOf 7 = .ok (.if_icmp .gt 139, 3) := by decide +kernel
theorem dX9_laddersOf_10 : decode cX9_laddersOf 10 = .ok (.aload_n 0, 1) := by decide +kernel
theorem dX9_laddersOf_11 : decode cX9_laddersOf 11 = .ok (.getfield 87, 3) := by decide +kernel
theorem dX9_laddersOf_14 : decode cX9_laddersOf 14 = .ok (.iload_n 3, 1) := by decide +kernel
theorem dX9_laddersOf_15 : decode cX9_laddersOf 15 = .ok (.iload_n 3, 1) := by decide +kernel
theorem dX9_laddersOf_16 : decode cX9_laddersOf 16 = .ok (.ifCond .ne 7, 3) := by decide +kernel
theorem dX9_laddersOf_19 : decode cX9_laddersOf 19 = .ok (.iconst 1, 1) := by decide +kernel
theorem dX9_laddersOf_20 : decode cX9_laddersOf 20 = .ok (.goto 4, 3) := by decide +kernel
theorem dX9_laddersOf_23 : decode cX9_laddersOf 23 = .ok (.iconst 0, 1) := by decide +kernel
theorem dX9_laddersOf_24 : decode cX9_laddersOf 24 = .ok (.invokestatic 150, 3) := by decide +kernel
theorem dX9_laddersOf_27 : decode cX9_laddersOf 27 = .ok (.iastore, 1) := by decide +kernel
theorem dX9_laddersOf_28 : decode cX9_laddersOf 28 = .ok (.iload_n 3, 1) := by decide +kernel
theorem dX9_laddersOf_29 : decode cX9_laddersOf 29 = .ok (.invokestatic 189, 3) := by decide +kernel
theorem dX9_laddersOf_32 : decode cX9_laddersOf 32 = .ok (.iconst 1, 1) := by decide +kernel
theorem dX9_laddersOf_33 : decode cX9_laddersOf 33 = .ok (.isub, 1) := by decide +kernel
theorem dX9_laddersOf_34 : decode cX9_laddersOf 34 = .ok (.istore 4, 2) := by decide +kernel
theorem dX9_laddersOf_36 : decode cX9_laddersOf 36 = .ok (.iconst 0, 1) := by decide +kernel
theorem dX9_laddersOf_37 : decode cX9_laddersOf 37 = .ok (.istore 5, 2) := by decide +kernel
theorem dX9_laddersOf_39 : decode cX9_laddersOf 39 = .ok (.iload 5, 2) := by decide +kernel
theorem dX9_laddersOf_41 : decode cX9_laddersOf 41 = .ok (.aload_n 0, 1) := by decide +kernel
theorem dX9_laddersOf_42 : decode cX9_laddersOf 42 = .ok (.getfield 35, 3) := by decide +kernel
theorem dX9_laddersOf_45 : decode cX9_laddersOf 45 = .ok (.iconst 1, 1) := by decide +kernel
theorem dX9_laddersOf_46 : decode cX9_laddersOf 46 = .ok (.iaload, 1) := by decide +kernel
theorem dX9_laddersOf_47 : decode cX9_laddersOf 47 = .ok (.if_icmp .ge 93, 3) := by decide +kernel
theorem dX9_laddersOf_50 : decode cX9_laddersOf 50 = .ok (.iload_n 3, 1) := by decide +kernel
theorem dX9_laddersOf_51 : decode cX9_laddersOf 51 = .ok (.ifCond .le 89, 3) := by decide +kernel
theorem dX9_laddersOf_54 : decode cX9_laddersOf 54 = .ok (.iload_n 3, 1) := by decide +kernel
theorem dX9_laddersOf_55 : decode cX9_laddersOf 55 = .ok (.iload 5, 2) := by decide +kernel
theorem dX9_laddersOf_57 : decode cX9_laddersOf 57 = .ok (.invokestatic 146, 3) := by decide +kernel
theorem dX9_laddersOf_60 : decode cX9_laddersOf 60 = .ok (.ifCond .eq 40, 3) := by decide +kernel
theorem dX9_laddersOf_63 : decode cX9_laddersOf 63 = .ok (.iload_n 1, 1) := by decide +kernel
theorem dX9_laddersOf_64 : decode cX9_laddersOf 64 = .ok (.iload 5, 2) := by decide +kernel
theorem dX9_laddersOf_66 : decode cX9_laddersOf 66 = .ok (.invokestatic 146, 3) := by decide +kernel
theorem dX9_laddersOf_69 : decode cX9_laddersOf 69 = .ok (.ifCond .eq 31, 3) := by decide +kernel
theorem dX9_laddersOf_72 : decode cX9_laddersOf 72 = .ok (.iload 4, 2) := by decide +kernel
theorem dX9_laddersOf_74 : decode cX9_laddersOf 74 = .ok (.iload_n 2, 1) := by decide +kernel
theorem dX9_laddersOf_75 : decode cX9_laddersOf 75 = .ok (.if_icmp .ge 25, 3) := by decide +kernel
theorem dX9_laddersOf_78 : decode cX9_laddersOf 78 = .ok (.aload_n 0, 1) := by decide +kernel
theorem dX9_laddersOf_79 : decode cX9_laddersOf 79 = .ok (.getfield 7, 3) := by decide +kernel
theorem dX9_laddersOf_82 : decode cX9_laddersOf 82 = .ok (.bipush 12, 2) := by decide +kernel
theorem dX9_laddersOf_84 : decode cX9_laddersOf 84 = .ok (.iload 4, 2) := by decide +kernel
theorem dX9_laddersOf_86 : decode cX9_laddersOf 86 = .ok (.iadd, 1) := by decide +kernel
theorem dX9_laddersOf_87 : decode cX9_laddersOf 87 = .ok (.iaload, 1) := by decide +kernel
theorem dX9_laddersOf_88 : decode cX9_laddersOf 88 = .ok (.iload 5, 2) := by decide +kernel
theorem dX9_laddersOf_90 : decode cX9_laddersOf 90 = .ok (.invokestatic 146, 3) := by decide +kernel
theorem dX9_laddersOf_93 : decode cX9_laddersOf 93 = .ok (.ifCond .eq 7, 3) := by decide +kernel
theorem dX9_laddersOf_96 : decode cX9_laddersOf 96 = .ok (.iconst 1, 1) := by decide +kernel
theorem dX9_laddersOf_97 : decode cX9_laddersOf 97 = .ok (.goto 4, 3) := by decide +kernel
theorem dX9_laddersOf_100 : decode cX9_laddersOf 100 = .ok (.iconst 0, 1) := by decide +kernel
theorem dX9_laddersOf_101 : decode cX9_laddersOf 101 = .ok (.istore 6, 2) := by decide +kernel
theorem dX9_laddersOf_103 : decode cX9_laddersOf 103 = .ok (.aload_n 0, 1) := by decide +kernel
theorem dX9_laddersOf_104 : decode cX9_laddersOf 104 = .ok (.getfield 87, 3) := by decide +kernel
theorem dX9_laddersOf_107 : decode cX9_laddersOf 107 = .ok (.iload_n 3, 1) := by decide +kernel
theorem dX9_laddersOf_108 : decode cX9_laddersOf 108 = .ok (.dup2, 1) := by decide +kernel
theorem dX9_laddersOf_109 : decode cX9_laddersOf 109 = .ok (.iaload, 1) := by decide +kernel
theorem dX9_laddersOf_110 : decode cX9_laddersOf 110 = .ok (.iload 6, 2) := by decide +kernel
theorem dX9_laddersOf_112 : decode cX9_laddersOf 112 = .ok (.ifCond .eq 19, 3) := by decide +kernel
theorem dX9_laddersOf_115 : decode cX9_laddersOf 115 = .ok (.aload_n 0, 1) := by decide +kernel
theorem dX9_laddersOf_116 : decode cX9_laddersOf 116 = .ok (.getfield 87, 3) := by decide +kernel
theorem dX9_laddersOf_119 : decode cX9_laddersOf 119 = .ok (.iload_n 3, 1) := by decide +kernel
theorem dX9_laddersOf_120 : decode cX9_laddersOf 120 = .ok (.iconst 1, 1) := by decide +kernel
theorem dX9_laddersOf_121 : decode cX9_laddersOf 121 = .ok (.iload 5, 2) := by decide +kernel
theorem dX9_laddersOf_123 : decode cX9_laddersOf 123 = .ok (.ishl, 1) := by decide +kernel
theorem dX9_laddersOf_124 : decode cX9_laddersOf 124 = .ok (.iconst (-1), 1) := by decide +kernel
theorem dX9_laddersOf_125 : decode cX9_laddersOf 125 = .ok (.ixor, 1) := by decide +kernel
theorem dX9_laddersOf_126 : decode cX9_laddersOf 126 = .ok (.iand, 1) := by decide +kernel
theorem dX9_laddersOf_127 : decode cX9_laddersOf 127 = .ok (.iaload, 1) := by decide +kernel
theorem dX9_laddersOf_128 : decode cX9_laddersOf 128 = .ok (.goto 4, 3) := by decide +kernel
theorem dX9_laddersOf_131 : decode cX9_laddersOf 131 = .ok (.iconst 0, 1) := by decide +kernel
theorem dX9_laddersOf_132 : decode cX9_laddersOf 132 = .ok (.iadd, 1) := by decide +kernel
theorem dX9_laddersOf_133 : decode cX9_laddersOf 133 = .ok (.iastore, 1) := by decide +kernel
theorem dX9_laddersOf_134 : decode cX9_laddersOf 134 = .ok (.iinc 5 1, 3) := by decide +kernel
theorem dX9_laddersOf_137 : decode cX9_laddersOf 137 = .ok (.goto (-98), 3) := by decide +kernel
theorem dX9_laddersOf_140 : decode cX9_laddersOf 140 = .ok (.iinc 3 1, 3) := by decide +kernel
theorem dX9_laddersOf_143 : decode cX9_laddersOf 143 = .ok (.goto (-141), 3) := by decide +kernel
theorem dX9_laddersOf_146 : decode cX9_laddersOf 146 = .ok (.iconst 0, 1) := by decide +kernel
theorem dX9_laddersOf_147 : decode cX9_laddersOf 147 = .ok (.istore_n 3, 1) := by decide +kernel
theorem dX9_laddersOf_148 : decode cX9_laddersOf 148 = .ok (.iconst 0, 1) := by decide +kernel
theorem dX9_laddersOf_149 : decode cX9_laddersOf 149 = .ok (.istore 4, 2) := by decide +kernel
theorem dX9_laddersOf_151 : decode cX9_laddersOf 151 = .ok (.iload 4, 2) := by decide +kernel
theorem dX9_laddersOf_153 : decode cX9_laddersOf 153 = .ok (.aload_n 0, 1) := by decide +kernel
theorem dX9_laddersOf_154 : decode cX9_laddersOf 154 = .ok (.invokevirtual 236, 3) := by decide +kernel
theorem dX9_laddersOf_157 : decode cX9_laddersOf 157 = .ok (.if_icmp .gt 32, 3) := by decide +kernel
theorem dX9_laddersOf_160 : decode cX9_laddersOf 160 = .ok (.iload_n 3, 1) := by decide +kernel
theorem dX9_laddersOf_161 : decode cX9_laddersOf 161 = .ok (.iload 4, 2) := by decide +kernel
theorem dX9_laddersOf_163 : decode cX9_laddersOf 163 = .ok (.invokestatic 189, 3) := by decide +kernel
theorem dX9_laddersOf_166 : decode cX9_laddersOf 166 = .ok (.iload_n 2, 1) := by decide +kernel
theorem dX9_laddersOf_167 : decode cX9_laddersOf 167 = .ok (.if_icmp .ne 13, 3) := by decide +kernel
theorem dX9_laddersOf_170 : decode cX9_laddersOf 170 = .ok (.aload_n 0, 1) := by decide +kernel
theorem dX9_laddersOf_171 : decode cX9_laddersOf 171 = .ok (.getfield 87, 3) := by decide +kernel
theorem dX9_laddersOf_174 : decode cX9_laddersOf 174 = .ok (.iload 4, 2) := by decide +kernel
theorem dX9_laddersOf_176 : decode cX9_laddersOf 176 = .ok (.iaload, 1) := by decide +kernel
theorem dX9_laddersOf_177 : decode cX9_laddersOf 177 = .ok (.goto 4, 3) := by decide +kernel
theorem dX9_laddersOf_180 : decode cX9_laddersOf 180 = .ok (.iconst 0, 1) := by decide +kernel
theorem dX9_laddersOf_181 : decode cX9_laddersOf 181 = .ok (.iadd, 1) := by decide +kernel
theorem dX9_laddersOf_182 : decode cX9_laddersOf 182 = .ok (.istore_n 3, 1) := by decide +kernel
theorem dX9_laddersOf_183 : decode cX9_laddersOf 183 = .ok (.iinc 4 1, 3) := by decide +kernel
theorem dX9_laddersOf_186 : decode cX9_laddersOf 186 = .ok (.goto (-35), 3) := by decide +kernel
theorem dX9_laddersOf_189 : decode cX9_laddersOf 189 = .ok (.iload_n 3, 1) := by decide +kernel
theorem dX9_laddersOf_190 : decode cX9_laddersOf 190 = .ok (.ireturn, 1) := by decide +kernel
theorem dX9_ladders_0 : decode cX9_ladders 0 = .ok (.aload_n 0, 1) := by decide +kernel
theorem dX9_ladders_1 : decode cX9_ladders 1 = .ok (.iload_n 1, 1) := by decide +kernel
theorem dX9_ladders_2 : decode cX9_ladders 2 = .ok (.invokevirtual 297, 3) := by decide +kernel
theorem dX9_ladders_5 : decode cX9_ladders 5 = .ok (.ifCond .ne 6, 3) := by decide +kernel
theorem dX9_ladders_8 : decode cX9_ladders 8 = .ok (.ldc 197, 2) := by decide +kernel
theorem dX9_ladders_10 : decode cX9_ladders 10 = .ok (.ireturn, 1) := by decide +kernel
theorem dX9_ladders_11 : decode cX9_ladders 11 = .ok (.iload_n 2, 1) := by decide +kernel
theorem dX9_ladders_12 : decode cX9_ladders 12 = .ok (.i2l, 1) := by decide +kernel
theorem dX9_ladders_13 : decode cX9_ladders 13 = .ok (.lconst 0, 1) := by decide +kernel
theorem dX9_ladders_14 : decode cX9_ladders 14 = .ok (.aload_n 0, 1) := by decide +kernel
theorem dX9_ladders_15 : decode cX9_ladders 15 = .ok (.getfield 35, 3) := by decide +kernel
theorem dX9_ladders_18 : decode cX9_ladders 18 = .ok (.iconst 1, 1) := by decide +kernel
theorem dX9_ladders_19 : decode cX9_ladders 19 = .ok (.iaload, 1) := by decide +kernel
theorem dX9_ladders_20 : decode cX9_ladders 20 = .ok (.i2l, 1) := by decide +kernel
theorem dX9_ladders_21 : decode cX9_ladders 21 = .ok (.invokestatic 95, 3) := by decide +kernel
theorem dX9_ladders_24 : decode cX9_ladders 24 = .ok (.ifCond .eq 12, 3) := by decide +kernel
theorem dX9_ladders_27 : decode cX9_ladders 27 = .ok (.aload_n 0, 1) := by decide +kernel
theorem dX9_ladders_28 : decode cX9_ladders 28 = .ok (.iload_n 1, 1) := by decide +kernel
theorem dX9_ladders_29 : decode cX9_ladders 29 = .ok (.iload_n 2, 1) := by decide +kernel
theorem dX9_ladders_30 : decode cX9_ladders 30 = .ok (.invokevirtual 305, 3) := by decide +kernel
theorem dX9_ladders_33 : decode cX9_ladders 33 = .ok (.goto 5, 3) := by decide +kernel
theorem dX9_ladders_36 : decode cX9_ladders 36 = .ok (.ldc 99, 2) := by decide +kernel
theorem dX9_ladders_38 : decode cX9_ladders 38 = .ok (.ireturn, 1) := by decide +kernel
theorem dX9_longest_0 : decode cX9_longest 0 = .ok (.aload_n 0, 1) := by decide +kernel
theorem dX9_longest_1 : decode cX9_longest 1 = .ok (.iload_n 1, 1) := by decide +kernel
theorem dX9_longest_2 : decode cX9_longest 2 = .ok (.invokevirtual 297, 3) := by decide +kernel
theorem dX9_longest_5 : decode cX9_longest 5 = .ok (.ifCond .ne 6, 3) := by decide +kernel
theorem dX9_longest_8 : decode cX9_longest 8 = .ok (.ldc 197, 2) := by decide +kernel
theorem dX9_longest_10 : decode cX9_longest 10 = .ok (.ireturn, 1) := by decide +kernel
theorem dX9_longest_11 : decode cX9_longest 11 = .ok (.aload_n 0, 1) := by decide +kernel
theorem dX9_longest_12 : decode cX9_longest 12 = .ok (.getfield 35, 3) := by decide +kernel
theorem dX9_longest_15 : decode cX9_longest 15 = .ok (.iconst 1, 1) := by decide +kernel
theorem dX9_longest_16 : decode cX9_longest 16 = .ok (.iaload, 1) := by decide +kernel
theorem dX9_longest_17 : decode cX9_longest 17 = .ok (.istore_n 2, 1) := by decide +kernel
theorem dX9_longest_18 : decode cX9_longest 18 = .ok (.aload_n 0, 1) := by decide +kernel
theorem dX9_longest_19 : decode cX9_longest 19 = .ok (.iload_n 1, 1) := by decide +kernel
theorem dX9_longest_20 : decode cX9_longest 20 = .ok (.iload_n 2, 1) := by decide +kernel
theorem dX9_longest_21 : decode cX9_longest 21 = .ok (.invokevirtual 305, 3) := by decide +kernel
theorem dX9_longest_24 : decode cX9_longest 24 = .ok (.ifCond .ne 9, 3) := by decide +kernel
theorem dX9_longest_27 : decode cX9_longest 27 = .ok (.iinc 2 (-1), 3) := by decide +kernel
theorem dX9_longest_30 : decode cX9_longest 30 = .ok (.goto (-12), 3) := by decide +kernel
theorem dX9_longest_33 : decode cX9_longest 33 = .ok (.iload_n 2, 1) := by decide +kernel
theorem dX9_longest_34 : decode cX9_longest 34 = .ok (.ireturn, 1) := by decide +kernel
theorem dX9_cost_0 : decode cX9_cost 0 = .ok (.aload_n 0, 1) := by decide +kernel
theorem dX9_cost_1 : decode cX9_cost 1 = .ok (.iload_n 1, 1) := by decide +kernel
theorem dX9_cost_2 : decode cX9_cost 2 = .ok (.invokevirtual 206, 3) := by decide +kernel
theorem dX9_cost_5 : decode cX9_cost 5 = .ok (.ifCond .ne 6, 3) := by decide +kernel
theorem dX9_cost_8 : decode cX9_cost 8 = .ok (.ldc 197, 2) := by decide +kernel
theorem dX9_cost_10 : decode cX9_cost 10 = .ok (.ireturn, 1) := by decide +kernel
theorem dX9_cost_11 : decode cX9_cost 11 = .ok (.iload_n 2, 1) := by decide +kernel
theorem dX9_cost_12 : decode cX9_cost 12 = .ok (.i2l, 1) := by decide +kernel
theorem dX9_cost_13 : decode cX9_cost 13 = .ok (.lconst 0, 1) := by decide +kernel
theorem dX9_cost_14 : decode cX9_cost 14 = .ok (.ldc2_w 308, 3) := by decide +kernel
theorem dX9_cost_17 : decode cX9_cost 17 = .ok (.invokestatic 95, 3) := by decide +kernel
theorem dX9_cost_20 : decode cX9_cost 20 = .ok (.ifCond .ne 6, 3) := by decide +kernel
theorem dX9_cost_23 : decode cX9_cost 23 = .ok (.ldc 99, 2) := by decide +kernel
theorem dX9_cost_25 : decode cX9_cost 25 = .ok (.ireturn, 1) := by decide +kernel
theorem dX9_cost_26 : decode cX9_cost 26 = .ok (.aload_n 0, 1) := by decide +kernel
theorem dX9_cost_27 : decode cX9_cost 27 = .ok (.getfield 44, 3) := by decide +kernel
theorem dX9_cost_30 : decode cX9_cost 30 = .ok (.iload_n 1, 1) := by decide +kernel
theorem dX9_cost_31 : decode cX9_cost 31 = .ok (.iaload, 1) := by decide +kernel
theorem dX9_cost_32 : decode cX9_cost 32 = .ok (.istore_n 3, 1) := by decide +kernel
theorem dX9_cost_33 : decode cX9_cost 33 = .ok (.aload_n 0, 1) := by decide +kernel
theorem dX9_cost_34 : decode cX9_cost 34 = .ok (.getfield 44, 3) := by decide +kernel
theorem dX9_cost_37 : decode cX9_cost 37 = .ok (.iload_n 1, 1) := by decide +kernel
theorem dX9_cost_38 : decode cX9_cost 38 = .ok (.iload_n 2, 1) := by decide +kernel
theorem dX9_cost_39 : decode cX9_cost 39 = .ok (.iastore, 1) := by decide +kernel
theorem dX9_cost_40 : decode cX9_cost 40 = .ok (.iload_n 3, 1) := by decide +kernel
theorem dX9_cost_41 : decode cX9_cost 41 = .ok (.ireturn, 1) := by decide +kernel
theorem dX9_store_0 : decode cX9_store 0 = .ok (.aload_n 0, 1) := by decide +kernel
theorem dX9_store_1 : decode cX9_store 1 = .ok (.iload_n 1, 1) := by decide +kernel
theorem dX9_store_2 : decode cX9_store 2 = .ok (.invokevirtual 193, 3) := by decide +kernel
theorem dX9_store_5 : decode cX9_store 5 = .ok (.ifCond .ne 6, 3) := by decide +kernel
theorem dX9_store_8 : decode cX9_store 8 = .ok (.ldc 197, 2) := by decide +kernel
theorem dX9_store_10 : decode cX9_store 10 = .ok (.ireturn, 1) := by decide +kernel
theorem dX9_store_11 : decode cX9_store 11 = .ok (.aload_n 0, 1) := by decide +kernel
theorem dX9_store_12 : decode cX9_store 12 = .ok (.getfield 176, 3) := by decide +kernel
theorem dX9_store_15 : decode cX9_store 15 = .ok (.istore_n 2, 1) := by decide +kernel
theorem dX9_store_16 : decode cX9_store 16 = .ok (.aload_n 0, 1) := by decide +kernel
theorem dX9_store_17 : decode cX9_store 17 = .ok (.iload_n 1, 1) := by decide +kernel
theorem dX9_store_18 : decode cX9_store 18 = .ok (.putfield 176, 3) := by decide +kernel
theorem dX9_store_21 : decode cX9_store 21 = .ok (.iload_n 2, 1) := by decide +kernel
theorem dX9_store_22 : decode cX9_store 22 = .ok (.ireturn, 1) := by decide +kernel
theorem dX9_spares_0 : decode cX9_spares 0 = .ok (.aload_n 0, 1) := by decide +kernel
theorem dX9_spares_1 : decode cX9_spares 1 = .ok (.iload_n 1, 1) := by decide +kernel
theorem dX9_spares_2 : decode cX9_spares 2 = .ok (.invokevirtual 193, 3) := by decide +kernel
theorem dX9_spares_5 : decode cX9_spares 5 = .ok (.ifCond .eq 11, 3) := by decide +kernel
theorem dX9_spares_8 : decode cX9_spares 8 = .ok (.aload_n 0, 1) := by decide +kernel
theorem dX9_spares_9 : decode cX9_spares 9 = .ok (.iload_n 2, 1) := by decide +kernel
theorem dX9_spares_10 : decode cX9_spares 10 = .ok (.invokevirtual 193, 3) := by decide +kernel
theorem dX9_spares_13 : decode cX9_spares 13 = .ok (.ifCond .ne 6, 3) := by decide +kernel
theorem dX9_spares_16 : decode cX9_spares 16 = .ok (.ldc 197, 2) := by decide +kernel
theorem dX9_spares_18 : decode cX9_spares 18 = .ok (.ireturn, 1) := by decide +kernel
theorem dX9_spares_19 : decode cX9_spares 19 = .ok (.iload_n 3, 1) := by decide +kernel
theorem dX9_spares_20 : decode cX9_spares 20 = .ok (.i2l, 1) := by decide +kernel
theorem dX9_spares_21 : decode cX9_spares 21 = .ok (.lconst 0, 1) := by decide +kernel
theorem dX9_spares_22 : decode cX9_spares 22 = .ok (.ldc2_w 287, 3) := by decide +kernel
theorem dX9_spares_25 : decode cX9_spares 25 = .ok (.invokestatic 95, 3) := by decide +kernel
theorem dX9_spares_28 : decode cX9_spares 28 = .ok (.ifCond .eq 14, 3) := by decide +kernel
theorem dX9_spares_31 : decode cX9_spares 31 = .ok (.iload 4, 2) := by decide +kernel
theorem dX9_spares_33 : decode cX9_spares 33 = .ok (.i2l, 1) := by decide +kernel
theorem dX9_spares_34 : decode cX9_spares 34 = .ok (.lconst 0, 1) := by decide +kernel
theorem dX9_spares_35 : decode cX9_spares 35 = .ok (.lconst 1, 1) := by decide +kernel
theorem dX9_spares_36 : decode cX9_spares 36 = .ok (.invokestatic 95, 3) := by decide +kernel
theorem dX9_spares_39 : decode cX9_spares 39 = .ok (.ifCond .ne 6, 3) := by decide +kernel
theorem dX9_spares_42 : decode cX9_spares 42 = .ok (.ldc 99, 2) := by decide +kernel
theorem dX9_spares_44 : decode cX9_spares 44 = .ok (.ireturn, 1) := by decide +kernel
theorem dX9_spares_45 : decode cX9_spares 45 = .ok (.aload_n 0, 1) := by decide +kernel
theorem dX9_spares_46 : decode cX9_spares 46 = .ok (.iload_n 1, 1) := by decide +kernel
theorem dX9_spares_47 : decode cX9_spares 47 = .ok (.iload_n 2, 1) := by decide +kernel
theorem dX9_spares_48 : decode cX9_spares 48 = .ok (.aload_n 0, 1) := by decide +kernel
theorem dX9_spares_49 : decode cX9_spares 49 = .ok (.getfield 7, 3) := by decide +kernel
theorem dX9_spares_52 : decode cX9_spares 52 = .ok (.bipush 24, 2) := by decide +kernel
theorem dX9_spares_54 : decode cX9_spares 54 = .ok (.iaload, 1) := by decide +kernel
theorem dX9_spares_55 : decode cX9_spares 55 = .ok (.invokevirtual 229, 3) := by decide +kernel
theorem dX9_spares_58 : decode cX9_spares 58 = .ok (.aload_n 0, 1) := by decide +kernel
theorem dX9_spares_59 : decode cX9_spares 59 = .ok (.getfield 60, 3) := by decide +kernel
theorem dX9_spares_62 : decode cX9_spares 62 = .ok (.aload_n 0, 1) := by decide +kernel
theorem dX9_spares_63 : decode cX9_spares 63 = .ok (.getfield 176, 3) := by decide +kernel
theorem dX9_spares_66 : decode cX9_spares 66 = .ok (.iaload, 1) := by decide +kernel
theorem dX9_spares_67 : decode cX9_spares 67 = .ok (.istore 5, 2) := by decide +kernel
theorem dX9_spares_69 : decode cX9_spares 69 = .ok (.iconst (-1), 1) := by decide +kernel
theorem dX9_spares_70 : decode cX9_spares 70 = .ok (.istore 6, 2) := by decide +kernel
theorem dX9_spares_72 : decode cX9_spares 72 = .ok (.iconst 0, 1) := by decide +kernel
theorem dX9_spares_73 : decode cX9_spares 73 = .ok (.istore 7, 2) := by decide +kernel
theorem dX9_spares_75 : decode cX9_spares 75 = .ok (.iconst 0, 1) := by decide +kernel
theorem dX9_spares_76 : decode cX9_spares 76 = .ok (.istore 8, 2) := by decide +kernel
theorem dX9_spares_78 : decode cX9_spares 78 = .ok (.iconst 0, 1) := by decide +kernel
theorem dX9_spares_79 : decode cX9_spares 79 = .ok (.istore 9, 2) := by decide +kernel
theorem dX9_spares_81 : decode cX9_spares 81 = .ok (.iload 9, 2) := by decide +kernel
theorem dX9_spares_83 : decode cX9_spares 83 = .ok (.aload_n 0, 1) := by decide +kernel
theorem dX9_spares_84 : decode cX9_spares 84 = .ok (.invokevirtual 236, 3) := by decide +kernel
theorem dX9_spares_87 : decode cX9_spares 87 = .ok (.if_icmp .gt 161, 3) := by decide +kernel
theorem dX9_spares_90 : decode cX9_spares 90 = .ok (.aload_n 0, 1) := by decide +kernel
theorem dX9_spares_91 : decode cX9_spares 91 = .ok (.invokevirtual 233, 3) := by decide +kernel
theorem dX9_spares_94 : decode cX9_spares 94 = .ok (.iconst 0, 1) := by decide +kernel
theorem dX9_spares_95 : decode cX9_spares 95 = .ok (.istore 10, 2) := by decide +kernel
theorem dX9_spares_97 : decode cX9_spares 97 = .ok (.iconst 0, 1) := by decide +kernel
theorem dX9_spares_98 : decode cX9_spares 98 = .ok (.istore 11, 2) := by decide +kernel
theorem dX9_spares_100 : decode cX9_spares 100 = .ok (.iload 11, 2) := by decide +kernel
theorem dX9_spares_102 : decode cX9_spares 102 = .ok (.aload_n 0, 1) := by decide +kernel
theorem dX9_spares_103 : decode cX9_spares 103 = .ok (.getfield 35, 3) := by decide +kernel
theorem dX9_spares_106 : decode cX9_spares 106 = .ok (.iconst 1, 1) := by decide +kernel
theorem dX9_spares_107 : decode cX9_spares 107 = .ok (.iaload, 1) := by decide +kernel
theorem dX9_spares_108 : decode cX9_spares 108 = .ok (.if_icmp .ge 77, 3) := by decide +kernel
theorem dX9_spares_111 : decode cX9_spares 111 = .ok (.iload 9, 2) := by decide +kernel
theorem dX9_spares_113 : decode cX9_spares 113 = .ok (.iload 11, 2) := by decide +kernel
theorem dX9_spares_115 : decode cX9_spares 115 = .ok (.invokestatic 146, 3) := by decide +kernel
theorem dX9_spares_118 : decode cX9_spares 118 = .ok (.ifCond .eq 61, 3) := by decide +kernel
theorem dX9_spares_121 : decode cX9_spares 121 = .ok (.iload 10, 2) := by decide +kernel
theorem dX9_spares_123 : decode cX9_spares 123 = .ok (.aload_n 0, 1) := by decide +kernel
theorem dX9_spares_124 : decode cX9_spares 124 = .ok (.getfield 44, 3) := by decide +kernel
theorem dX9_spares_127 : decode cX9_spares 127 = .ok (.iload 11, 2) := by decide +kernel
theorem dX9_spares_129 : decode cX9_spares 129 = .ok (.iaload, 1) := by decide +kernel
theorem dX9_spares_130 : decode cX9_spares 130 = .ok (.iadd, 1) := by decide +kernel
theorem dX9_spares_131 : decode cX9_spares 131 = .ok (.istore 10, 2) := by decide +kernel
theorem dX9_spares_133 : decode cX9_spares 133 = .ok (.aload_n 0, 1) := by decide +kernel
theorem dX9_spares_134 : decode cX9_spares 134 = .ok (.getfield 66, 3) := by decide +kernel
theorem dX9_spares_137 : decode cX9_spares 137 = .ok (.iload 11, 2) := by decide +kernel
theorem dX9_spares_139 : decode cX9_spares 139 = .ok (.iload 5, 2) := by decide +kernel
theorem dX9_spares_141 : decode cX9_spares 141 = .ok (.ifCond .lt 30, 3) := by decide +kernel
theorem dX9_spares_144 : decode cX9_spares 144 = .ok (.aload_n 0, 1) := by decide +kernel
theorem dX9_spares_145 : decode cX9_spares 145 = .ok (.getfield 66, 3) := by decide +kernel
theorem dX9_spares_148 : decode cX9_spares 148 = .ok (.iload 11, 2) := by decide +kernel
theorem dX9_spares_150 : decode cX9_spares 150 = .ok (.iaload, 1) := by decide +kernel
theorem dX9_spares_151 : decode cX9_spares 151 = .ok (.ifCond .lt 15, 3) := by decide +kernel
theorem dX9_spares_154 : decode cX9_spares 154 = .ok (.iload 5, 2) := by decide +kernel
theorem dX9_spares_156 : decode cX9_spares 156 = .ok (.aload_n 0, 1) := by decide +kernel
theorem dX9_spares_157 : decode cX9_spares 157 = .ok (.getfield 66, 3) := by decide +kernel
theorem dX9_spares_160 : decode cX9_spares 160 = .ok (.iload 11, 2) := by decide +kernel
theorem dX9_spares_162 : decode cX9_spares 162 = .ok (.iaload, 1) := by decide +kernel
theorem dX9_spares_163 : decode cX9_spares 163 = .ok (.if_icmp .ge 8, 3) := by decide +kernel
theorem dX9_spares_166 : decode cX9_spares 166 = .ok (.iload 5, 2) := by decide +kernel
theorem dX9_spares_168 : decode cX9_spares 168 = .ok (.goto 10, 3) := by decide +kernel
theorem dX9_spares_171 : decode cX9_spares 171 = .ok (.aload_n 0, 1) := by decide +kernel
theorem dX9_spares_172 : decode cX9_spares 172 = .ok (.getfield 66, 3) := by decide +kernel
theorem dX9_spares_175 : decode cX9_spares 175 = .ok (.iload 11, 2) := by decide +kernel
theorem dX9_spares_177 : decode cX9_spares 177 = .ok (.iaload, 1) := by decide +kernel
theorem dX9_spares_178 : decode cX9_spares 178 = .ok (.iastore, 1) := by decide +kernel
theorem dX9_spares_179 : decode cX9_spares 179 = .ok (.iinc 11 1, 3) := by decide +kernel
theorem dX9_spares_182 : decode cX9_spares 182 = .ok (.goto (-82), 3) := by decide +kernel
theorem dX9_spares_185 : decode cX9_spares 185 = .ok (.iload 10, 2) := by decide +kernel
theorem dX9_spares_187 : decode cX9_spares 187 = .ok (.iload_n 3, 1) := by decide +kernel
theorem dX9_spares_188 : decode cX9_spares 188 = .ok (.if_icmp .gt 54, 3) := by decide +kernel
theorem dX9_spares_191 : decode cX9_spares 191 = .ok (.aload_n 0, 1) := by decide +kernel
theorem dX9_spares_192 : decode cX9_spares 192 = .ok (.aload_n 0, 1) := by decide +kernel
theorem dX9_spares_193 : decode cX9_spares 193 = .ok (.invokevirtual 236, 3) := by decide +kernel
theorem dX9_spares_196 : decode cX9_spares 196 = .ok (.invokevirtual 239, 3) := by decide +kernel
theorem dX9_spares_199 : decode cX9_spares 199 = .ok (.invokestatic 256, 3) := by decide +kernel
theorem dX9_spares_202 : decode cX9_spares 202 = .ok (.istore 11, 2) := by decide +kernel
theorem dX9_spares_204 : decode cX9_spares 204 = .ok (.iload 6, 2) := by decide +kernel
theorem dX9_spares_206 : decode cX9_spares 206 = .ok (.ifCond .lt 24, 3) := by decide +kernel
theorem dX9_spares_209 : decode cX9_spares 209 = .ok (.iload 11, 2) := by decide +kernel
theorem dX9_spares_211 : decode cX9_spares 211 = .ok (.iload 7, 2) := by decide +kernel
theorem dX9_spares_213 : decode cX9_spares 213 = .ok (.if_icmp .lt 17, 3) := by decide +kernel
theorem dX9_spares_216 : decode cX9_spares 216 = .ok (.iload 11, 2) := by decide +kernel
theorem dX9_spares_218 : decode cX9_spares 218 = .ok (.iload 7, 2) := by decide +kernel
theorem dX9_spares_220 : decode cX9_spares 220 = .ok (.if_icmp .ne 22, 3) := by decide +kernel
theorem dX9_spares_223 : decode cX9_spares 223 = .ok (.iload 10, 2) := by decide +kernel
theorem dX9_spares_225 : decode cX9_spares 225 = .ok (.iload 8, 2) := by decide +kernel
theorem dX9_spares_227 : decode cX9_spares 227 = .ok (.if_icmp .ge 15, 3) := by decide +kernel
theorem dX9_spares_230 : decode cX9_spares 230 = .ok (.iload 9, 2) := by decide +kernel
theorem dX9_spares_232 : decode cX9_spares 232 = .ok (.istore 6, 2) := by decide +kernel
theorem dX9_spares_234 : decode cX9_spares 234 = .ok (.iload 11, 2) := by decide +kernel
theorem dX9_spares_236 : decode cX9_spares 236 = .ok (.istore 7, 2) := by decide +kernel
theorem dX9_spares_238 : decode cX9_spares 238 = .ok (.iload 10, 2) := by decide +kernel
theorem dX9_spares_240 : decode cX9_spares 240 = .ok (.istore 8, 2) := by decide +kernel
theorem dX9_spares_242 : decode cX9_spares 242 = .ok (.iinc 9 1, 3) := by decide +kernel
theorem dX9_spares_245 : decode cX9_spares 245 = .ok (.goto (-164), 3) := by decide +kernel
theorem dX9_spares_248 : decode cX9_spares 248 = .ok (.iload 4, 2) := by decide +kernel
theorem dX9_spares_250 : decode cX9_spares 250 = .ok (.ifCond .ne 8, 3) := by decide +kernel
theorem dX9_spares_253 : decode cX9_spares 253 = .ok (.iload 6, 2) := by decide +kernel
theorem dX9_spares_255 : decode cX9_spares 255 = .ok (.goto 5, 3) := by decide +kernel
theorem dX9_spares_258 : decode cX9_spares 258 = .ok (.iload 7, 2) := by decide +kernel
theorem dX9_spares_260 : decode cX9_spares 260 = .ok (.ireturn, 1) := by decide +kernel
theorem dX9_endAt_0 : decode cX9_endAt 0 = .ok (.aload_n 0, 1) := by decide +kernel
theorem dX9_endAt_1 : decode cX9_endAt 1 = .ok (.iload_n 1, 1) := by decide +kernel
theorem dX9_endAt_2 : decode cX9_endAt 2 = .ok (.iload_n 2, 1) := by decide +kernel
theorem dX9_endAt_3 : decode cX9_endAt 3 = .ok (.aload_n 0, 1) := by decide +kernel
theorem dX9_endAt_4 : decode cX9_endAt 4 = .ok (.getfield 7, 3) := by decide +kernel
theorem dX9_endAt_7 : decode cX9_endAt 7 = .ok (.bipush 24, 2) := by decide +kernel
theorem dX9_endAt_9 : decode cX9_endAt 9 = .ok (.iaload, 1) := by decide +kernel
theorem dX9_endAt_10 : decode cX9_endAt 10 = .ok (.invokevirtual 229, 3) := by decide +kernel
theorem dX9_endAt_13 : decode cX9_endAt 13 = .ok (.iconst 0, 1) := by decide +kernel
theorem dX9_endAt_14 : decode cX9_endAt 14 = .ok (.istore 4, 2) := by decide +kernel
theorem dX9_endAt_16 : decode cX9_endAt 16 = .ok (.iload 4, 2) := by decide +kernel
theorem dX9_endAt_18 : decode cX9_endAt 18 = .ok (.aload_n 0, 1) := by decide +kernel
theorem dX9_endAt_19 : decode cX9_endAt 19 = .ok (.getfield 35, 3) := by decide +kernel
theorem dX9_endAt_22 : decode cX9_endAt 22 = .ok (.iconst 1, 1) := by decide +kernel
theorem dX9_endAt_23 : decode cX9_endAt 23 = .ok (.iaload, 1) := by decide +kernel
theorem dX9_endAt_24 : decode cX9_endAt 24 = .ok (.if_icmp .ge 31, 3) := by decide +kernel
theorem dX9_endAt_27 : decode cX9_endAt 27 = .ok (.aload_n 0, 1) := by decide +kernel
theorem dX9_endAt_28 : decode cX9_endAt 28 = .ok (.getfield 66, 3) := by decide +kernel
theorem dX9_endAt_31 : decode cX9_endAt 31 = .ok (.iload 4, 2) := by decide +kernel
theorem dX9_endAt_33 : decode cX9_endAt 33 = .ok (.aload_n 0, 1) := by decide +kernel
theorem dX9_endAt_34 : decode cX9_endAt 34 = .ok (.getfield 60, 3) := by decide +kernel
theorem dX9_endAt_37 : decode cX9_endAt 37 = .ok (.aload_n 0, 1) := by decide +kernel
theorem dX9_endAt_38 : decode cX9_endAt 38 = .ok (.getfield 7, 3) := by decide +kernel
theorem dX9_endAt_41 : decode cX9_endAt 41 = .ok (.iload 4, 2) := by decide +kernel
theorem dX9_endAt_43 : decode cX9_endAt 43 = .ok (.iaload, 1) := by decide +kernel
theorem dX9_endAt_44 : decode cX9_endAt 44 = .ok (.iaload, 1) := by decide +kernel
theorem dX9_endAt_45 : decode cX9_endAt 45 = .ok (.invokestatic 256, 3) := by decide +kernel
theorem dX9_endAt_48 : decode cX9_endAt 48 = .ok (.iastore, 1) := by decide +kernel
theorem dX9_endAt_49 : decode cX9_endAt 49 = .ok (.iinc 4 1, 3) := by decide +kernel
theorem dX9_endAt_52 : decode cX9_endAt 52 = .ok (.goto (-36), 3) := by decide +kernel
theorem dX9_endAt_55 : decode cX9_endAt 55 = .ok (.aload_n 0, 1) := by decide +kernel
theorem dX9_endAt_56 : decode cX9_endAt 56 = .ok (.aload_n 0, 1) := by decide +kernel
theorem dX9_endAt_57 : decode cX9_endAt 57 = .ok (.iload_n 3, 1) := by decide +kernel
theorem dX9_endAt_58 : decode cX9_endAt 58 = .ok (.invokevirtual 294, 3) := by decide +kernel
theorem dX9_endAt_61 : decode cX9_endAt 61 = .ok (.invokevirtual 239, 3) := by decide +kernel
theorem dX9_endAt_64 : decode cX9_endAt 64 = .ok (.ireturn, 1) := by decide +kernel
theorem dX9_two_0 : decode cX9_two 0 = .ok (.aload_n 0, 1) := by decide +kernel
theorem dX9_two_1 : decode cX9_two 1 = .ok (.iload_n 1, 1) := by decide +kernel
theorem dX9_two_2 : decode cX9_two 2 = .ok (.invokevirtual 193, 3) := by decide +kernel
theorem dX9_two_5 : decode cX9_two 5 = .ok (.ifCond .eq 19, 3) := by decide +kernel
theorem dX9_two_8 : decode cX9_two 8 = .ok (.aload_n 0, 1) := by decide +kernel
theorem dX9_two_9 : decode cX9_two 9 = .ok (.iload_n 2, 1) := by decide +kernel
theorem dX9_two_10 : decode cX9_two 10 = .ok (.invokevirtual 193, 3) := by decide +kernel
theorem dX9_two_13 : decode cX9_two 13 = .ok (.ifCond .eq 11, 3) := by decide +kernel
theorem dX9_two_16 : decode cX9_two 16 = .ok (.aload_n 0, 1) := by decide +kernel
theorem dX9_two_17 : decode cX9_two 17 = .ok (.iload_n 3, 1) := by decide +kernel
theorem dX9_two_18 : decode cX9_two 18 = .ok (.invokevirtual 193, 3) := by decide +kernel
theorem dX9_two_21 : decode cX9_two 21 = .ok (.ifCond .ne 6, 3) := by decide +kernel
theorem dX9_two_24 : decode cX9_two 24 = .ok (.ldc 197, 2) := by decide +kernel
theorem dX9_two_26 : decode cX9_two 26 = .ok (.ireturn, 1) := by decide +kernel
theorem dX9_two_27 : decode cX9_two 27 = .ok (.iload 4, 2) := by decide +kernel
theorem dX9_two_29 : decode cX9_two 29 = .ok (.i2l, 1) := by decide +kernel
theorem dX9_two_30 : decode cX9_two 30 = .ok (.lconst 0, 1) := by decide +kernel
theorem dX9_two_31 : decode cX9_two 31 = .ok (.ldc2_w 303, 3) := by decide +kernel
theorem dX9_two_34 : decode cX9_two 34 = .ok (.invokestatic 95, 3) := by decide +kernel
theorem dX9_two_37 : decode cX9_two 37 = .ok (.ifCond .ne 6, 3) := by decide +kernel
theorem dX9_two_40 : decode cX9_two 40 = .ok (.ldc 99, 2) := by decide +kernel
theorem dX9_two_42 : decode cX9_two 42 = .ok (.ireturn, 1) := by decide +kernel
theorem dX9_two_43 : decode cX9_two 43 = .ok (.iconst (-1), 1) := by decide +kernel
theorem dX9_two_44 : decode cX9_two 44 = .ok (.istore 5, 2) := by decide +kernel
theorem dX9_two_46 : decode cX9_two 46 = .ok (.iconst 0, 1) := by decide +kernel
theorem dX9_two_47 : decode cX9_two 47 = .ok (.istore 6, 2) := by decide +kernel
theorem dX9_two_49 : decode cX9_two 49 = .ok (.iload 6, 2) := by decide +kernel
theorem dX9_two_51 : decode cX9_two 51 = .ok (.aload_n 0, 1) := by decide +kernel
theorem dX9_two_52 : decode cX9_two 52 = .ok (.invokevirtual 236, 3) := by decide +kernel
theorem dX9_two_55 : decode cX9_two 55 = .ok (.if_icmp .gt 99, 3) := by decide +kernel
theorem dX9_two_58 : decode cX9_two 58 = .ok (.aload_n 0, 1) := by decide +kernel
theorem dX9_two_59 : decode cX9_two 59 = .ok (.invokevirtual 236, 3) := by decide +kernel
theorem dX9_two_62 : decode cX9_two 62 = .ok (.iload 6, 2) := by decide +kernel
theorem dX9_two_64 : decode cX9_two 64 = .ok (.iconst (-1), 1) := by decide +kernel
theorem dX9_two_65 : decode cX9_two 65 = .ok (.ixor, 1) := by decide +kernel
theorem dX9_two_66 : decode cX9_two 66 = .ok (.iand, 1) := by decide +kernel
theorem dX9_two_67 : decode cX9_two 67 = .ok (.istore 7, 2) := by decide +kernel
theorem dX9_two_69 : decode cX9_two 69 = .ok (.aload_n 0, 1) := by decide +kernel
theorem dX9_two_70 : decode cX9_two 70 = .ok (.iload 6, 2) := by decide +kernel
theorem dX9_two_72 : decode cX9_two 72 = .ok (.invokevirtual 300, 3) := by decide +kernel
theorem dX9_two_75 : decode cX9_two 75 = .ok (.iload 4, 2) := by decide +kernel
theorem dX9_two_77 : decode cX9_two 77 = .ok (.if_icmp .lt 71, 3) := by decide +kernel
theorem dX9_two_80 : decode cX9_two 80 = .ok (.aload_n 0, 1) := by decide +kernel
theorem dX9_two_81 : decode cX9_two 81 = .ok (.iload 7, 2) := by decide +kernel
theorem dX9_two_83 : decode cX9_two 83 = .ok (.invokevirtual 300, 3) := by decide +kernel
theorem dX9_two_86 : decode cX9_two 86 = .ok (.iload 4, 2) := by decide +kernel
theorem dX9_two_88 : decode cX9_two 88 = .ok (.if_icmp .lt 60, 3) := by decide +kernel
theorem dX9_two_91 : decode cX9_two 91 = .ok (.aload_n 0, 1) := by decide +kernel
theorem dX9_two_92 : decode cX9_two 92 = .ok (.iload_n 1, 1) := by decide +kernel
theorem dX9_two_93 : decode cX9_two 93 = .ok (.iload_n 3, 1) := by decide +kernel
theorem dX9_two_94 : decode cX9_two 94 = .ok (.iload 6, 2) := by decide +kernel
theorem dX9_two_96 : decode cX9_two 96 = .ok (.invokevirtual 310, 3) := by decide +kernel
theorem dX9_two_99 : decode cX9_two 99 = .ok (.istore 8, 2) := by decide +kernel
theorem dX9_two_101 : decode cX9_two 101 = .ok (.aload_n 0, 1) := by decide +kernel
theorem dX9_two_102 : decode cX9_two 102 = .ok (.iload_n 2, 1) := by decide +kernel
theorem dX9_two_103 : decode cX9_two 103 = .ok (.iload_n 3, 1) := by decide +kernel
theorem dX9_two_104 : decode cX9_two 104 = .ok (.iload 7, 2) := by decide +kernel
theorem dX9_two_106 : decode cX9_two 106 = .ok (.invokevirtual 310, 3) := by decide +kernel
theorem dX9_two_109 : decode cX9_two 109 = .ok (.istore 9, 2) := by decide +kernel
theorem dX9_two_111 : decode cX9_two 111 = .ok (.iload 8, 2) := by decide +kernel
theorem dX9_two_113 : decode cX9_two 113 = .ok (.iload 9, 2) := by decide +kernel
theorem dX9_two_115 : decode cX9_two 115 = .ok (.if_icmp .le 8, 3) := by decide +kernel
theorem dX9_two_118 : decode cX9_two 118 = .ok (.iload 8, 2) := by decide +kernel
theorem dX9_two_120 : decode cX9_two 120 = .ok (.goto 5, 3) := by decide +kernel
theorem dX9_two_123 : decode cX9_two 123 = .ok (.iload 9, 2) := by decide +kernel
theorem dX9_two_125 : decode cX9_two 125 = .ok (.istore 10, 2) := by decide +kernel
theorem dX9_two_127 : decode cX9_two 127 = .ok (.iload 5, 2) := by decide +kernel
theorem dX9_two_129 : decode cX9_two 129 = .ok (.ifCond .lt 10, 3) := by decide +kernel
theorem dX9_two_132 : decode cX9_two 132 = .ok (.iload 10, 2) := by decide +kernel
theorem dX9_two_134 : decode cX9_two 134 = .ok (.iload 5, 2) := by decide +kernel
theorem dX9_two_136 : decode cX9_two 136 = .ok (.if_icmp .ge 8, 3) := by decide +kernel
theorem dX9_two_139 : decode cX9_two 139 = .ok (.iload 10, 2) := by decide +kernel
theorem dX9_two_141 : decode cX9_two 141 = .ok (.goto 5, 3) := by decide +kernel
theorem dX9_two_144 : decode cX9_two 144 = .ok (.iload 5, 2) := by decide +kernel
theorem dX9_two_146 : decode cX9_two 146 = .ok (.istore 5, 2) := by decide +kernel
theorem dX9_two_148 : decode cX9_two 148 = .ok (.iinc 6 1, 3) := by decide +kernel
theorem dX9_two_151 : decode cX9_two 151 = .ok (.goto (-102), 3) := by decide +kernel
theorem dX9_two_154 : decode cX9_two 154 = .ok (.iload 5, 2) := by decide +kernel
theorem dX9_two_156 : decode cX9_two 156 = .ok (.ireturn, 1) := by decide +kernel
theorem dX9_log_0 : decode cX9_log 0 = .ok (.aload_n 0, 1) := by decide +kernel
theorem dX9_log_1 : decode cX9_log 1 = .ok (.iload_n 1, 1) := by decide +kernel
theorem dX9_log_2 : decode cX9_log 2 = .ok (.invokevirtual 206, 3) := by decide +kernel
theorem dX9_log_5 : decode cX9_log 5 = .ok (.ifCond .ne 6, 3) := by decide +kernel
theorem dX9_log_8 : decode cX9_log 8 = .ok (.ldc 197, 2) := by decide +kernel
theorem dX9_log_10 : decode cX9_log 10 = .ok (.ireturn, 1) := by decide +kernel
theorem dX9_log_11 : decode cX9_log 11 = .ok (.iload_n 2, 1) := by decide +kernel
theorem dX9_log_12 : decode cX9_log 12 = .ok (.i2l, 1) := by decide +kernel
theorem dX9_log_13 : decode cX9_log 13 = .ok (.lconst 0, 1) := by decide +kernel
theorem dX9_log_14 : decode cX9_log 14 = .ok (.ldc2_w 287, 3) := by decide +kernel
theorem dX9_log_17 : decode cX9_log 17 = .ok (.invokestatic 95, 3) := by decide +kernel
theorem dX9_log_20 : decode cX9_log 20 = .ok (.ifCond .ne 6, 3) := by decide +kernel
theorem dX9_log_23 : decode cX9_log 23 = .ok (.ldc 99, 2) := by decide +kernel
theorem dX9_log_25 : decode cX9_log 25 = .ok (.ireturn, 1) := by decide +kernel
theorem dX9_log_26 : decode cX9_log 26 = .ok (.aload_n 0, 1) := by decide +kernel
theorem dX9_log_27 : decode cX9_log 27 = .ok (.dup, 1) := by decide +kernel
theorem dX9_log_28 : decode cX9_log 28 = .ok (.getfield 179, 3) := by decide +kernel
theorem dX9_log_31 : decode cX9_log 31 = .ok (.iconst 1, 1) := by decide +kernel
theorem dX9_log_32 : decode cX9_log 32 = .ok (.iload_n 1, 1) := by decide +kernel
theorem dX9_log_33 : decode cX9_log 33 = .ok (.ishl, 1) := by decide +kernel
theorem dX9_log_34 : decode cX9_log 34 = .ok (.ior, 1) := by decide +kernel
theorem dX9_log_35 : decode cX9_log 35 = .ok (.putfield 179, 3) := by decide +kernel
theorem dX9_log_38 : decode cX9_log 38 = .ok (.aload_n 0, 1) := by decide +kernel
theorem dX9_log_39 : decode cX9_log 39 = .ok (.getfield 90, 3) := by decide +kernel
theorem dX9_log_42 : decode cX9_log 42 = .ok (.iload_n 1, 1) := by decide +kernel
theorem dX9_log_43 : decode cX9_log 43 = .ok (.iload_n 2, 1) := by decide +kernel
theorem dX9_log_44 : decode cX9_log 44 = .ok (.iastore, 1) := by decide +kernel
theorem dX9_log_45 : decode cX9_log 45 = .ok (.aload_n 0, 1) := by decide +kernel
theorem dX9_log_46 : decode cX9_log 46 = .ok (.getfield 179, 3) := by decide +kernel
theorem dX9_log_49 : decode cX9_log 49 = .ok (.invokestatic 189, 3) := by decide +kernel
theorem dX9_log_52 : decode cX9_log 52 = .ok (.ireturn, 1) := by decide +kernel
theorem dX9_clear_0 : decode cX9_clear 0 = .ok (.aload_n 0, 1) := by decide +kernel
theorem dX9_clear_1 : decode cX9_clear 1 = .ok (.getfield 179, 3) := by decide +kernel
theorem dX9_clear_4 : decode cX9_clear 4 = .ok (.invokestatic 189, 3) := by decide +kernel
theorem dX9_clear_7 : decode cX9_clear 7 = .ok (.istore_n 1, 1) := by decide +kernel
theorem dX9_clear_8 : decode cX9_clear 8 = .ok (.aload_n 0, 1) := by decide +kernel
theorem dX9_clear_9 : decode cX9_clear 9 = .ok (.iconst 0, 1) := by decide +kernel
theorem dX9_clear_10 : decode cX9_clear 10 = .ok (.putfield 179, 3) := by decide +kernel
theorem dX9_clear_13 : decode cX9_clear 13 = .ok (.iload_n 1, 1) := by decide +kernel
theorem dX9_clear_14 : decode cX9_clear 14 = .ok (.ireturn, 1) := by decide +kernel
theorem dX9_lateOf_0 : decode cX9_lateOf 0 = .ok (.aload_n 0, 1) := by decide +kernel
theorem dX9_lateOf_1 : decode cX9_lateOf 1 = .ok (.getfield 179, 3) := by decide +kernel
theorem dX9_lateOf_4 : decode cX9_lateOf 4 = .ok (.iload_n 1, 1) := by decide +kernel
theorem dX9_lateOf_5 : decode cX9_lateOf 5 = .ok (.invokestatic 146, 3) := by decide +kernel
theorem dX9_lateOf_8 : decode cX9_lateOf 8 = .ok (.ifCond .eq 43, 3) := by decide +kernel
theorem dX9_lateOf_11 : decode cX9_lateOf 11 = .ok (.aload_n 0, 1) := by decide +kernel
theorem dX9_lateOf_12 : decode cX9_lateOf 12 = .ok (.getfield 66, 3) := by decide +kernel
theorem dX9_lateOf_15 : decode cX9_lateOf 15 = .ok (.iload_n 1, 1) := by decide +kernel
theorem dX9_lateOf_16 : decode cX9_lateOf 16 = .ok (.iaload, 1) := by decide +kernel
theorem dX9_lateOf_17 : decode cX9_lateOf 17 = .ok (.ifCond .lt 34, 3) := by decide +kernel
theorem dX9_lateOf_20 : decode cX9_lateOf 20 = .ok (.aload_n 0, 1) := by decide +kernel
theorem dX9_lateOf_21 : decode cX9_lateOf 21 = .ok (.getfield 90, 3) := by decide +kernel
theorem dX9_lateOf_24 : decode cX9_lateOf 24 = .ok (.iload_n 1, 1) := by decide +kernel
theorem dX9_lateOf_25 : decode cX9_lateOf 25 = .ok (.iaload, 1) := by decide +kernel
theorem dX9_lateOf_26 : decode cX9_lateOf 26 = .ok (.aload_n 0, 1) := by decide +kernel
theorem dX9_lateOf_27 : decode cX9_lateOf 27 = .ok (.getfield 66, 3) := by decide +kernel
theorem dX9_lateOf_30 : decode cX9_lateOf 30 = .ok (.iload_n 1, 1) := by decide +kernel
theorem dX9_lateOf_31 : decode cX9_lateOf 31 = .ok (.iaload, 1) := by decide +kernel
theorem dX9_lateOf_32 : decode cX9_lateOf 32 = .ok (.if_icmp .le 19, 3) := by decide +kernel
theorem dX9_lateOf_35 : decode cX9_lateOf 35 = .ok (.aload_n 0, 1) := by decide +kernel
theorem dX9_lateOf_36 : decode cX9_lateOf 36 = .ok (.getfield 90, 3) := by decide +kernel
theorem dX9_lateOf_39 : decode cX9_lateOf 39 = .ok (.iload_n 1, 1) := by decide +kernel
theorem dX9_lateOf_40 : decode cX9_lateOf 40 = .ok (.iaload, 1) := by decide +kernel
theorem dX9_lateOf_41 : decode cX9_lateOf 41 = .ok (.aload_n 0, 1) := by decide +kernel
theorem dX9_lateOf_42 : decode cX9_lateOf 42 = .ok (.getfield 66, 3) := by decide +kernel
theorem dX9_lateOf_45 : decode cX9_lateOf 45 = .ok (.iload_n 1, 1) := by decide +kernel
theorem dX9_lateOf_46 : decode cX9_lateOf 46 = .ok (.iaload, 1) := by decide +kernel
theorem dX9_lateOf_47 : decode cX9_lateOf 47 = .ok (.isub, 1) := by decide +kernel
theorem dX9_lateOf_48 : decode cX9_lateOf 48 = .ok (.goto 4, 3) := by decide +kernel
theorem dX9_lateOf_51 : decode cX9_lateOf 51 = .ok (.iconst 0, 1) := by decide +kernel
theorem dX9_lateOf_52 : decode cX9_lateOf 52 = .ok (.ireturn, 1) := by decide +kernel
theorem dX9_late_0 : decode cX9_late 0 = .ok (.aload_n 0, 1) := by decide +kernel
theorem dX9_late_1 : decode cX9_late 1 = .ok (.iload_n 1, 1) := by decide +kernel
theorem dX9_late_2 : decode cX9_late 2 = .ok (.invokevirtual 193, 3) := by decide +kernel
theorem dX9_late_5 : decode cX9_late 5 = .ok (.ifCond .eq 19, 3) := by decide +kernel
theorem dX9_late_8 : decode cX9_late 8 = .ok (.aload_n 0, 1) := by decide +kernel
theorem dX9_late_9 : decode cX9_late 9 = .ok (.iload_n 2, 1) := by decide +kernel
theorem dX9_late_10 : decode cX9_late 10 = .ok (.invokevirtual 193, 3) := by decide +kernel
theorem dX9_late_13 : decode cX9_late 13 = .ok (.ifCond .eq 11, 3) := by decide +kernel
theorem dX9_late_16 : decode cX9_late 16 = .ok (.aload_n 0, 1) := by decide +kernel
theorem dX9_late_17 : decode cX9_late 17 = .ok (.iload_n 3, 1) := by decide +kernel
theorem dX9_late_18 : decode cX9_late 18 = .ok (.invokevirtual 206, 3) := by decide +kernel
theorem dX9_late_21 : decode cX9_late 21 = .ok (.ifCond .ne 6, 3) := by decide +kernel
theorem dX9_late_24 : decode cX9_late 24 = .ok (.ldc 197, 2) := by decide +kernel
theorem dX9_late_26 : decode cX9_late 26 = .ok (.ireturn, 1) := by decide +kernel
theorem dX9_late_27 : decode cX9_late 27 = .ok (.aload_n 0, 1) := by decide +kernel
theorem dX9_late_28 : decode cX9_late 28 = .ok (.iload_n 1, 1) := by decide +kernel
theorem dX9_late_29 : decode cX9_late 29 = .ok (.iload_n 2, 1) := by decide +kernel
theorem dX9_late_30 : decode cX9_late 30 = .ok (.aload_n 0, 1) := by decide +kernel
theorem dX9_late_31 : decode cX9_late 31 = .ok (.getfield 7, 3) := by decide +kernel
theorem dX9_late_34 : decode cX9_late 34 = .ok (.bipush 24, 2) := by decide +kernel
theorem dX9_late_36 : decode cX9_late 36 = .ok (.iaload, 1) := by decide +kernel
theorem dX9_late_37 : decode cX9_late 37 = .ok (.invokevirtual 229, 3) := by decide +kernel
theorem dX9_late_40 : decode cX9_late 40 = .ok (.aload_n 0, 1) := by decide +kernel
theorem dX9_late_41 : decode cX9_late 41 = .ok (.invokevirtual 233, 3) := by decide +kernel
theorem dX9_late_44 : decode cX9_late 44 = .ok (.aload_n 0, 1) := by decide +kernel
theorem dX9_late_45 : decode cX9_late 45 = .ok (.iload_n 3, 1) := by decide +kernel
theorem dX9_late_46 : decode cX9_late 46 = .ok (.invokevirtual 313, 3) := by decide +kernel
theorem dX9_late_49 : decode cX9_late 49 = .ok (.ireturn, 1) := by decide +kernel
theorem dX9_judge_0 : decode cX9_judge 0 = .ok (.aload_n 0, 1) := by decide +kernel
theorem dX9_judge_1 : decode cX9_judge 1 = .ok (.iload_n 1, 1) := by decide +kernel
theorem dX9_judge_2 : decode cX9_judge 2 = .ok (.invokevirtual 193, 3) := by decide +kernel
theorem dX9_judge_5 : decode cX9_judge 5 = .ok (.ifCond .eq 11, 3) := by decide +kernel
theorem dX9_judge_8 : decode cX9_judge 8 = .ok (.aload_n 0, 1) := by decide +kernel
theorem dX9_judge_9 : decode cX9_judge 9 = .ok (.iload_n 2, 1) := by decide +kernel
theorem dX9_judge_10 : decode cX9_judge 10 = .ok (.invokevirtual 193, 3) := by decide +kernel
theorem dX9_judge_13 : decode cX9_judge 13 = .ok (.ifCond .ne 6, 3) := by decide +kernel
theorem dX9_judge_16 : decode cX9_judge 16 = .ok (.ldc 197, 2) := by decide +kernel
theorem dX9_judge_18 : decode cX9_judge 18 = .ok (.ireturn, 1) := by decide +kernel
theorem dX9_judge_19 : decode cX9_judge 19 = .ok (.iload_n 3, 1) := by decide +kernel
theorem dX9_judge_20 : decode cX9_judge 20 = .ok (.i2l, 1) := by decide +kernel
theorem dX9_judge_21 : decode cX9_judge 21 = .ok (.lconst 0, 1) := by decide +kernel
theorem dX9_judge_22 : decode cX9_judge 22 = .ok (.lconst 1, 1) := by decide +kernel
theorem dX9_judge_23 : decode cX9_judge 23 = .ok (.invokestatic 95, 3) := by decide +kernel
theorem dX9_judge_26 : decode cX9_judge 26 = .ok (.ifCond .ne 6, 3) := by decide +kernel
theorem dX9_judge_29 : decode cX9_judge 29 = .ok (.ldc 99, 2) := by decide +kernel
theorem dX9_judge_31 : decode cX9_judge 31 = .ok (.ireturn, 1) := by decide +kernel
theorem dX9_judge_32 : decode cX9_judge 32 = .ok (.aload_n 0, 1) := by decide +kernel
theorem dX9_judge_33 : decode cX9_judge 33 = .ok (.iload_n 1, 1) := by decide +kernel
theorem dX9_judge_34 : decode cX9_judge 34 = .ok (.iload_n 2, 1) := by decide +kernel
theorem dX9_judge_35 : decode cX9_judge 35 = .ok (.aload_n 0, 1) := by decide +kernel
theorem dX9_judge_36 : decode cX9_judge 36 = .ok (.getfield 7, 3) := by decide +kernel
theorem dX9_judge_39 : decode cX9_judge 39 = .ok (.bipush 24, 2) := by decide +kernel
theorem dX9_judge_41 : decode cX9_judge 41 = .ok (.iaload, 1) := by decide +kernel
theorem dX9_judge_42 : decode cX9_judge 42 = .ok (.invokevirtual 229, 3) := by decide +kernel
theorem dX9_judge_45 : decode cX9_judge 45 = .ok (.aload_n 0, 1) := by decide +kernel
theorem dX9_judge_46 : decode cX9_judge 46 = .ok (.invokevirtual 233, 3) := by decide +kernel
theorem dX9_judge_49 : decode cX9_judge 49 = .ok (.iload_n 3, 1) := by decide +kernel
theorem dX9_judge_50 : decode cX9_judge 50 = .ok (.ifCond .ne 62, 3) := by decide +kernel
theorem dX9_judge_53 : decode cX9_judge 53 = .ok (.iconst (-1), 1) := by decide +kernel
theorem dX9_judge_54 : decode cX9_judge 54 = .ok (.istore 4, 2) := by decide +kernel
theorem dX9_judge_56 : decode cX9_judge 56 = .ok (.iconst 0, 1) := by decide +kernel
theorem dX9_judge_57 : decode cX9_judge 57 = .ok (.istore 5, 2) := by decide +kernel
theorem dX9_judge_59 : decode cX9_judge 59 = .ok (.iload 5, 2) := by decide +kernel
theorem dX9_judge_61 : decode cX9_judge 61 = .ok (.aload_n 0, 1) := by decide +kernel
theorem dX9_judge_62 : decode cX9_judge 62 = .ok (.getfield 35, 3) := by decide +kernel
theorem dX9_judge_65 : decode cX9_judge 65 = .ok (.iconst 1, 1) := by decide +kernel
theorem dX9_judge_66 : decode cX9_judge 66 = .ok (.iaload, 1) := by decide +kernel
theorem dX9_judge_67 : decode cX9_judge 67 = .ok (.if_icmp .ge 42, 3) := by decide +kernel
theorem dX9_judge_70 : decode cX9_judge 70 = .ok (.aload_n 0, 1) := by decide +kernel
theorem dX9_judge_71 : decode cX9_judge 71 = .ok (.iload 5, 2) := by decide +kernel
theorem dX9_judge_73 : decode cX9_judge 73 = .ok (.invokevirtual 313, 3) := by decide +kernel
theorem dX9_judge_76 : decode cX9_judge 76 = .ok (.iload 4, 2) := by decide +kernel
theorem dX9_judge_78 : decode cX9_judge 78 = .ok (.ifCond .ge 7, 3) := by decide +kernel
theorem dX9_judge_81 : decode cX9_judge 81 = .ok (.iconst 0, 1) := by decide +kernel
theorem dX9_judge_82 : decode cX9_judge 82 = .ok (.goto 9, 3) := by decide +kernel
theorem dX9_judge_85 : decode cX9_judge 85 = .ok (.aload_n 0, 1) := by decide +kernel
theorem dX9_judge_86 : decode cX9_judge 86 = .ok (.iload 4, 2) := by decide +kernel
theorem dX9_judge_88 : decode cX9_judge 88 = .ok (.invokevirtual 313, 3) := by decide +kernel
theorem dX9_judge_91 : decode cX9_judge 91 = .ok (.if_icmp .le 8, 3) := by decide +kernel
theorem dX9_judge_94 : decode cX9_judge 94 = .ok (.iload 5, 2) := by decide +kernel
theorem dX9_judge_96 : decode cX9_judge 96 = .ok (.goto 5, 3) := by decide +kernel
theorem dX9_judge_99 : decode cX9_judge 99 = .ok (.iload 4, 2) := by decide +kernel
theorem dX9_judge_101 : decode cX9_judge 101 = .ok (.istore 4, 2) := by decide +kernel
theorem dX9_judge_103 : decode cX9_judge 103 = .ok (.iinc 5 1, 3) := by decide +kernel
theorem dX9_judge_106 : decode cX9_judge 106 = .ok (.goto (-47), 3) := by decide +kernel
theorem dX9_judge_109 : decode cX9_judge 109 = .ok (.iload 4, 2) := by decide +kernel
theorem dX9_judge_111 : decode cX9_judge 111 = .ok (.ireturn, 1) := by decide +kernel
theorem dX9_judge_112 : decode cX9_judge 112 = .ok (.iconst 0, 1) := by decide +kernel
theorem dX9_judge_113 : decode cX9_judge 113 = .ok (.istore 4, 2) := by decide +kernel
theorem dX9_judge_115 : decode cX9_judge 115 = .ok (.iload 4, 2) := by decide +kernel
theorem dX9_judge_117 : decode cX9_judge 117 = .ok (.aload_n 0, 1) := by decide +kernel
theorem dX9_judge_118 : decode cX9_judge 118 = .ok (.getfield 35, 3) := by decide +kernel
theorem dX9_judge_121 : decode cX9_judge 121 = .ok (.iconst 1, 1) := by decide +kernel
theorem dX9_judge_122 : decode cX9_judge 122 = .ok (.iaload, 1) := by decide +kernel
theorem dX9_judge_123 : decode cX9_judge 123 = .ok (.if_icmp .ge 45, 3) := by decide +kernel
theorem dX9_judge_126 : decode cX9_judge 126 = .ok (.aload_n 0, 1) := by decide +kernel
theorem dX9_judge_127 : decode cX9_judge 127 = .ok (.getfield 66, 3) := by decide +kernel
theorem dX9_judge_130 : decode cX9_judge 130 = .ok (.iload 4, 2) := by decide +kernel
theorem dX9_judge_132 : decode cX9_judge 132 = .ok (.aload_n 0, 1) := by decide +kernel
theorem dX9_judge_133 : decode cX9_judge 133 = .ok (.getfield 179, 3) := by decide +kernel
theorem dX9_judge_136 : decode cX9_judge 136 = .ok (.iload 4, 2) := by decide +kernel
theorem dX9_judge_138 : decode cX9_judge 138 = .ok (.invokestatic 146, 3) := by decide +kernel
theorem dX9_judge_141 : decode cX9_judge 141 = .ok (.ifCond .eq 13, 3) := by decide +kernel
theorem dX9_judge_144 : decode cX9_judge 144 = .ok (.aload_n 0, 1) := by decide +kernel
theorem dX9_judge_145 : decode cX9_judge 145 = .ok (.getfield 90, 3) := by decide +kernel
theorem dX9_judge_148 : decode cX9_judge 148 = .ok (.iload 4, 2) := by decide +kernel
theorem dX9_judge_150 : decode cX9_judge 150 = .ok (.iaload, 1) := by decide +kernel
theorem dX9_judge_151 : decode cX9_judge 151 = .ok (.goto 10, 3) := by decide +kernel
theorem dX9_judge_154 : decode cX9_judge 154 = .ok (.aload_n 0, 1) := by decide +kernel
theorem dX9_judge_155 : decode cX9_judge 155 = .ok (.getfield 66, 3) := by decide +kernel
theorem dX9_judge_158 : decode cX9_judge 158 = .ok (.iload 4, 2) := by decide +kernel
theorem dX9_judge_160 : decode cX9_judge 160 = .ok (.iaload, 1) := by decide +kernel
theorem dX9_judge_161 : decode cX9_judge 161 = .ok (.iastore, 1) := by decide +kernel
theorem dX9_judge_162 : decode cX9_judge 162 = .ok (.iinc 4 1, 3) := by decide +kernel
theorem dX9_judge_165 : decode cX9_judge 165 = .ok (.goto (-50), 3) := by decide +kernel
theorem dX9_judge_168 : decode cX9_judge 168 = .ok (.aload_n 0, 1) := by decide +kernel
theorem dX9_judge_169 : decode cX9_judge 169 = .ok (.aload_n 0, 1) := by decide +kernel
theorem dX9_judge_170 : decode cX9_judge 170 = .ok (.invokevirtual 236, 3) := by decide +kernel
theorem dX9_judge_173 : decode cX9_judge 173 = .ok (.invokevirtual 239, 3) := by decide +kernel
theorem dX9_judge_176 : decode cX9_judge 176 = .ok (.ireturn, 1) := by decide +kernel
theorem dX9_seed_0 : decode cX9_seed 0 = .ok (.iload_n 1, 1) := by decide +kernel
theorem dX9_seed_1 : decode cX9_seed 1 = .ok (.ifCond .ge 6, 3) := by decide +kernel
theorem dX9_seed_4 : decode cX9_seed 4 = .ok (.ldc 99, 2) := by decide +kernel
theorem dX9_seed_6 : decode cX9_seed 6 = .ok (.ireturn, 1) := by decide +kernel
theorem dX9_seed_7 : decode cX9_seed 7 = .ok (.aload_n 0, 1) := by decide +kernel
theorem dX9_seed_8 : decode cX9_seed 8 = .ok (.getfield 7, 3) := by decide +kernel
theorem dX9_seed_11 : decode cX9_seed 11 = .ok (.bipush 25, 2) := by decide +kernel
theorem dX9_seed_13 : decode cX9_seed 13 = .ok (.iaload, 1) := by decide +kernel
theorem dX9_seed_14 : decode cX9_seed 14 = .ok (.istore_n 2, 1) := by decide +kernel
theorem dX9_seed_15 : decode cX9_seed 15 = .ok (.aload_n 0, 1) := by decide +kernel
theorem dX9_seed_16 : decode cX9_seed 16 = .ok (.getfield 7, 3) := by decide +kernel
theorem dX9_seed_19 : decode cX9_seed 19 = .ok (.bipush 25, 2) := by decide +kernel
theorem dX9_seed_21 : decode cX9_seed 21 = .ok (.iload_n 1, 1) := by decide +kernel
theorem dX9_seed_22 : decode cX9_seed 22 = .ok (.iastore, 1) := by decide +kernel
theorem dX9_seed_23 : decode cX9_seed 23 = .ok (.iload_n 2, 1) := by decide +kernel
theorem dX9_seed_24 : decode cX9_seed 24 = .ok (.ireturn, 1) := by decide +kernel
theorem dX9_copy_0 : decode cX9_copy 0 = .ok (.iconst 0, 1) := by decide +kernel
theorem dX9_copy_1 : decode cX9_copy 1 = .ok (.istore_n 3, 1) := by decide +kernel
theorem dX9_copy_2 : decode cX9_copy 2 = .ok (.iload_n 3, 1) := by decide +kernel
theorem dX9_copy_3 : decode cX9_copy 3 = .ok (.bipush 26, 2) := by decide +kernel
theorem dX9_copy_5 : decode cX9_copy 5 = .ok (.if_icmp .ge 25, 3) := by decide +kernel
theorem dX9_copy_8 : decode cX9_copy 8 = .ok (.aload_n 0, 1) := by decide +kernel
theorem dX9_copy_9 : decode cX9_copy 9 = .ok (.getfield 7, 3) := by decide +kernel
theorem dX9_copy_12 : decode cX9_copy 12 = .ok (.iload_n 2, 1) := by decide +kernel
theorem dX9_copy_13 : decode cX9_copy 13 = .ok (.iload_n 3, 1) := by decide +kernel
theorem dX9_copy_14 : decode cX9_copy 14 = .ok (.iadd, 1) := by decide +kernel
theorem dX9_copy_15 : decode cX9_copy 15 = .ok (.aload_n 0, 1) := by decide +kernel
theorem dX9_copy_16 : decode cX9_copy 16 = .ok (.getfield 7, 3) := by decide +kernel
theorem dX9_copy_19 : decode cX9_copy 19 = .ok (.iload_n 1, 1) := by decide +kernel
theorem dX9_copy_20 : decode cX9_copy 20 = .ok (.iload_n 3, 1) := by decide +kernel
theorem dX9_copy_21 : decode cX9_copy 21 = .ok (.iadd, 1) := by decide +kernel
theorem dX9_copy_22 : decode cX9_copy 22 = .ok (.iaload, 1) := by decide +kernel
theorem dX9_copy_23 : decode cX9_copy 23 = .ok (.iastore, 1) := by decide +kernel
theorem dX9_copy_24 : decode cX9_copy 24 = .ok (.iinc 3 1, 3) := by decide +kernel
theorem dX9_copy_27 : decode cX9_copy 27 = .ok (.goto (-25), 3) := by decide +kernel
theorem dX9_copy_30 : decode cX9_copy 30 = .ok (.return_, 1) := by decide +kernel
theorem dX9_keep_0 : decode cX9_keep 0 = .ok (.iload_n 1, 1) := by decide +kernel
theorem dX9_keep_1 : decode cX9_keep 1 = .ok (.i2l, 1) := by decide +kernel
theorem dX9_keep_2 : decode cX9_keep 2 = .ok (.lconst 0, 1) := by decide +kernel
theorem dX9_keep_3 : decode cX9_keep 3 = .ok (.lconst 1, 1) := by decide +kernel
theorem dX9_keep_4 : decode cX9_keep 4 = .ok (.invokestatic 95, 3) := by decide +kernel
theorem dX9_keep_7 : decode cX9_keep 7 = .ok (.ifCond .ne 6, 3) := by decide +kernel
theorem dX9_keep_10 : decode cX9_keep 10 = .ok (.ldc 197, 2) := by decide +kernel
theorem dX9_keep_12 : decode cX9_keep 12 = .ok (.ireturn, 1) := by decide +kernel
theorem dX9_keep_13 : decode cX9_keep 13 = .ok (.aload_n 0, 1) := by decide +kernel
theorem dX9_keep_14 : decode cX9_keep 14 = .ok (.iconst 0, 1) := by decide +kernel
theorem dX9_keep_15 : decode cX9_keep 15 = .ok (.bipush 26, 2) := by decide +kernel
theorem dX9_keep_17 : decode cX9_keep 17 = .ok (.iload_n 1, 1) := by decide +kernel
theorem dX9_keep_18 : decode cX9_keep 18 = .ok (.iconst 1, 1) := by decide +kernel
theorem dX9_keep_19 : decode cX9_keep 19 = .ok (.iadd, 1) := by decide +kernel
theorem dX9_keep_20 : decode cX9_keep 20 = .ok (.imul, 1) := by decide +kernel
theorem dX9_keep_21 : decode cX9_keep 21 = .ok (.invokevirtual 316, 3) := by decide +kernel
theorem dX9_keep_24 : decode cX9_keep 24 = .ok (.aload_n 0, 1) := by decide +kernel
theorem dX9_keep_25 : decode cX9_keep 25 = .ok (.getfield 13, 3) := by decide +kernel
theorem dX9_keep_28 : decode cX9_keep 28 = .ok (.iload_n 1, 1) := by decide +kernel
theorem dX9_keep_29 : decode cX9_keep 29 = .ok (.iconst 1, 1) := by decide +kernel
theorem dX9_keep_30 : decode cX9_keep 30 = .ok (.bastore, 1) := by decide +kernel
theorem dX9_keep_31 : decode cX9_keep 31 = .ok (.iconst 1, 1) := by decide +kernel
theorem dX9_keep_32 : decode cX9_keep 32 = .ok (.ireturn, 1) := by decide +kernel
theorem dX9_goBack_0 : decode cX9_goBack 0 = .ok (.iload_n 1, 1) := by decide +kernel
theorem dX9_goBack_1 : decode cX9_goBack 1 = .ok (.i2l, 1) := by decide +kernel
theorem dX9_goBack_2 : decode cX9_goBack 2 = .ok (.lconst 0, 1) := by decide +kernel
theorem dX9_goBack_3 : decode cX9_goBack 3 = .ok (.lconst 1, 1) := by decide +kernel
theorem dX9_goBack_4 : decode cX9_goBack 4 = .ok (.invokestatic 95, 3) := by decide +kernel
theorem dX9_goBack_7 : decode cX9_goBack 7 = .ok (.ifCond .ne 6, 3) := by decide +kernel
theorem dX9_goBack_10 : decode cX9_goBack 10 = .ok (.ldc 197, 2) := by decide +kernel
theorem dX9_goBack_12 : decode cX9_goBack 12 = .ok (.ireturn, 1) := by decide +kernel
theorem dX9_goBack_13 : decode cX9_goBack 13 = .ok (.aload_n 0, 1) := by decide +kernel
theorem dX9_goBack_14 : decode cX9_goBack 14 = .ok (.getfield 13, 3) := by decide +kernel
theorem dX9_goBack_17 : decode cX9_goBack 17 = .ok (.iload_n 1, 1) := by decide +kernel
theorem dX9_goBack_18 : decode cX9_goBack 18 = .ok (.baload, 1) := by decide +kernel
theorem dX9_goBack_19 : decode cX9_goBack 19 = .ok (.ifCond .ne 6, 3) := by decide +kernel
theorem dX9_goBack_22 : decode cX9_goBack 22 = .ok (.ldc 185, 2) := by decide +kernel
theorem dX9_goBack_24 : decode cX9_goBack 24 = .ok (.ireturn, 1) := by decide +kernel
theorem dX9_goBack_25 : decode cX9_goBack 25 = .ok (.aload_n 0, 1) := by decide +kernel
theorem dX9_goBack_26 : decode cX9_goBack 26 = .ok (.bipush 26, 2) := by decide +kernel
theorem dX9_goBack_28 : decode cX9_goBack 28 = .ok (.iload_n 1, 1) := by decide +kernel
theorem dX9_goBack_29 : decode cX9_goBack 29 = .ok (.iconst 1, 1) := by decide +kernel
theorem dX9_goBack_30 : decode cX9_goBack 30 = .ok (.iadd, 1) := by decide +kernel
theorem dX9_goBack_31 : decode cX9_goBack 31 = .ok (.imul, 1) := by decide +kernel
theorem dX9_goBack_32 : decode cX9_goBack 32 = .ok (.iconst 0, 1) := by decide +kernel
theorem dX9_goBack_33 : decode cX9_goBack 33 = .ok (.invokevirtual 316, 3) := by decide +kernel
theorem dX9_goBack_36 : decode cX9_goBack 36 = .ok (.iconst 1, 1) := by decide +kernel
theorem dX9_goBack_37 : decode cX9_goBack 37 = .ok (.ireturn, 1) := by decide +kernel
end
section
theorem dJ6_bitCount_0f7a4_0 : decode cJ6_bitCount_0f7a4 0 = .ok (.iload_n 0, 1) := by decide +kernel
theorem dJ6_bitCount_0f7a4_1 : decode cJ6_bitCount_0f7a4 1 = .ok (.iload_n 0, 1) := by decide +kernel
theorem dJ6_bitCount_0f7a4_2 : decode cJ6_bitCount_0f7a4 2 = .ok (.iconst 1, 1) := by decide +kernel
theorem dJ6_bitCount_0f7a4_3 : decode cJ6_bitCount_0f7a4 3 = .ok (.iushr, 1) := by decide +kernel
theorem dJ6_bitCount_0f7a4_4 : decode cJ6_bitCount_0f7a4 4 = .ok (.ldc_w 265, 3) := by decide +kernel
theorem dJ6_bitCount_0f7a4_7 : decode cJ6_bitCount_0f7a4 7 = .ok (.iand, 1) := by decide +kernel
theorem dJ6_bitCount_0f7a4_8 : decode cJ6_bitCount_0f7a4 8 = .ok (.isub, 1) := by decide +kernel
theorem dJ6_bitCount_0f7a4_9 : decode cJ6_bitCount_0f7a4 9 = .ok (.istore_n 0, 1) := by decide +kernel
theorem dJ6_bitCount_0f7a4_10 : decode cJ6_bitCount_0f7a4 10 = .ok (.iload_n 0, 1) := by decide +kernel
theorem dJ6_bitCount_0f7a4_11 : decode cJ6_bitCount_0f7a4 11 = .ok (.ldc_w 266, 3) := by decide +kernel
theorem dJ6_bitCount_0f7a4_14 : decode cJ6_bitCount_0f7a4 14 = .ok (.iand, 1) := by decide +kernel
theorem dJ6_bitCount_0f7a4_15 : decode cJ6_bitCount_0f7a4 15 = .ok (.iload_n 0, 1) := by decide +kernel
theorem dJ6_bitCount_0f7a4_16 : decode cJ6_bitCount_0f7a4 16 = .ok (.iconst 2, 1) := by decide +kernel
theorem dJ6_bitCount_0f7a4_17 : decode cJ6_bitCount_0f7a4 17 = .ok (.iushr, 1) := by decide +kernel
theorem dJ6_bitCount_0f7a4_18 : decode cJ6_bitCount_0f7a4 18 = .ok (.ldc_w 266, 3) := by decide +kernel
theorem dJ6_bitCount_0f7a4_21 : decode cJ6_bitCount_0f7a4 21 = .ok (.iand, 1) := by decide +kernel
theorem dJ6_bitCount_0f7a4_22 : decode cJ6_bitCount_0f7a4 22 = .ok (.iadd, 1) := by decide +kernel
theorem dJ6_bitCount_0f7a4_23 : decode cJ6_bitCount_0f7a4 23 = .ok (.istore_n 0, 1) := by decide +kernel
theorem dJ6_bitCount_0f7a4_24 : decode cJ6_bitCount_0f7a4 24 = .ok (.iload_n 0, 1) := by decide +kernel
theorem dJ6_bitCount_0f7a4_25 : decode cJ6_bitCount_0f7a4 25 = .ok (.iload_n 0, 1) := by decide +kernel
theorem dJ6_bitCount_0f7a4_26 : decode cJ6_bitCount_0f7a4 26 = .ok (.iconst 4, 1) := by decide +kernel
theorem dJ6_bitCount_0f7a4_27 : decode cJ6_bitCount_0f7a4 27 = .ok (.iushr, 1) := by decide +kernel
theorem dJ6_bitCount_0f7a4_28 : decode cJ6_bitCount_0f7a4 28 = .ok (.iadd, 1) := by decide +kernel
theorem dJ6_bitCount_0f7a4_29 : decode cJ6_bitCount_0f7a4 29 = .ok (.ldc_w 267, 3) := by decide +kernel
theorem dJ6_bitCount_0f7a4_32 : decode cJ6_bitCount_0f7a4 32 = .ok (.iand, 1) := by decide +kernel
theorem dJ6_bitCount_0f7a4_33 : decode cJ6_bitCount_0f7a4 33 = .ok (.istore_n 0, 1) := by decide +kernel
theorem dJ6_bitCount_0f7a4_34 : decode cJ6_bitCount_0f7a4 34 = .ok (.iload_n 0, 1) := by decide +kernel
theorem dJ6_bitCount_0f7a4_35 : decode cJ6_bitCount_0f7a4 35 = .ok (.iload_n 0, 1) := by decide +kernel
theorem dJ6_bitCount_0f7a4_36 : decode cJ6_bitCount_0f7a4 36 = .ok (.bipush 8, 2) := by decide +kernel
theorem dJ6_bitCount_0f7a4_38 : decode cJ6_bitCount_0f7a4 38 = .ok (.iushr, 1) := by decide +kernel
theorem dJ6_bitCount_0f7a4_39 : decode cJ6_bitCount_0f7a4 39 = .ok (.iadd, 1) := by decide +kernel
theorem dJ6_bitCount_0f7a4_40 : decode cJ6_bitCount_0f7a4 40 = .ok (.istore_n 0, 1) := by decide +kernel
theorem dJ6_bitCount_0f7a4_41 : decode cJ6_bitCount_0f7a4 41 = .ok (.iload_n 0, 1) := by decide +kernel
theorem dJ6_bitCount_0f7a4_42 : decode cJ6_bitCount_0f7a4 42 = .ok (.iload_n 0, 1) := by decide +kernel
theorem dJ6_bitCount_0f7a4_43 : decode cJ6_bitCount_0f7a4 43 = .ok (.bipush 16, 2) := by decide +kernel
theorem dJ6_bitCount_0f7a4_45 : decode cJ6_bitCount_0f7a4 45 = .ok (.iushr, 1) := by decide +kernel
theorem dJ6_bitCount_0f7a4_46 : decode cJ6_bitCount_0f7a4 46 = .ok (.iadd, 1) := by decide +kernel
theorem dJ6_bitCount_0f7a4_47 : decode cJ6_bitCount_0f7a4 47 = .ok (.istore_n 0, 1) := by decide +kernel
theorem dJ6_bitCount_0f7a4_48 : decode cJ6_bitCount_0f7a4 48 = .ok (.iload_n 0, 1) := by decide +kernel
theorem dJ6_bitCount_0f7a4_49 : decode cJ6_bitCount_0f7a4 49 = .ok (.bipush 63, 2) := by decide +kernel
theorem dJ6_bitCount_0f7a4_51 : decode cJ6_bitCount_0f7a4 51 = .ok (.iand, 1) := by decide +kernel
theorem dJ6_bitCount_0f7a4_52 : decode cJ6_bitCount_0f7a4 52 = .ok (.ireturn, 1) := by decide +kernel
theorem dJ9_max_7cf53_0 : decode cJ9_max_7cf53 0 = .ok (.iload_n 0, 1) := by decide +kernel
theorem dJ9_max_7cf53_1 : decode cJ9_max_7cf53 1 = .ok (.iload_n 1, 1) := by decide +kernel
theorem dJ9_max_7cf53_2 : decode cJ9_max_7cf53 2 = .ok (.if_icmp .lt 7, 3) := by decide +kernel
theorem dJ9_max_7cf53_5 : decode cJ9_max_7cf53 5 = .ok (.iload_n 0, 1) := by decide +kernel
theorem dJ9_max_7cf53_6 : decode cJ9_max_7cf53 6 = .ok (.goto 4, 3) := by decide +kernel
theorem dJ9_max_7cf53_9 : decode cJ9_max_7cf53 9 = .ok (.iload_n 1, 1) := by decide +kernel
theorem dJ9_max_7cf53_10 : decode cJ9_max_7cf53 10 = .ok (.ireturn, 1) := by decide +kernel
theorem dJ9_min_7cf53_0 : decode cJ9_min_7cf53 0 = .ok (.iload_n 0, 1) := by decide +kernel
theorem dJ9_min_7cf53_1 : decode cJ9_min_7cf53 1 = .ok (.iload_n 1, 1) := by decide +kernel
theorem dJ9_min_7cf53_2 : decode cJ9_min_7cf53 2 = .ok (.if_icmp .gt 7, 3) := by decide +kernel
theorem dJ9_min_7cf53_5 : decode cJ9_min_7cf53 5 = .ok (.iload_n 0, 1) := by decide +kernel
theorem dJ9_min_7cf53_6 : decode cJ9_min_7cf53 6 = .ok (.goto 4, 3) := by decide +kernel
theorem dJ9_min_7cf53_9 : decode cJ9_min_7cf53 9 = .ok (.iload_n 1, 1) := by decide +kernel
theorem dJ9_min_7cf53_10 : decode cJ9_min_7cf53 10 = .ok (.ireturn, 1) := by decide +kernel
theorem dJ0_length_8abf5_0 : decode cJ0_length_8abf5 0 = .ok (.aload_n 0, 1) := by decide +kernel
theorem dJ0_length_8abf5_1 : decode cJ0_length_8abf5 1 = .ok (.getfield 9, 3) := by decide +kernel
theorem dJ0_length_8abf5_4 : decode cJ0_length_8abf5 4 = .ok (.arraylength, 1) := by decide +kernel
theorem dJ0_length_8abf5_5 : decode cJ0_length_8abf5 5 = .ok (.aload_n 0, 1) := by decide +kernel
theorem dJ0_length_8abf5_6 : decode cJ0_length_8abf5 6 = .ok (.invokevirtual 335, 3) := by decide +kernel
theorem dJ0_length_8abf5_9 : decode cJ0_length_8abf5 9 = .ok (.ishr, 1) := by decide +kernel
theorem dJ0_length_8abf5_10 : decode cJ0_length_8abf5 10 = .ok (.ireturn, 1) := by decide +kernel
theorem dJ0_charAt_5068e_0 : decode cJ0_charAt_5068e 0 = .ok (.aload_n 0, 1) := by decide +kernel
theorem dJ0_charAt_5068e_1 : decode cJ0_charAt_5068e 1 = .ok (.invokevirtual 492, 3) := by decide +kernel
theorem dJ0_charAt_5068e_4 : decode cJ0_charAt_5068e 4 = .ok (.ifCond .eq 12, 3) := by decide +kernel
theorem dJ0_charAt_5068e_7 : decode cJ0_charAt_5068e 7 = .ok (.aload_n 0, 1) := by decide +kernel
theorem dJ0_charAt_5068e_8 : decode cJ0_charAt_5068e 8 = .ok (.getfield 9, 3) := by decide +kernel
theorem dJ0_charAt_5068e_11 : decode cJ0_charAt_5068e 11 = .ok (.iload_n 1, 1) := by decide +kernel
theorem dJ0_charAt_5068e_12 : decode cJ0_charAt_5068e 12 = .ok (.invokestatic 495, 3) := by decide +kernel
theorem dJ0_charAt_5068e_15 : decode cJ0_charAt_5068e 15 = .ok (.ireturn, 1) := by decide +kernel
theorem dJ0_charAt_5068e_16 : decode cJ0_charAt_5068e 16 = .ok (.aload_n 0, 1) := by decide +kernel
theorem dJ0_charAt_5068e_17 : decode cJ0_charAt_5068e 17 = .ok (.getfield 9, 3) := by decide +kernel
theorem dJ0_charAt_5068e_20 : decode cJ0_charAt_5068e 20 = .ok (.iload_n 1, 1) := by decide +kernel
theorem dJ0_charAt_5068e_21 : decode cJ0_charAt_5068e 21 = .ok (.invokestatic 498, 3) := by decide +kernel
theorem dJ0_charAt_5068e_24 : decode cJ0_charAt_5068e 24 = .ok (.ireturn, 1) := by decide +kernel
theorem dJ0_coder_7d493_0 : decode cJ0_coder_7d493 0 = .ok (.getstatic 38, 3) := by decide +kernel
theorem dJ0_coder_7d493_3 : decode cJ0_coder_7d493 3 = .ok (.ifCond .eq 10, 3) := by decide +kernel
theorem dJ0_coder_7d493_6 : decode cJ0_coder_7d493 6 = .ok (.aload_n 0, 1) := by decide +kernel
theorem dJ0_coder_7d493_7 : decode cJ0_coder_7d493 7 = .ok (.getfield 15, 3) := by decide +kernel
theorem dJ0_coder_7d493_10 : decode cJ0_coder_7d493 10 = .ok (.goto 4, 3) := by decide +kernel
theorem dJ0_coder_7d493_13 : decode cJ0_coder_7d493 13 = .ok (.iconst 1, 1) := by decide +kernel
theorem dJ0_coder_7d493_14 : decode cJ0_coder_7d493 14 = .ok (.ireturn, 1) := by decide +kernel
theorem dJ0_isLatin1_aae02_0 : decode cJ0_isLatin1_aae02 0 = .ok (.getstatic 38, 3) := by decide +kernel
theorem dJ0_isLatin1_aae02_3 : decode cJ0_isLatin1_aae02 3 = .ok (.ifCond .eq 14, 3) := by decide +kernel
theorem dJ0_isLatin1_aae02_6 : decode cJ0_isLatin1_aae02 6 = .ok (.aload_n 0, 1) := by decide +kernel
theorem dJ0_isLatin1_aae02_7 : decode cJ0_isLatin1_aae02 7 = .ok (.getfield 15, 3) := by decide +kernel
theorem dJ0_isLatin1_aae02_10 : decode cJ0_isLatin1_aae02 10 = .ok (.ifCond .ne 7, 3) := by decide +kernel
theorem dJ0_isLatin1_aae02_13 : decode cJ0_isLatin1_aae02 13 = .ok (.iconst 1, 1) := by decide +kernel
theorem dJ0_isLatin1_aae02_14 : decode cJ0_isLatin1_aae02 14 = .ok (.goto 4, 3) := by decide +kernel
theorem dJ0_isLatin1_aae02_17 : decode cJ0_isLatin1_aae02 17 = .ok (.iconst 0, 1) := by decide +kernel
theorem dJ0_isLatin1_aae02_18 : decode cJ0_isLatin1_aae02 18 = .ok (.ireturn, 1) := by decide +kernel
theorem dJ0_checkIndex_df160_0 : decode cJ0_checkIndex_df160 0 = .ok (.iload_n 0, 1) := by decide +kernel
theorem dJ0_checkIndex_df160_1 : decode cJ0_checkIndex_df160 1 = .ok (.iload_n 1, 1) := by decide +kernel
theorem dJ0_checkIndex_df160_2 : decode cJ0_checkIndex_df160 2 = .ok (.getstatic 1053, 3) := by decide +kernel
theorem dJ0_checkIndex_df160_5 : decode cJ0_checkIndex_df160 5 = .ok (.invokestatic 1059, 3) := by decide +kernel
theorem dJ0_checkIndex_df160_8 : decode cJ0_checkIndex_df160 8 = .ok (.pop, 1) := by decide +kernel
theorem dJ0_checkIndex_df160_9 : decode cJ0_checkIndex_df160 9 = .ok (.return_, 1) := by decide +kernel
theorem dJ1_charAt_3b067_0 : decode cJ1_charAt_3b067 0 = .ok (.iload_n 1, 1) := by decide +kernel
theorem dJ1_charAt_3b067_1 : decode cJ1_charAt_3b067 1 = .ok (.aload_n 0, 1) := by decide +kernel
theorem dJ1_charAt_3b067_2 : decode cJ1_charAt_3b067 2 = .ok (.arraylength, 1) := by decide +kernel
theorem dJ1_charAt_3b067_3 : decode cJ1_charAt_3b067 3 = .ok (.invokestatic 9, 3) := by decide +kernel
theorem dJ1_charAt_3b067_6 : decode cJ1_charAt_3b067 6 = .ok (.aload_n 0, 1) := by decide +kernel
theorem dJ1_charAt_3b067_7 : decode cJ1_charAt_3b067 7 = .ok (.iload_n 1, 1) := by decide +kernel
theorem dJ1_charAt_3b067_8 : decode cJ1_charAt_3b067 8 = .ok (.baload, 1) := by decide +kernel
theorem dJ1_charAt_3b067_9 : decode cJ1_charAt_3b067 9 = .ok (.sipush 255, 3) := by decide +kernel
theorem dJ1_charAt_3b067_12 : decode cJ1_charAt_3b067 12 = .ok (.iand, 1) := by decide +kernel
theorem dJ1_charAt_3b067_13 : decode cJ1_charAt_3b067 13 = .ok (.i2c, 1) := by decide +kernel
theorem dJ1_charAt_3b067_14 : decode cJ1_charAt_3b067 14 = .ok (.ireturn, 1) := by decide +kernel
theorem dJ2_getChar_3b067_0 : decode cJ2_getChar_3b067 0 = .ok (.getstatic 44, 3) := by decide +kernel
theorem dJ2_getChar_3b067_3 : decode cJ2_getChar_3b067 3 = .ok (.ifCond .ne 25, 3) := by decide +kernel
theorem dJ2_getChar_3b067_6 : decode cJ2_getChar_3b067 6 = .ok (.iload_n 1, 1) := by decide +kernel
theorem dJ2_getChar_3b067_7 : decode cJ2_getChar_3b067 7 = .ok (.ifCond .lt 11, 3) := by decide +kernel
theorem dJ2_getChar_3b067_10 : decode cJ2_getChar_3b067 10 = .ok (.iload_n 1, 1) := by decide +kernel
theorem dJ2_getChar_3b067_11 : decode cJ2_getChar_3b067 11 = .ok (.aload_n 0, 1) := by decide +kernel
theorem dJ2_getChar_3b067_12 : decode cJ2_getChar_3b067 12 = .ok (.invokestatic 48, 3) := by decide +kernel
theorem dJ2_getChar_3b067_15 : decode cJ2_getChar_3b067 15 = .ok (.if_icmp .lt 13, 3) := by decide +kernel
theorem dJ2_getChar_3b067_18 : decode cJ2_getChar_3b067 18 = .ok (.new 52, 3) := by decide +kernel
theorem dJ2_getChar_3b067_21 : decode cJ2_getChar_3b067 21 = .ok (.dup, 1) := by decide +kernel
theorem dJ2_getChar_3b067_22 : decode cJ2_getChar_3b067 22 = .ok (.ldc 54, 2) := by decide +kernel
theorem dJ2_getChar_3b067_24 : decode cJ2_getChar_3b067 24 = .ok (.invokespecial 56, 3) := by decide +kernel
theorem dJ2_getChar_3b067_27 : decode cJ2_getChar_3b067 27 = .ok (.athrow, 1) := by decide +kernel
theorem dJ2_getChar_3b067_28 : decode cJ2_getChar_3b067 28 = .ok (.iload_n 1, 1) := by decide +kernel
theorem dJ2_getChar_3b067_29 : decode cJ2_getChar_3b067 29 = .ok (.iconst 1, 1) := by decide +kernel
theorem dJ2_getChar_3b067_30 : decode cJ2_getChar_3b067 30 = .ok (.ishl, 1) := by decide +kernel
theorem dJ2_getChar_3b067_31 : decode cJ2_getChar_3b067 31 = .ok (.istore_n 1, 1) := by decide +kernel
theorem dJ2_getChar_3b067_32 : decode cJ2_getChar_3b067 32 = .ok (.aload_n 0, 1) := by decide +kernel
theorem dJ2_getChar_3b067_33 : decode cJ2_getChar_3b067 33 = .ok (.iload_n 1, 1) := by decide +kernel
theorem dJ2_getChar_3b067_34 : decode cJ2_getChar_3b067 34 = .ok (.iinc 1 1, 3) := by decide +kernel
theorem dJ2_getChar_3b067_37 : decode cJ2_getChar_3b067 37 = .ok (.baload, 1) := by decide +kernel
theorem dJ2_getChar_3b067_38 : decode cJ2_getChar_3b067 38 = .ok (.sipush 255, 3) := by decide +kernel
theorem dJ2_getChar_3b067_41 : decode cJ2_getChar_3b067 41 = .ok (.iand, 1) := by decide +kernel
theorem dJ2_getChar_3b067_42 : decode cJ2_getChar_3b067 42 = .ok (.getstatic 59, 3) := by decide +kernel
theorem dJ2_getChar_3b067_45 : decode cJ2_getChar_3b067 45 = .ok (.ishl, 1) := by decide +kernel
theorem dJ2_getChar_3b067_46 : decode cJ2_getChar_3b067 46 = .ok (.aload_n 0, 1) := by decide +kernel
theorem dJ2_getChar_3b067_47 : decode cJ2_getChar_3b067 47 = .ok (.iload_n 1, 1) := by decide +kernel
theorem dJ2_getChar_3b067_48 : decode cJ2_getChar_3b067 48 = .ok (.baload, 1) := by decide +kernel
theorem dJ2_getChar_3b067_49 : decode cJ2_getChar_3b067 49 = .ok (.sipush 255, 3) := by decide +kernel
theorem dJ2_getChar_3b067_52 : decode cJ2_getChar_3b067 52 = .ok (.iand, 1) := by decide +kernel
theorem dJ2_getChar_3b067_53 : decode cJ2_getChar_3b067 53 = .ok (.getstatic 63, 3) := by decide +kernel
theorem dJ2_getChar_3b067_56 : decode cJ2_getChar_3b067 56 = .ok (.ishl, 1) := by decide +kernel
theorem dJ2_getChar_3b067_57 : decode cJ2_getChar_3b067 57 = .ok (.ior, 1) := by decide +kernel
theorem dJ2_getChar_3b067_58 : decode cJ2_getChar_3b067 58 = .ok (.i2c, 1) := by decide +kernel
theorem dJ2_getChar_3b067_59 : decode cJ2_getChar_3b067 59 = .ok (.ireturn, 1) := by decide +kernel
theorem dJ2_length_9d52b_0 : decode cJ2_length_9d52b 0 = .ok (.aload_n 0, 1) := by decide +kernel
theorem dJ2_length_9d52b_1 : decode cJ2_length_9d52b 1 = .ok (.arraylength, 1) := by decide +kernel
theorem dJ2_length_9d52b_2 : decode cJ2_length_9d52b 2 = .ok (.iconst 1, 1) := by decide +kernel
theorem dJ2_length_9d52b_3 : decode cJ2_length_9d52b 3 = .ok (.ishr, 1) := by decide +kernel
theorem dJ2_length_9d52b_4 : decode cJ2_length_9d52b 4 = .ok (.ireturn, 1) := by decide +kernel
theorem dJ2_charAt_3b067_0 : decode cJ2_charAt_3b067 0 = .ok (.iload_n 1, 1) := by decide +kernel
theorem dJ2_charAt_3b067_1 : decode cJ2_charAt_3b067 1 = .ok (.aload_n 0, 1) := by decide +kernel
theorem dJ2_charAt_3b067_2 : decode cJ2_charAt_3b067 2 = .ok (.invokestatic 67, 3) := by decide +kernel
theorem dJ2_charAt_3b067_5 : decode cJ2_charAt_3b067 5 = .ok (.aload_n 0, 1) := by decide +kernel
theorem dJ2_charAt_3b067_6 : decode cJ2_charAt_3b067 6 = .ok (.iload_n 1, 1) := by decide +kernel
theorem dJ2_charAt_3b067_7 : decode cJ2_charAt_3b067 7 = .ok (.invokestatic 71, 3) := by decide +kernel
theorem dJ2_charAt_3b067_10 : decode cJ2_charAt_3b067 10 = .ok (.ireturn, 1) := by decide +kernel
theorem dJ2_checkIndex_2214a_0 : decode cJ2_checkIndex_2214a 0 = .ok (.iload_n 0, 1) := by decide +kernel
theorem dJ2_checkIndex_2214a_1 : decode cJ2_checkIndex_2214a 1 = .ok (.aload_n 1, 1) := by decide +kernel
theorem dJ2_checkIndex_2214a_2 : decode cJ2_checkIndex_2214a 2 = .ok (.invokestatic 48, 3) := by decide +kernel
theorem dJ2_checkIndex_2214a_5 : decode cJ2_checkIndex_2214a 5 = .ok (.invokestatic 414, 3) := by decide +kernel
theorem dJ2_checkIndex_2214a_8 : decode cJ2_checkIndex_2214a 8 = .ok (.return_, 1) := by decide +kernel
theorem dJ7_fill_53178_0 : decode cJ7_fill_53178 0 = .ok (.iconst 0, 1) := by decide +kernel
theorem dJ7_fill_53178_1 : decode cJ7_fill_53178 1 = .ok (.istore_n 2, 1) := by decide +kernel
theorem dJ7_fill_53178_2 : decode cJ7_fill_53178 2 = .ok (.aload_n 0, 1) := by decide +kernel
theorem dJ7_fill_53178_3 : decode cJ7_fill_53178 3 = .ok (.arraylength, 1) := by decide +kernel
theorem dJ7_fill_53178_4 : decode cJ7_fill_53178 4 = .ok (.istore_n 3, 1) := by decide +kernel
theorem dJ7_fill_53178_5 : decode cJ7_fill_53178 5 = .ok (.iload_n 2, 1) := by decide +kernel
theorem dJ7_fill_53178_6 : decode cJ7_fill_53178 6 = .ok (.iload_n 3, 1) := by decide +kernel
theorem dJ7_fill_53178_7 : decode cJ7_fill_53178 7 = .ok (.if_icmp .ge 13, 3) := by decide +kernel
theorem dJ7_fill_53178_10 : decode cJ7_fill_53178 10 = .ok (.aload_n 0, 1) := by decide +kernel
theorem dJ7_fill_53178_11 : decode cJ7_fill_53178 11 = .ok (.iload_n 2, 1) := by decide +kernel
theorem dJ7_fill_53178_12 : decode cJ7_fill_53178 12 = .ok (.iload_n 1, 1) := by decide +kernel
theorem dJ7_fill_53178_13 : decode cJ7_fill_53178 13 = .ok (.iastore, 1) := by decide +kernel
theorem dJ7_fill_53178_14 : decode cJ7_fill_53178 14 = .ok (.iinc 2 1, 3) := by decide +kernel
theorem dJ7_fill_53178_17 : decode cJ7_fill_53178 17 = .ok (.goto (-12), 3) := by decide +kernel
theorem dJ7_fill_53178_20 : decode cJ7_fill_53178 20 = .ok (.return_, 1) := by decide +kernel
theorem dJ3_checkIndex_8e157_0 : decode cJ3_checkIndex_8e157 0 = .ok (.iload_n 0, 1) := by decide +kernel
theorem dJ3_checkIndex_8e157_1 : decode cJ3_checkIndex_8e157 1 = .ok (.ifCond .lt 8, 3) := by decide +kernel
theorem dJ3_checkIndex_8e157_4 : decode cJ3_checkIndex_8e157 4 = .ok (.iload_n 0, 1) := by decide +kernel
theorem dJ3_checkIndex_8e157_5 : decode cJ3_checkIndex_8e157 5 = .ok (.iload_n 1, 1) := by decide +kernel
theorem dJ3_checkIndex_8e157_6 : decode cJ3_checkIndex_8e157 6 = .ok (.if_icmp .lt 10, 3) := by decide +kernel
theorem dJ3_checkIndex_8e157_9 : decode cJ3_checkIndex_8e157 9 = .ok (.aload_n 2, 1) := by decide +kernel
theorem dJ3_checkIndex_8e157_10 : decode cJ3_checkIndex_8e157 10 = .ok (.iload_n 0, 1) := by decide +kernel
theorem dJ3_checkIndex_8e157_11 : decode cJ3_checkIndex_8e157 11 = .ok (.iload_n 1, 1) := by decide +kernel
theorem dJ3_checkIndex_8e157_12 : decode cJ3_checkIndex_8e157 12 = .ok (.invokestatic 95, 3) := by decide +kernel
theorem dJ3_checkIndex_8e157_15 : decode cJ3_checkIndex_8e157 15 = .ok (.athrow, 1) := by decide +kernel
theorem dJ3_checkIndex_8e157_16 : decode cJ3_checkIndex_8e157 16 = .ok (.iload_n 0, 1) := by decide +kernel
theorem dJ3_checkIndex_8e157_17 : decode cJ3_checkIndex_8e157 17 = .ok (.ireturn, 1) := by decide +kernel
theorem dL_law_0 : decode cL_law 0 = .ok (.new 7, 3) := by decide +kernel
theorem dL_law_3 : decode cL_law 3 = .ok (.dup, 1) := by decide +kernel
theorem dL_law_4 : decode cL_law 4 = .ok (.invokespecial 9, 3) := by decide +kernel
theorem dL_law_7 : decode cL_law 7 = .ok (.astore_n 1, 1) := by decide +kernel
theorem dL_law_8 : decode cL_law 8 = .ok (.new 10, 3) := by decide +kernel
theorem dL_law_11 : decode cL_law 11 = .ok (.dup, 1) := by decide +kernel
theorem dL_law_12 : decode cL_law 12 = .ok (.invokespecial 12, 3) := by decide +kernel
theorem dL_law_15 : decode cL_law 15 = .ok (.astore_n 2, 1) := by decide +kernel
theorem dL_law_16 : decode cL_law 16 = .ok (.iconst 0, 1) := by decide +kernel
theorem dL_law_17 : decode cL_law 17 = .ok (.istore_n 3, 1) := by decide +kernel
theorem dL_law_18 : decode cL_law 18 = .ok (.iload_n 3, 1) := by decide +kernel
theorem dL_law_19 : decode cL_law 19 = .ok (.aload_n 0, 1) := by decide +kernel
theorem dL_law_20 : decode cL_law 20 = .ok (.arraylength, 1) := by decide +kernel
theorem dL_law_21 : decode cL_law 21 = .ok (.iconst 5, 1) := by decide +kernel
theorem dL_law_22 : decode cL_law 22 = .ok (.isub, 1) := by decide +kernel
theorem dL_law_23 : decode cL_law 23 = .ok (.if_icmp .gt 1296, 3) := by decide +kernel
theorem dL_law_26 : decode cL_law 26 = .ok (.aload_n 0, 1) := by decide +kernel
theorem dL_law_27 : decode cL_law 27 = .ok (.iload_n 3, 1) := by decide +kernel
theorem dL_law_28 : decode cL_law 28 = .ok (.iaload, 1) := by decide +kernel
theorem dL_law_29 : decode cL_law 29 = .ok (.bipush 63, 2) := by decide +kernel
theorem dL_law_31 : decode cL_law 31 = .ok (.iand, 1) := by decide +kernel
theorem dL_law_32 : decode cL_law 32 = .ok (.tableswitch 1281 0 34 #[156, 219, 232, 245, 258, 281, 314, 347, 380, 403, 436, 479, 512, 555, 588, 641, 664, 707, 740, 783, 806, 829, 862, 895, 918, 951, 974, 1027, 1080, 1113, 1126, 1169, 1212, 1235, 1258], 156) := by decide +kernel
theorem dL_law_188 : decode cL_law 188 = .ok (.aload_n 1, 1) := by decide +kernel
theorem dL_law_189 : decode cL_law 189 = .ok (.aload_n 0, 1) := by decide +kernel
theorem dL_law_190 : decode cL_law 190 = .ok (.iload_n 3, 1) := by decide +kernel
theorem dL_law_191 : decode cL_law 191 = .ok (.iconst 1, 1) := by decide +kernel
theorem dL_law_192 : decode cL_law 192 = .ok (.iadd, 1) := by decide +kernel
theorem dL_law_193 : decode cL_law 193 = .ok (.iaload, 1) := by decide +kernel
theorem dL_law_194 : decode cL_law 194 = .ok (.aload_n 0, 1) := by decide +kernel
theorem dL_law_195 : decode cL_law 195 = .ok (.iload_n 3, 1) := by decide +kernel
theorem dL_law_196 : decode cL_law 196 = .ok (.iconst 2, 1) := by decide +kernel
theorem dL_law_197 : decode cL_law 197 = .ok (.iadd, 1) := by decide +kernel
theorem dL_law_198 : decode cL_law 198 = .ok (.iaload, 1) := by decide +kernel
theorem dL_law_199 : decode cL_law 199 = .ok (.i2l, 1) := by decide +kernel
theorem dL_law_200 : decode cL_law 200 = .ok (.bipush 32, 2) := by decide +kernel
theorem dL_law_202 : decode cL_law 202 = .ok (.lshl, 1) := by decide +kernel
theorem dL_law_203 : decode cL_law 203 = .ok (.aload_n 0, 1) := by decide +kernel
theorem dL_law_204 : decode cL_law 204 = .ok (.iload_n 3, 1) := by decide +kernel
theorem dL_law_205 : decode cL_law 205 = .ok (.iconst 3, 1) := by decide +kernel
theorem dL_law_206 : decode cL_law 206 = .ok (.iadd, 1) := by decide +kernel
theorem dL_law_207 : decode cL_law 207 = .ok (.iaload, 1) := by decide +kernel
theorem dL_law_208 : decode cL_law 208 = .ok (.i2l, 1) := by decide +kernel
theorem dL_law_209 : decode cL_law 209 = .ok (.ldc2_w 13, 3) := by decide +kernel
theorem dL_law_212 : decode cL_law 212 = .ok (.land, 1) := by decide +kernel
theorem dL_law_213 : decode cL_law 213 = .ok (.lor, 1) := by decide +kernel
theorem dL_law_214 : decode cL_law 214 = .ok (.invokevirtual 15, 3) := by decide +kernel
theorem dL_law_217 : decode cL_law 217 = .ok (.aload_n 2, 1) := by decide +kernel
theorem dL_law_218 : decode cL_law 218 = .ok (.aload_n 0, 1) := by decide +kernel
theorem dL_law_219 : decode cL_law 219 = .ok (.iload_n 3, 1) := by decide +kernel
theorem dL_law_220 : decode cL_law 220 = .ok (.iconst 1, 1) := by decide +kernel
theorem dL_law_221 : decode cL_law 221 = .ok (.iadd, 1) := by decide +kernel
theorem dL_law_222 : decode cL_law 222 = .ok (.iaload, 1) := by decide +kernel
theorem dL_law_223 : decode cL_law 223 = .ok (.aload_n 0, 1) := by decide +kernel
theorem dL_law_224 : decode cL_law 224 = .ok (.iload_n 3, 1) := by decide +kernel
theorem dL_law_225 : decode cL_law 225 = .ok (.iconst 2, 1) := by decide +kernel
theorem dL_law_226 : decode cL_law 226 = .ok (.iadd, 1) := by decide +kernel
theorem dL_law_227 : decode cL_law 227 = .ok (.iaload, 1) := by decide +kernel
theorem dL_law_228 : decode cL_law 228 = .ok (.i2l, 1) := by decide +kernel
theorem dL_law_229 : decode cL_law 229 = .ok (.bipush 32, 2) := by decide +kernel
theorem dL_law_231 : decode cL_law 231 = .ok (.lshl, 1) := by decide +kernel
theorem dL_law_232 : decode cL_law 232 = .ok (.aload_n 0, 1) := by decide +kernel
theorem dL_law_233 : decode cL_law 233 = .ok (.iload_n 3, 1) := by decide +kernel
theorem dL_law_234 : decode cL_law 234 = .ok (.iconst 3, 1) := by decide +kernel
theorem dL_law_235 : decode cL_law 235 = .ok (.iadd, 1) := by decide +kernel
theorem dL_law_236 : decode cL_law 236 = .ok (.iaload, 1) := by decide +kernel
theorem dL_law_237 : decode cL_law 237 = .ok (.i2l, 1) := by decide +kernel
theorem dL_law_238 : decode cL_law 238 = .ok (.ldc2_w 13, 3) := by decide +kernel
theorem dL_law_241 : decode cL_law 241 = .ok (.land, 1) := by decide +kernel
theorem dL_law_242 : decode cL_law 242 = .ok (.lor, 1) := by decide +kernel
theorem dL_law_243 : decode cL_law 243 = .ok (.invokevirtual 19, 3) := by decide +kernel
theorem dL_law_246 : decode cL_law 246 = .ok (.if_icmp .eq 1067, 3) := by decide +kernel
theorem dL_law_249 : decode cL_law 249 = .ok (.iconst 0, 1) := by decide +kernel
theorem dL_law_250 : decode cL_law 250 = .ok (.ireturn, 1) := by decide +kernel
theorem dL_law_251 : decode cL_law 251 = .ok (.aload_n 1, 1) := by decide +kernel
theorem dL_law_252 : decode cL_law 252 = .ok (.invokevirtual 20, 3) := by decide +kernel
theorem dL_law_255 : decode cL_law 255 = .ok (.aload_n 2, 1) := by decide +kernel
theorem dL_law_256 : decode cL_law 256 = .ok (.invokevirtual 24, 3) := by decide +kernel
theorem dL_law_259 : decode cL_law 259 = .ok (.if_icmp .eq 1054, 3) := by decide +kernel
theorem dL_law_262 : decode cL_law 262 = .ok (.iconst 0, 1) := by decide +kernel
theorem dL_law_263 : decode cL_law 263 = .ok (.ireturn, 1) := by decide +kernel
theorem dL_law_264 : decode cL_law 264 = .ok (.aload_n 1, 1) := by decide +kernel
theorem dL_law_265 : decode cL_law 265 = .ok (.invokevirtual 25, 3) := by decide +kernel
theorem dL_law_268 : decode cL_law 268 = .ok (.aload_n 2, 1) := by decide +kernel
theorem dL_law_269 : decode cL_law 269 = .ok (.invokevirtual 28, 3) := by decide +kernel
theorem dL_law_272 : decode cL_law 272 = .ok (.if_icmp .eq 1041, 3) := by decide +kernel
theorem dL_law_275 : decode cL_law 275 = .ok (.iconst 0, 1) := by decide +kernel
theorem dL_law_276 : decode cL_law 276 = .ok (.ireturn, 1) := by decide +kernel
theorem dL_law_277 : decode cL_law 277 = .ok (.aload_n 1, 1) := by decide +kernel
theorem dL_law_278 : decode cL_law 278 = .ok (.invokevirtual 29, 3) := by decide +kernel
theorem dL_law_281 : decode cL_law 281 = .ok (.aload_n 2, 1) := by decide +kernel
theorem dL_law_282 : decode cL_law 282 = .ok (.invokevirtual 32, 3) := by decide +kernel
theorem dL_law_285 : decode cL_law 285 = .ok (.if_icmp .eq 1028, 3) := by decide +kernel
theorem dL_law_288 : decode cL_law 288 = .ok (.iconst 0, 1) := by decide +kernel
theorem dL_law_289 : decode cL_law 289 = .ok (.ireturn, 1) := by decide +kernel
theorem dL_law_290 : decode cL_law 290 = .ok (.aload_n 1, 1) := by decide +kernel
theorem dL_law_291 : decode cL_law 291 = .ok (.aload_n 0, 1) := by decide +kernel
theorem dL_law_292 : decode cL_law 292 = .ok (.iload_n 3, 1) := by decide +kernel
theorem dL_law_293 : decode cL_law 293 = .ok (.iconst 1, 1) := by decide +kernel
theorem dL_law_294 : decode cL_law 294 = .ok (.iadd, 1) := by decide +kernel
theorem dL_law_295 : decode cL_law 295 = .ok (.iaload, 1) := by decide +kernel
theorem dL_law_296 : decode cL_law 296 = .ok (.invokevirtual 33, 3) := by decide +kernel
theorem dL_law_299 : decode cL_law 299 = .ok (.aload_n 2, 1) := by decide +kernel
theorem dL_law_300 : decode cL_law 300 = .ok (.aload_n 0, 1) := by decide +kernel
theorem dL_law_301 : decode cL_law 301 = .ok (.iload_n 3, 1) := by decide +kernel
theorem dL_law_302 : decode cL_law 302 = .ok (.iconst 1, 1) := by decide +kernel
theorem dL_law_303 : decode cL_law 303 = .ok (.iadd, 1) := by decide +kernel
theorem dL_law_304 : decode cL_law 304 = .ok (.iaload, 1) := by decide +kernel
theorem dL_law_305 : decode cL_law 305 = .ok (.invokevirtual 37, 3) := by decide +kernel
theorem dL_law_308 : decode cL_law 308 = .ok (.if_icmp .eq 1005, 3) := by decide +kernel
theorem dL_law_311 : decode cL_law 311 = .ok (.iconst 0, 1) := by decide +kernel
theorem dL_law_312 : decode cL_law 312 = .ok (.ireturn, 1) := by decide +kernel
theorem dL_law_313 : decode cL_law 313 = .ok (.aload_n 1, 1) := by decide +kernel
theorem dL_law_314 : decode cL_law 314 = .ok (.aload_n 0, 1) := by decide +kernel
theorem dL_law_315 : decode cL_law 315 = .ok (.iload_n 3, 1) := by decide +kernel
theorem dL_law_316 : decode cL_law 316 = .ok (.iconst 1, 1) := by decide +kernel
theorem dL_law_317 : decode cL_law 317 = .ok (.iadd, 1) := by decide +kernel
theorem dL_law_318 : decode cL_law 318 = .ok (.iaload, 1) := by decide +kernel
theorem dL_law_319 : decode cL_law 319 = .ok (.aload_n 0, 1) := by decide +kernel
theorem dL_law_320 : decode cL_law 320 = .ok (.iload_n 3, 1) := by decide +kernel
theorem dL_law_321 : decode cL_law 321 = .ok (.iconst 2, 1) := by decide +kernel
theorem dL_law_322 : decode cL_law 322 = .ok (.iadd, 1) := by decide +kernel
theorem dL_law_323 : decode cL_law 323 = .ok (.iaload, 1) := by decide +kernel
theorem dL_law_324 : decode cL_law 324 = .ok (.invokevirtual 38, 3) := by decide +kernel
theorem dL_law_327 : decode cL_law 327 = .ok (.aload_n 2, 1) := by decide +kernel
theorem dL_law_328 : decode cL_law 328 = .ok (.aload_n 0, 1) := by decide +kernel
theorem dL_law_329 : decode cL_law 329 = .ok (.iload_n 3, 1) := by decide +kernel
theorem dL_law_330 : decode cL_law 330 = .ok (.iconst 1, 1) := by decide +kernel
theorem dL_law_331 : decode cL_law 331 = .ok (.iadd, 1) := by decide +kernel
theorem dL_law_332 : decode cL_law 332 = .ok (.iaload, 1) := by decide +kernel
theorem dL_law_333 : decode cL_law 333 = .ok (.aload_n 0, 1) := by decide +kernel
theorem dL_law_334 : decode cL_law 334 = .ok (.iload_n 3, 1) := by decide +kernel
theorem dL_law_335 : decode cL_law 335 = .ok (.iconst 2, 1) := by decide +kernel
theorem dL_law_336 : decode cL_law 336 = .ok (.iadd, 1) := by decide +kernel
theorem dL_law_337 : decode cL_law 337 = .ok (.iaload, 1) := by decide +kernel
theorem dL_law_338 : decode cL_law 338 = .ok (.invokevirtual 42, 3) := by decide +kernel
theorem dL_law_341 : decode cL_law 341 = .ok (.if_icmp .eq 972, 3) := by decide +kernel
theorem dL_law_344 : decode cL_law 344 = .ok (.iconst 0, 1) := by decide +kernel
theorem dL_law_345 : decode cL_law 345 = .ok (.ireturn, 1) := by decide +kernel
theorem dL_law_346 : decode cL_law 346 = .ok (.aload_n 1, 1) := by decide +kernel
theorem dL_law_347 : decode cL_law 347 = .ok (.aload_n 0, 1) := by decide +kernel
theorem dL_law_348 : decode cL_law 348 = .ok (.iload_n 3, 1) := by decide +kernel
theorem dL_law_349 : decode cL_law 349 = .ok (.iconst 1, 1) := by decide +kernel
theorem dL_law_350 : decode cL_law 350 = .ok (.iadd, 1) := by decide +kernel
theorem dL_law_351 : decode cL_law 351 = .ok (.iaload, 1) := by decide +kernel
theorem dL_law_352 : decode cL_law 352 = .ok (.aload_n 0, 1) := by decide +kernel
theorem dL_law_353 : decode cL_law 353 = .ok (.iload_n 3, 1) := by decide +kernel
theorem dL_law_354 : decode cL_law 354 = .ok (.iconst 2, 1) := by decide +kernel
theorem dL_law_355 : decode cL_law 355 = .ok (.iadd, 1) := by decide +kernel
theorem dL_law_356 : decode cL_law 356 = .ok (.iaload, 1) := by decide +kernel
theorem dL_law_357 : decode cL_law 357 = .ok (.invokevirtual 43, 3) := by decide +kernel
theorem dL_law_360 : decode cL_law 360 = .ok (.aload_n 2, 1) := by decide +kernel
theorem dL_law_361 : decode cL_law 361 = .ok (.aload_n 0, 1) := by decide +kernel
theorem dL_law_362 : decode cL_law 362 = .ok (.iload_n 3, 1) := by decide +kernel
theorem dL_law_363 : decode cL_law 363 = .ok (.iconst 1, 1) := by decide +kernel
theorem dL_law_364 : decode cL_law 364 = .ok (.iadd, 1) := by decide +kernel
theorem dL_law_365 : decode cL_law 365 = .ok (.iaload, 1) := by decide +kernel
theorem dL_law_366 : decode cL_law 366 = .ok (.aload_n 0, 1) := by decide +kernel
theorem dL_law_367 : decode cL_law 367 = .ok (.iload_n 3, 1) := by decide +kernel
theorem dL_law_368 : decode cL_law 368 = .ok (.iconst 2, 1) := by decide +kernel
theorem dL_law_369 : decode cL_law 369 = .ok (.iadd, 1) := by decide +kernel
theorem dL_law_370 : decode cL_law 370 = .ok (.iaload, 1) := by decide +kernel
theorem dL_law_371 : decode cL_law 371 = .ok (.invokevirtual 46, 3) := by decide +kernel
theorem dL_law_374 : decode cL_law 374 = .ok (.if_icmp .eq 939, 3) := by decide +kernel
theorem dL_law_377 : decode cL_law 377 = .ok (.iconst 0, 1) := by decide +kernel
theorem dL_law_378 : decode cL_law 378 = .ok (.ireturn, 1) := by decide +kernel
theorem dL_law_379 : decode cL_law 379 = .ok (.aload_n 1, 1) := by decide +kernel
theorem dL_law_380 : decode cL_law 380 = .ok (.aload_n 0, 1) := by decide +kernel
theorem dL_law_381 : decode cL_law 381 = .ok (.iload_n 3, 1) := by decide +kernel
theorem dL_law_382 : decode cL_law 382 = .ok (.iconst 1, 1) := by decide +kernel
theorem dL_law_383 : decode cL_law 383 = .ok (.iadd, 1) := by decide +kernel
theorem dL_law_384 : decode cL_law 384 = .ok (.iaload, 1) := by decide +kernel
theorem dL_law_385 : decode cL_law 385 = .ok (.aload_n 0, 1) := by decide +kernel
theorem dL_law_386 : decode cL_law 386 = .ok (.iload_n 3, 1) := by decide +kernel
theorem dL_law_387 : decode cL_law 387 = .ok (.iconst 2, 1) := by decide +kernel
theorem dL_law_388 : decode cL_law 388 = .ok (.iadd, 1) := by decide +kernel
theorem dL_law_389 : decode cL_law 389 = .ok (.iaload, 1) := by decide +kernel
theorem dL_law_390 : decode cL_law 390 = .ok (.invokevirtual 47, 3) := by decide +kernel
theorem dL_law_393 : decode cL_law 393 = .ok (.aload_n 2, 1) := by decide +kernel
theorem dL_law_394 : decode cL_law 394 = .ok (.aload_n 0, 1) := by decide +kernel
theorem dL_law_395 : decode cL_law 395 = .ok (.iload_n 3, 1) := by decide +kernel
theorem dL_law_396 : decode cL_law 396 = .ok (.iconst 1, 1) := by decide +kernel
theorem dL_law_397 : decode cL_law 397 = .ok (.iadd, 1) := by decide +kernel
theorem dL_law_398 : decode cL_law 398 = .ok (.iaload, 1) := by decide +kernel
theorem dL_law_399 : decode cL_law 399 = .ok (.aload_n 0, 1) := by decide +kernel
theorem dL_law_400 : decode cL_law 400 = .ok (.iload_n 3, 1) := by decide +kernel
theorem dL_law_401 : decode cL_law 401 = .ok (.iconst 2, 1) := by decide +kernel
theorem dL_law_402 : decode cL_law 402 = .ok (.iadd, 1) := by decide +kernel
theorem dL_law_403 : decode cL_law 403 = .ok (.iaload, 1) := by decide +kernel
theorem dL_law_404 : decode cL_law 404 = .ok (.invokevirtual 50, 3) := by decide +kernel
theorem dL_law_407 : decode cL_law 407 = .ok (.if_icmp .eq 906, 3) := by decide +kernel
theorem dL_law_410 : decode cL_law 410 = .ok (.iconst 0, 1) := by decide +kernel
theorem dL_law_411 : decode cL_law 411 = .ok (.ireturn, 1) := by decide +kernel
theorem dL_law_412 : decode cL_law 412 = .ok (.aload_n 1, 1) := by decide +kernel
theorem dL_law_413 : decode cL_law 413 = .ok (.aload_n 0, 1) := by decide +kernel
theorem dL_law_414 : decode cL_law 414 = .ok (.iload_n 3, 1) := by decide +kernel
theorem dL_law_415 : decode cL_law 415 = .ok (.iconst 1, 1) := by decide +kernel
theorem dL_law_416 : decode cL_law 416 = .ok (.iadd, 1) := by decide +kernel
theorem dL_law_417 : decode cL_law 417 = .ok (.iaload, 1) := by decide +kernel
theorem dL_law_418 : decode cL_law 418 = .ok (.invokevirtual 51, 3) := by decide +kernel
theorem dL_law_421 : decode cL_law 421 = .ok (.aload_n 2, 1) := by decide +kernel
theorem dL_law_422 : decode cL_law 422 = .ok (.aload_n 0, 1) := by decide +kernel
theorem dL_law_423 : decode cL_law 423 = .ok (.iload_n 3, 1) := by decide +kernel
theorem dL_law_424 : decode cL_law 424 = .ok (.iconst 1, 1) := by decide +kernel
theorem dL_law_425 : decode cL_law 425 = .ok (.iadd, 1) := by decide +kernel
theorem dL_law_426 : decode cL_law 426 = .ok (.iaload, 1) := by decide +kernel
theorem dL_law_427 : decode cL_law 427 = .ok (.invokevirtual 54, 3) := by decide +kernel
theorem dL_law_430 : decode cL_law 430 = .ok (.if_icmp .eq 883, 3) := by decide +kernel
theorem dL_law_433 : decode cL_law 433 = .ok (.iconst 0, 1) := by decide +kernel
theorem dL_law_434 : decode cL_law 434 = .ok (.ireturn, 1) := by decide +kernel
theorem dL_law_435 : decode cL_law 435 = .ok (.aload_n 1, 1) := by decide +kernel
theorem dL_law_436 : decode cL_law 436 = .ok (.aload_n 0, 1) := by decide +kernel
theorem dL_law_437 : decode cL_law 437 = .ok (.iload_n 3, 1) := by decide +kernel
theorem dL_law_438 : decode cL_law 438 = .ok (.iconst 1, 1) := by decide +kernel
theorem dL_law_439 : decode cL_law 439 = .ok (.iadd, 1) := by decide +kernel
theorem dL_law_440 : decode cL_law 440 = .ok (.iaload, 1) := by decide +kernel
theorem dL_law_441 : decode cL_law 441 = .ok (.aload_n 0, 1) := by decide +kernel
theorem dL_law_442 : decode cL_law 442 = .ok (.iload_n 3, 1) := by decide +kernel
theorem dL_law_443 : decode cL_law 443 = .ok (.iconst 2, 1) := by decide +kernel
theorem dL_law_444 : decode cL_law 444 = .ok (.iadd, 1) := by decide +kernel
theorem dL_law_445 : decode cL_law 445 = .ok (.iaload, 1) := by decide +kernel
theorem dL_law_446 : decode cL_law 446 = .ok (.invokevirtual 55, 3) := by decide +kernel
theorem dL_law_449 : decode cL_law 449 = .ok (.aload_n 2, 1) := by decide +kernel
theorem dL_law_450 : decode cL_law 450 = .ok (.aload_n 0, 1) := by decide +kernel
theorem dL_law_451 : decode cL_law 451 = .ok (.iload_n 3, 1) := by decide +kernel
theorem dL_law_452 : decode cL_law 452 = .ok (.iconst 1, 1) := by decide +kernel
theorem dL_law_453 : decode cL_law 453 = .ok (.iadd, 1) := by decide +kernel
theorem dL_law_454 : decode cL_law 454 = .ok (.iaload, 1) := by decide +kernel
theorem dL_law_455 : decode cL_law 455 = .ok (.aload_n 0, 1) := by decide +kernel
theorem dL_law_456 : decode cL_law 456 = .ok (.iload_n 3, 1) := by decide +kernel
theorem dL_law_457 : decode cL_law 457 = .ok (.iconst 2, 1) := by decide +kernel
theorem dL_law_458 : decode cL_law 458 = .ok (.iadd, 1) := by decide +kernel
theorem dL_law_459 : decode cL_law 459 = .ok (.iaload, 1) := by decide +kernel
theorem dL_law_460 : decode cL_law 460 = .ok (.invokevirtual 58, 3) := by decide +kernel
theorem dL_law_463 : decode cL_law 463 = .ok (.if_icmp .eq 850, 3) := by decide +kernel
theorem dL_law_466 : decode cL_law 466 = .ok (.iconst 0, 1) := by decide +kernel
theorem dL_law_467 : decode cL_law 467 = .ok (.ireturn, 1) := by decide +kernel
theorem dL_law_468 : decode cL_law 468 = .ok (.aload_n 1, 1) := by decide +kernel
theorem dL_law_469 : decode cL_law 469 = .ok (.aload_n 0, 1) := by decide +kernel
theorem dL_law_470 : decode cL_law 470 = .ok (.iload_n 3, 1) := by decide +kernel
theorem dL_law_471 : decode cL_law 471 = .ok (.iconst 1, 1) := by decide +kernel
theorem dL_law_472 : decode cL_law 472 = .ok (.iadd, 1) := by decide +kernel
theorem dL_law_473 : decode cL_law 473 = .ok (.iaload, 1) := by decide +kernel
theorem dL_law_474 : decode cL_law 474 = .ok (.aload_n 0, 1) := by decide +kernel
theorem dL_law_475 : decode cL_law 475 = .ok (.iload_n 3, 1) := by decide +kernel
theorem dL_law_476 : decode cL_law 476 = .ok (.iconst 2, 1) := by decide +kernel
theorem dL_law_477 : decode cL_law 477 = .ok (.iadd, 1) := by decide +kernel
theorem dL_law_478 : decode cL_law 478 = .ok (.iaload, 1) := by decide +kernel
theorem dL_law_479 : decode cL_law 479 = .ok (.aload_n 0, 1) := by decide +kernel
theorem dL_law_480 : decode cL_law 480 = .ok (.iload_n 3, 1) := by decide +kernel
theorem dL_law_481 : decode cL_law 481 = .ok (.iconst 3, 1) := by decide +kernel
theorem dL_law_482 : decode cL_law 482 = .ok (.iadd, 1) := by decide +kernel
theorem dL_law_483 : decode cL_law 483 = .ok (.iaload, 1) := by decide +kernel
theorem dL_law_484 : decode cL_law 484 = .ok (.invokevirtual 59, 3) := by decide +kernel
theorem dL_law_487 : decode cL_law 487 = .ok (.aload_n 2, 1) := by decide +kernel
theorem dL_law_488 : decode cL_law 488 = .ok (.aload_n 0, 1) := by decide +kernel
theorem dL_law_489 : decode cL_law 489 = .ok (.iload_n 3, 1) := by decide +kernel
theorem dL_law_490 : decode cL_law 490 = .ok (.iconst 1, 1) := by decide +kernel
theorem dL_law_491 : decode cL_law 491 = .ok (.iadd, 1) := by decide +kernel
theorem dL_law_492 : decode cL_law 492 = .ok (.iaload, 1) := by decide +kernel
theorem dL_law_493 : decode cL_law 493 = .ok (.aload_n 0, 1) := by decide +kernel
theorem dL_law_494 : decode cL_law 494 = .ok (.iload_n 3, 1) := by decide +kernel
theorem dL_law_495 : decode cL_law 495 = .ok (.iconst 2, 1) := by decide +kernel
theorem dL_law_496 : decode cL_law 496 = .ok (.iadd, 1) := by decide +kernel
theorem dL_law_497 : decode cL_law 497 = .ok (.iaload, 1) := by decide +kernel
theorem dL_law_498 : decode cL_law 498 = .ok (.aload_n 0, 1) := by decide +kernel
theorem dL_law_499 : decode cL_law 499 = .ok (.iload_n 3, 1) := by decide +kernel
theorem dL_law_500 : decode cL_law 500 = .ok (.iconst 3, 1) := by decide +kernel
theorem dL_law_501 : decode cL_law 501 = .ok (.iadd, 1) := by decide +kernel
theorem dL_law_502 : decode cL_law 502 = .ok (.iaload, 1) := by decide +kernel
theorem dL_law_503 : decode cL_law 503 = .ok (.invokevirtual 63, 3) := by decide +kernel
theorem dL_law_506 : decode cL_law 506 = .ok (.if_icmp .eq 807, 3) := by decide +kernel
theorem dL_law_509 : decode cL_law 509 = .ok (.iconst 0, 1) := by decide +kernel
theorem dL_law_510 : decode cL_law 510 = .ok (.ireturn, 1) := by decide +kernel
theorem dL_law_511 : decode cL_law 511 = .ok (.aload_n 1, 1) := by decide +kernel
theorem dL_law_512 : decode cL_law 512 = .ok (.aload_n 0, 1) := by decide +kernel
theorem dL_law_513 : decode cL_law 513 = .ok (.iload_n 3, 1) := by decide +kernel
theorem dL_law_514 : decode cL_law 514 = .ok (.iconst 1, 1) := by decide +kernel
theorem dL_law_515 : decode cL_law 515 = .ok (.iadd, 1) := by decide +kernel
theorem dL_law_516 : decode cL_law 516 = .ok (.iaload, 1) := by decide +kernel
theorem dL_law_517 : decode cL_law 517 = .ok (.aload_n 0, 1) := by decide +kernel
theorem dL_law_518 : decode cL_law 518 = .ok (.iload_n 3, 1) := by decide +kernel
theorem dL_law_519 : decode cL_law 519 = .ok (.iconst 2, 1) := by decide +kernel
theorem dL_law_520 : decode cL_law 520 = .ok (.iadd, 1) := by decide +kernel
theorem dL_law_521 : decode cL_law 521 = .ok (.iaload, 1) := by decide +kernel
theorem dL_law_522 : decode cL_law 522 = .ok (.invokevirtual 64, 3) := by decide +kernel
theorem dL_law_525 : decode cL_law 525 = .ok (.aload_n 2, 1) := by decide +kernel
theorem dL_law_526 : decode cL_law 526 = .ok (.aload_n 0, 1) := by decide +kernel
theorem dL_law_527 : decode cL_law 527 = .ok (.iload_n 3, 1) := by decide +kernel
theorem dL_law_528 : decode cL_law 528 = .ok (.iconst 1, 1) := by decide +kernel
theorem dL_law_529 : decode cL_law 529 = .ok (.iadd, 1) := by decide +kernel
theorem dL_law_530 : decode cL_law 530 = .ok (.iaload, 1) := by decide +kernel
theorem dL_law_531 : decode cL_law 531 = .ok (.aload_n 0, 1) := by decide +kernel
theorem dL_law_532 : decode cL_law 532 = .ok (.iload_n 3, 1) := by decide +kernel
theorem dL_law_533 : decode cL_law 533 = .ok (.iconst 2, 1) := by decide +kernel
theorem dL_law_534 : decode cL_law 534 = .ok (.iadd, 1) := by decide +kernel
theorem dL_law_535 : decode cL_law 535 = .ok (.iaload, 1) := by decide +kernel
theorem dL_law_536 : decode cL_law 536 = .ok (.invokevirtual 67, 3) := by decide +kernel
theorem dL_law_539 : decode cL_law 539 = .ok (.if_icmp .eq 774, 3) := by decide +kernel
theorem dL_law_542 : decode cL_law 542 = .ok (.iconst 0, 1) := by decide +kernel
theorem dL_law_543 : decode cL_law 543 = .ok (.ireturn, 1) := by decide +kernel
theorem dL_law_544 : decode cL_law 544 = .ok (.aload_n 1, 1) := by decide +kernel
theorem dL_law_545 : decode cL_law 545 = .ok (.aload_n 0, 1) := by decide +kernel
theorem dL_law_546 : decode cL_law 546 = .ok (.iload_n 3, 1) := by decide +kernel
theorem dL_law_547 : decode cL_law 547 = .ok (.iconst 1, 1) := by decide +kernel
theorem dL_law_548 : decode cL_law 548 = .ok (.iadd, 1) := by decide +kernel
theorem dL_law_549 : decode cL_law 549 = .ok (.iaload, 1) := by decide +kernel
theorem dL_law_550 : decode cL_law 550 = .ok (.aload_n 0, 1) := by decide +kernel
theorem dL_law_551 : decode cL_law 551 = .ok (.iload_n 3, 1) := by decide +kernel
theorem dL_law_552 : decode cL_law 552 = .ok (.iconst 2, 1) := by decide +kernel
theorem dL_law_553 : decode cL_law 553 = .ok (.iadd, 1) := by decide +kernel
theorem dL_law_554 : decode cL_law 554 = .ok (.iaload, 1) := by decide +kernel
theorem dL_law_555 : decode cL_law 555 = .ok (.aload_n 0, 1) := by decide +kernel
theorem dL_law_556 : decode cL_law 556 = .ok (.iload_n 3, 1) := by decide +kernel
theorem dL_law_557 : decode cL_law 557 = .ok (.iconst 3, 1) := by decide +kernel
theorem dL_law_558 : decode cL_law 558 = .ok (.iadd, 1) := by decide +kernel
theorem dL_law_559 : decode cL_law 559 = .ok (.iaload, 1) := by decide +kernel
theorem dL_law_560 : decode cL_law 560 = .ok (.invokevirtual 68, 3) := by decide +kernel
theorem dL_law_563 : decode cL_law 563 = .ok (.aload_n 2, 1) := by decide +kernel
theorem dL_law_564 : decode cL_law 564 = .ok (.aload_n 0, 1) := by decide +kernel
theorem dL_law_565 : decode cL_law 565 = .ok (.iload_n 3, 1) := by decide +kernel
theorem dL_law_566 : decode cL_law 566 = .ok (.iconst 1, 1) := by decide +kernel
theorem dL_law_567 : decode cL_law 567 = .ok (.iadd, 1) := by decide +kernel
theorem dL_law_568 : decode cL_law 568 = .ok (.iaload, 1) := by decide +kernel
theorem dL_law_569 : decode cL_law 569 = .ok (.aload_n 0, 1) := by decide +kernel
theorem dL_law_570 : decode cL_law 570 = .ok (.iload_n 3, 1) := by decide +kernel
theorem dL_law_571 : decode cL_law 571 = .ok (.iconst 2, 1) := by decide +kernel
theorem dL_law_572 : decode cL_law 572 = .ok (.iadd, 1) := by decide +kernel
theorem dL_law_573 : decode cL_law 573 = .ok (.iaload, 1) := by decide +kernel
theorem dL_law_574 : decode cL_law 574 = .ok (.aload_n 0, 1) := by decide +kernel
theorem dL_law_575 : decode cL_law 575 = .ok (.iload_n 3, 1) := by decide +kernel
theorem dL_law_576 : decode cL_law 576 = .ok (.iconst 3, 1) := by decide +kernel
theorem dL_law_577 : decode cL_law 577 = .ok (.iadd, 1) := by decide +kernel
theorem dL_law_578 : decode cL_law 578 = .ok (.iaload, 1) := by decide +kernel
theorem dL_law_579 : decode cL_law 579 = .ok (.invokevirtual 71, 3) := by decide +kernel
theorem dL_law_582 : decode cL_law 582 = .ok (.if_icmp .eq 731, 3) := by decide +kernel
theorem dL_law_585 : decode cL_law 585 = .ok (.iconst 0, 1) := by decide +kernel
theorem dL_law_586 : decode cL_law 586 = .ok (.ireturn, 1) := by decide +kernel
theorem dL_law_587 : decode cL_law 587 = .ok (.aload_n 1, 1) := by decide +kernel
theorem dL_law_588 : decode cL_law 588 = .ok (.aload_n 0, 1) := by decide +kernel
theorem dL_law_589 : decode cL_law 589 = .ok (.iload_n 3, 1) := by decide +kernel
theorem dL_law_590 : decode cL_law 590 = .ok (.iconst 1, 1) := by decide +kernel
theorem dL_law_591 : decode cL_law 591 = .ok (.iadd, 1) := by decide +kernel
theorem dL_law_592 : decode cL_law 592 = .ok (.iaload, 1) := by decide +kernel
theorem dL_law_593 : decode cL_law 593 = .ok (.aload_n 0, 1) := by decide +kernel
theorem dL_law_594 : decode cL_law 594 = .ok (.iload_n 3, 1) := by decide +kernel
theorem dL_law_595 : decode cL_law 595 = .ok (.iconst 2, 1) := by decide +kernel
theorem dL_law_596 : decode cL_law 596 = .ok (.iadd, 1) := by decide +kernel
theorem dL_law_597 : decode cL_law 597 = .ok (.iaload, 1) := by decide +kernel
theorem dL_law_598 : decode cL_law 598 = .ok (.invokevirtual 72, 3) := by decide +kernel
theorem dL_law_601 : decode cL_law 601 = .ok (.aload_n 2, 1) := by decide +kernel
theorem dL_law_602 : decode cL_law 602 = .ok (.aload_n 0, 1) := by decide +kernel
theorem dL_law_603 : decode cL_law 603 = .ok (.iload_n 3, 1) := by decide +kernel
theorem dL_law_604 : decode cL_law 604 = .ok (.iconst 1, 1) := by decide +kernel
theorem dL_law_605 : decode cL_law 605 = .ok (.iadd, 1) := by decide +kernel
theorem dL_law_606 : decode cL_law 606 = .ok (.iaload, 1) := by decide +kernel
theorem dL_law_607 : decode cL_law 607 = .ok (.aload_n 0, 1) := by decide +kernel
theorem dL_law_608 : decode cL_law 608 = .ok (.iload_n 3, 1) := by decide +kernel
theorem dL_law_609 : decode cL_law 609 = .ok (.iconst 2, 1) := by decide +kernel
theorem dL_law_610 : decode cL_law 610 = .ok (.iadd, 1) := by decide +kernel
theorem dL_law_611 : decode cL_law 611 = .ok (.iaload, 1) := by decide +kernel
theorem dL_law_612 : decode cL_law 612 = .ok (.invokevirtual 75, 3) := by decide +kernel
theorem dL_law_615 : decode cL_law 615 = .ok (.if_icmp .eq 698, 3) := by decide +kernel
theorem dL_law_618 : decode cL_law 618 = .ok (.iconst 0, 1) := by decide +kernel
theorem dL_law_619 : decode cL_law 619 = .ok (.ireturn, 1) := by decide +kernel
theorem dL_law_620 : decode cL_law 620 = .ok (.aload_n 1, 1) := by decide +kernel
theorem dL_law_621 : decode cL_law 621 = .ok (.aload_n 0, 1) := by decide +kernel
theorem dL_law_622 : decode cL_law 622 = .ok (.iload_n 3, 1) := by decide +kernel
theorem dL_law_623 : decode cL_law 623 = .ok (.iconst 1, 1) := by decide +kernel
theorem dL_law_624 : decode cL_law 624 = .ok (.iadd, 1) := by decide +kernel
theorem dL_law_625 : decode cL_law 625 = .ok (.iaload, 1) := by decide +kernel
theorem dL_law_626 : decode cL_law 626 = .ok (.aload_n 0, 1) := by decide +kernel
theorem dL_law_627 : decode cL_law 627 = .ok (.iload_n 3, 1) := by decide +kernel
theorem dL_law_628 : decode cL_law 628 = .ok (.iconst 2, 1) := by decide +kernel
theorem dL_law_629 : decode cL_law 629 = .ok (.iadd, 1) := by decide +kernel
theorem dL_law_630 : decode cL_law 630 = .ok (.iaload, 1) := by decide +kernel
theorem dL_law_631 : decode cL_law 631 = .ok (.aload_n 0, 1) := by decide +kernel
theorem dL_law_632 : decode cL_law 632 = .ok (.iload_n 3, 1) := by decide +kernel
theorem dL_law_633 : decode cL_law 633 = .ok (.iconst 3, 1) := by decide +kernel
theorem dL_law_634 : decode cL_law 634 = .ok (.iadd, 1) := by decide +kernel
theorem dL_law_635 : decode cL_law 635 = .ok (.iaload, 1) := by decide +kernel
theorem dL_law_636 : decode cL_law 636 = .ok (.aload_n 0, 1) := by decide +kernel
theorem dL_law_637 : decode cL_law 637 = .ok (.iload_n 3, 1) := by decide +kernel
theorem dL_law_638 : decode cL_law 638 = .ok (.iconst 4, 1) := by decide +kernel
theorem dL_law_639 : decode cL_law 639 = .ok (.iadd, 1) := by decide +kernel
theorem dL_law_640 : decode cL_law 640 = .ok (.iaload, 1) := by decide +kernel
theorem dL_law_641 : decode cL_law 641 = .ok (.invokevirtual 76, 3) := by decide +kernel
theorem dL_law_644 : decode cL_law 644 = .ok (.aload_n 2, 1) := by decide +kernel
theorem dL_law_645 : decode cL_law 645 = .ok (.aload_n 0, 1) := by decide +kernel
theorem dL_law_646 : decode cL_law 646 = .ok (.iload_n 3, 1) := by decide +kernel
theorem dL_law_647 : decode cL_law 647 = .ok (.iconst 1, 1) := by decide +kernel
theorem dL_law_648 : decode cL_law 648 = .ok (.iadd, 1) := by decide +kernel
theorem dL_law_649 : decode cL_law 649 = .ok (.iaload, 1) := by decide +kernel
theorem dL_law_650 : decode cL_law 650 = .ok (.aload_n 0, 1) := by decide +kernel
theorem dL_law_651 : decode cL_law 651 = .ok (.iload_n 3, 1) := by decide +kernel
theorem dL_law_652 : decode cL_law 652 = .ok (.iconst 2, 1) := by decide +kernel
theorem dL_law_653 : decode cL_law 653 = .ok (.iadd, 1) := by decide +kernel
theorem dL_law_654 : decode cL_law 654 = .ok (.iaload, 1) := by decide +kernel
theorem dL_law_655 : decode cL_law 655 = .ok (.aload_n 0, 1) := by decide +kernel
theorem dL_law_656 : decode cL_law 656 = .ok (.iload_n 3, 1) := by decide +kernel
theorem dL_law_657 : decode cL_law 657 = .ok (.iconst 3, 1) := by decide +kernel
theorem dL_law_658 : decode cL_law 658 = .ok (.iadd, 1) := by decide +kernel
theorem dL_law_659 : decode cL_law 659 = .ok (.iaload, 1) := by decide +kernel
theorem dL_law_660 : decode cL_law 660 = .ok (.aload_n 0, 1) := by decide +kernel
theorem dL_law_661 : decode cL_law 661 = .ok (.iload_n 3, 1) := by decide +kernel
theorem dL_law_662 : decode cL_law 662 = .ok (.iconst 4, 1) := by decide +kernel
theorem dL_law_663 : decode cL_law 663 = .ok (.iadd, 1) := by decide +kernel
theorem dL_law_664 : decode cL_law 664 = .ok (.iaload, 1) := by decide +kernel
theorem dL_law_665 : decode cL_law 665 = .ok (.invokevirtual 80, 3) := by decide +kernel
theorem dL_law_668 : decode cL_law 668 = .ok (.if_icmp .eq 645, 3) := by decide +kernel
theorem dL_law_671 : decode cL_law 671 = .ok (.iconst 0, 1) := by decide +kernel
theorem dL_law_672 : decode cL_law 672 = .ok (.ireturn, 1) := by decide +kernel
theorem dL_law_673 : decode cL_law 673 = .ok (.aload_n 1, 1) := by decide +kernel
theorem dL_law_674 : decode cL_law 674 = .ok (.aload_n 0, 1) := by decide +kernel
theorem dL_law_675 : decode cL_law 675 = .ok (.iload_n 3, 1) := by decide +kernel
theorem dL_law_676 : decode cL_law 676 = .ok (.iconst 1, 1) := by decide +kernel
theorem dL_law_677 : decode cL_law 677 = .ok (.iadd, 1) := by decide +kernel
theorem dL_law_678 : decode cL_law 678 = .ok (.iaload, 1) := by decide +kernel
theorem dL_law_679 : decode cL_law 679 = .ok (.invokevirtual 81, 3) := by decide +kernel
theorem dL_law_682 : decode cL_law 682 = .ok (.aload_n 2, 1) := by decide +kernel
theorem dL_law_683 : decode cL_law 683 = .ok (.aload_n 0, 1) := by decide +kernel
theorem dL_law_684 : decode cL_law 684 = .ok (.iload_n 3, 1) := by decide +kernel
theorem dL_law_685 : decode cL_law 685 = .ok (.iconst 1, 1) := by decide +kernel
theorem dL_law_686 : decode cL_law 686 = .ok (.iadd, 1) := by decide +kernel
theorem dL_law_687 : decode cL_law 687 = .ok (.iaload, 1) := by decide +kernel
theorem dL_law_688 : decode cL_law 688 = .ok (.invokevirtual 84, 3) := by decide +kernel
theorem dL_law_691 : decode cL_law 691 = .ok (.if_icmp .eq 622, 3) := by decide +kernel
theorem dL_law_694 : decode cL_law 694 = .ok (.iconst 0, 1) := by decide +kernel
theorem dL_law_695 : decode cL_law 695 = .ok (.ireturn, 1) := by decide +kernel
theorem dL_law_696 : decode cL_law 696 = .ok (.aload_n 1, 1) := by decide +kernel
theorem dL_law_697 : decode cL_law 697 = .ok (.aload_n 0, 1) := by decide +kernel
theorem dL_law_698 : decode cL_law 698 = .ok (.iload_n 3, 1) := by decide +kernel
theorem dL_law_699 : decode cL_law 699 = .ok (.iconst 1, 1) := by decide +kernel
theorem dL_law_700 : decode cL_law 700 = .ok (.iadd, 1) := by decide +kernel
theorem dL_law_701 : decode cL_law 701 = .ok (.iaload, 1) := by decide +kernel
theorem dL_law_702 : decode cL_law 702 = .ok (.aload_n 0, 1) := by decide +kernel
theorem dL_law_703 : decode cL_law 703 = .ok (.iload_n 3, 1) := by decide +kernel
theorem dL_law_704 : decode cL_law 704 = .ok (.iconst 2, 1) := by decide +kernel
theorem dL_law_705 : decode cL_law 705 = .ok (.iadd, 1) := by decide +kernel
theorem dL_law_706 : decode cL_law 706 = .ok (.iaload, 1) := by decide +kernel
theorem dL_law_707 : decode cL_law 707 = .ok (.aload_n 0, 1) := by decide +kernel
theorem dL_law_708 : decode cL_law 708 = .ok (.iload_n 3, 1) := by decide +kernel
theorem dL_law_709 : decode cL_law 709 = .ok (.iconst 3, 1) := by decide +kernel
theorem dL_law_710 : decode cL_law 710 = .ok (.iadd, 1) := by decide +kernel
theorem dL_law_711 : decode cL_law 711 = .ok (.iaload, 1) := by decide +kernel
theorem dL_law_712 : decode cL_law 712 = .ok (.invokevirtual 85, 3) := by decide +kernel
theorem dL_law_715 : decode cL_law 715 = .ok (.aload_n 2, 1) := by decide +kernel
theorem dL_law_716 : decode cL_law 716 = .ok (.aload_n 0, 1) := by decide +kernel
theorem dL_law_717 : decode cL_law 717 = .ok (.iload_n 3, 1) := by decide +kernel
theorem dL_law_718 : decode cL_law 718 = .ok (.iconst 1, 1) := by decide +kernel
theorem dL_law_719 : decode cL_law 719 = .ok (.iadd, 1) := by decide +kernel
theorem dL_law_720 : decode cL_law 720 = .ok (.iaload, 1) := by decide +kernel
theorem dL_law_721 : decode cL_law 721 = .ok (.aload_n 0, 1) := by decide +kernel
theorem dL_law_722 : decode cL_law 722 = .ok (.iload_n 3, 1) := by decide +kernel
theorem dL_law_723 : decode cL_law 723 = .ok (.iconst 2, 1) := by decide +kernel
theorem dL_law_724 : decode cL_law 724 = .ok (.iadd, 1) := by decide +kernel
theorem dL_law_725 : decode cL_law 725 = .ok (.iaload, 1) := by decide +kernel
theorem dL_law_726 : decode cL_law 726 = .ok (.aload_n 0, 1) := by decide +kernel
theorem dL_law_727 : decode cL_law 727 = .ok (.iload_n 3, 1) := by decide +kernel
theorem dL_law_728 : decode cL_law 728 = .ok (.iconst 3, 1) := by decide +kernel
theorem dL_law_729 : decode cL_law 729 = .ok (.iadd, 1) := by decide +kernel
theorem dL_law_730 : decode cL_law 730 = .ok (.iaload, 1) := by decide +kernel
theorem dL_law_731 : decode cL_law 731 = .ok (.invokevirtual 88, 3) := by decide +kernel
theorem dL_law_734 : decode cL_law 734 = .ok (.if_icmp .eq 579, 3) := by decide +kernel
theorem dL_law_737 : decode cL_law 737 = .ok (.iconst 0, 1) := by decide +kernel
theorem dL_law_738 : decode cL_law 738 = .ok (.ireturn, 1) := by decide +kernel
theorem dL_law_739 : decode cL_law 739 = .ok (.aload_n 1, 1) := by decide +kernel
theorem dL_law_740 : decode cL_law 740 = .ok (.aload_n 0, 1) := by decide +kernel
theorem dL_law_741 : decode cL_law 741 = .ok (.iload_n 3, 1) := by decide +kernel
theorem dL_law_742 : decode cL_law 742 = .ok (.iconst 1, 1) := by decide +kernel
theorem dL_law_743 : decode cL_law 743 = .ok (.iadd, 1) := by decide +kernel
theorem dL_law_744 : decode cL_law 744 = .ok (.iaload, 1) := by decide +kernel
theorem dL_law_745 : decode cL_law 745 = .ok (.aload_n 0, 1) := by decide +kernel
theorem dL_law_746 : decode cL_law 746 = .ok (.iload_n 3, 1) := by decide +kernel
theorem dL_law_747 : decode cL_law 747 = .ok (.iconst 2, 1) := by decide +kernel
theorem dL_law_748 : decode cL_law 748 = .ok (.iadd, 1) := by decide +kernel
theorem dL_law_749 : decode cL_law 749 = .ok (.iaload, 1) := by decide +kernel
theorem dL_law_750 : decode cL_law 750 = .ok (.invokevirtual 89, 3) := by decide +kernel
theorem dL_law_753 : decode cL_law 753 = .ok (.aload_n 2, 1) := by decide +kernel
theorem dL_law_754 : decode cL_law 754 = .ok (.aload_n 0, 1) := by decide +kernel
theorem dL_law_755 : decode cL_law 755 = .ok (.iload_n 3, 1) := by decide +kernel
theorem dL_law_756 : decode cL_law 756 = .ok (.iconst 1, 1) := by decide +kernel
theorem dL_law_757 : decode cL_law 757 = .ok (.iadd, 1) := by decide +kernel
theorem dL_law_758 : decode cL_law 758 = .ok (.iaload, 1) := by decide +kernel
theorem dL_law_759 : decode cL_law 759 = .ok (.aload_n 0, 1) := by decide +kernel
theorem dL_law_760 : decode cL_law 760 = .ok (.iload_n 3, 1) := by decide +kernel
theorem dL_law_761 : decode cL_law 761 = .ok (.iconst 2, 1) := by decide +kernel
theorem dL_law_762 : decode cL_law 762 = .ok (.iadd, 1) := by decide +kernel
theorem dL_law_763 : decode cL_law 763 = .ok (.iaload, 1) := by decide +kernel
theorem dL_law_764 : decode cL_law 764 = .ok (.invokevirtual 92, 3) := by decide +kernel
theorem dL_law_767 : decode cL_law 767 = .ok (.if_icmp .eq 546, 3) := by decide +kernel
theorem dL_law_770 : decode cL_law 770 = .ok (.iconst 0, 1) := by decide +kernel
theorem dL_law_771 : decode cL_law 771 = .ok (.ireturn, 1) := by decide +kernel
theorem dL_law_772 : decode cL_law 772 = .ok (.aload_n 1, 1) := by decide +kernel
theorem dL_law_773 : decode cL_law 773 = .ok (.aload_n 0, 1) := by decide +kernel
theorem dL_law_774 : decode cL_law 774 = .ok (.iload_n 3, 1) := by decide +kernel
theorem dL_law_775 : decode cL_law 775 = .ok (.iconst 1, 1) := by decide +kernel
theorem dL_law_776 : decode cL_law 776 = .ok (.iadd, 1) := by decide +kernel
theorem dL_law_777 : decode cL_law 777 = .ok (.iaload, 1) := by decide +kernel
theorem dL_law_778 : decode cL_law 778 = .ok (.aload_n 0, 1) := by decide +kernel
theorem dL_law_779 : decode cL_law 779 = .ok (.iload_n 3, 1) := by decide +kernel
theorem dL_law_780 : decode cL_law 780 = .ok (.iconst 2, 1) := by decide +kernel
theorem dL_law_781 : decode cL_law 781 = .ok (.iadd, 1) := by decide +kernel
theorem dL_law_782 : decode cL_law 782 = .ok (.iaload, 1) := by decide +kernel
theorem dL_law_783 : decode cL_law 783 = .ok (.aload_n 0, 1) := by decide +kernel
theorem dL_law_784 : decode cL_law 784 = .ok (.iload_n 3, 1) := by decide +kernel
theorem dL_law_785 : decode cL_law 785 = .ok (.iconst 3, 1) := by decide +kernel
theorem dL_law_786 : decode cL_law 786 = .ok (.iadd, 1) := by decide +kernel
theorem dL_law_787 : decode cL_law 787 = .ok (.iaload, 1) := by decide +kernel
theorem dL_law_788 : decode cL_law 788 = .ok (.invokevirtual 93, 3) := by decide +kernel
theorem dL_law_791 : decode cL_law 791 = .ok (.aload_n 2, 1) := by decide +kernel
theorem dL_law_792 : decode cL_law 792 = .ok (.aload_n 0, 1) := by decide +kernel
theorem dL_law_793 : decode cL_law 793 = .ok (.iload_n 3, 1) := by decide +kernel
theorem dL_law_794 : decode cL_law 794 = .ok (.iconst 1, 1) := by decide +kernel
theorem dL_law_795 : decode cL_law 795 = .ok (.iadd, 1) := by decide +kernel
theorem dL_law_796 : decode cL_law 796 = .ok (.iaload, 1) := by decide +kernel
theorem dL_law_797 : decode cL_law 797 = .ok (.aload_n 0, 1) := by decide +kernel
theorem dL_law_798 : decode cL_law 798 = .ok (.iload_n 3, 1) := by decide +kernel
theorem dL_law_799 : decode cL_law 799 = .ok (.iconst 2, 1) := by decide +kernel
theorem dL_law_800 : decode cL_law 800 = .ok (.iadd, 1) := by decide +kernel
theorem dL_law_801 : decode cL_law 801 = .ok (.iaload, 1) := by decide +kernel
theorem dL_law_802 : decode cL_law 802 = .ok (.aload_n 0, 1) := by decide +kernel
theorem dL_law_803 : decode cL_law 803 = .ok (.iload_n 3, 1) := by decide +kernel
theorem dL_law_804 : decode cL_law 804 = .ok (.iconst 3, 1) := by decide +kernel
theorem dL_law_805 : decode cL_law 805 = .ok (.iadd, 1) := by decide +kernel
theorem dL_law_806 : decode cL_law 806 = .ok (.iaload, 1) := by decide +kernel
theorem dL_law_807 : decode cL_law 807 = .ok (.invokevirtual 96, 3) := by decide +kernel
theorem dL_law_810 : decode cL_law 810 = .ok (.if_icmp .eq 503, 3) := by decide +kernel
theorem dL_law_813 : decode cL_law 813 = .ok (.iconst 0, 1) := by decide +kernel
theorem dL_law_814 : decode cL_law 814 = .ok (.ireturn, 1) := by decide +kernel
theorem dL_law_815 : decode cL_law 815 = .ok (.aload_n 1, 1) := by decide +kernel
theorem dL_law_816 : decode cL_law 816 = .ok (.aload_n 0, 1) := by decide +kernel
theorem dL_law_817 : decode cL_law 817 = .ok (.iload_n 3, 1) := by decide +kernel
theorem dL_law_818 : decode cL_law 818 = .ok (.iconst 1, 1) := by decide +kernel
theorem dL_law_819 : decode cL_law 819 = .ok (.iadd, 1) := by decide +kernel
theorem dL_law_820 : decode cL_law 820 = .ok (.iaload, 1) := by decide +kernel
theorem dL_law_821 : decode cL_law 821 = .ok (.invokevirtual 97, 3) := by decide +kernel
theorem dL_law_824 : decode cL_law 824 = .ok (.aload_n 2, 1) := by decide +kernel
theorem dL_law_825 : decode cL_law 825 = .ok (.aload_n 0, 1) := by decide +kernel
theorem dL_law_826 : decode cL_law 826 = .ok (.iload_n 3, 1) := by decide +kernel
theorem dL_law_827 : decode cL_law 827 = .ok (.iconst 1, 1) := by decide +kernel
theorem dL_law_828 : decode cL_law 828 = .ok (.iadd, 1) := by decide +kernel
theorem dL_law_829 : decode cL_law 829 = .ok (.iaload, 1) := by decide +kernel
theorem dL_law_830 : decode cL_law 830 = .ok (.invokevirtual 100, 3) := by decide +kernel
theorem dL_law_833 : decode cL_law 833 = .ok (.if_icmp .eq 480, 3) := by decide +kernel
theorem dL_law_836 : decode cL_law 836 = .ok (.iconst 0, 1) := by decide +kernel
theorem dL_law_837 : decode cL_law 837 = .ok (.ireturn, 1) := by decide +kernel
theorem dL_law_838 : decode cL_law 838 = .ok (.aload_n 1, 1) := by decide +kernel
theorem dL_law_839 : decode cL_law 839 = .ok (.aload_n 0, 1) := by decide +kernel
theorem dL_law_840 : decode cL_law 840 = .ok (.iload_n 3, 1) := by decide +kernel
theorem dL_law_841 : decode cL_law 841 = .ok (.iconst 1, 1) := by decide +kernel
theorem dL_law_842 : decode cL_law 842 = .ok (.iadd, 1) := by decide +kernel
theorem dL_law_843 : decode cL_law 843 = .ok (.iaload, 1) := by decide +kernel
theorem dL_law_844 : decode cL_law 844 = .ok (.invokevirtual 101, 3) := by decide +kernel
theorem dL_law_847 : decode cL_law 847 = .ok (.aload_n 2, 1) := by decide +kernel
theorem dL_law_848 : decode cL_law 848 = .ok (.aload_n 0, 1) := by decide +kernel
theorem dL_law_849 : decode cL_law 849 = .ok (.iload_n 3, 1) := by decide +kernel
theorem dL_law_850 : decode cL_law 850 = .ok (.iconst 1, 1) := by decide +kernel
theorem dL_law_851 : decode cL_law 851 = .ok (.iadd, 1) := by decide +kernel
theorem dL_law_852 : decode cL_law 852 = .ok (.iaload, 1) := by decide +kernel
theorem dL_law_853 : decode cL_law 853 = .ok (.invokevirtual 104, 3) := by decide +kernel
theorem dL_law_856 : decode cL_law 856 = .ok (.if_icmp .eq 457, 3) := by decide +kernel
theorem dL_law_859 : decode cL_law 859 = .ok (.iconst 0, 1) := by decide +kernel
theorem dL_law_860 : decode cL_law 860 = .ok (.ireturn, 1) := by decide +kernel
theorem dL_law_861 : decode cL_law 861 = .ok (.aload_n 1, 1) := by decide +kernel
theorem dL_law_862 : decode cL_law 862 = .ok (.aload_n 0, 1) := by decide +kernel
theorem dL_law_863 : decode cL_law 863 = .ok (.iload_n 3, 1) := by decide +kernel
theorem dL_law_864 : decode cL_law 864 = .ok (.iconst 1, 1) := by decide +kernel
theorem dL_law_865 : decode cL_law 865 = .ok (.iadd, 1) := by decide +kernel
theorem dL_law_866 : decode cL_law 866 = .ok (.iaload, 1) := by decide +kernel
theorem dL_law_867 : decode cL_law 867 = .ok (.aload_n 0, 1) := by decide +kernel
theorem dL_law_868 : decode cL_law 868 = .ok (.iload_n 3, 1) := by decide +kernel
theorem dL_law_869 : decode cL_law 869 = .ok (.iconst 2, 1) := by decide +kernel
theorem dL_law_870 : decode cL_law 870 = .ok (.iadd, 1) := by decide +kernel
theorem dL_law_871 : decode cL_law 871 = .ok (.iaload, 1) := by decide +kernel
theorem dL_law_872 : decode cL_law 872 = .ok (.invokevirtual 105, 3) := by decide +kernel
theorem dL_law_875 : decode cL_law 875 = .ok (.aload_n 2, 1) := by decide +kernel
theorem dL_law_876 : decode cL_law 876 = .ok (.aload_n 0, 1) := by decide +kernel
theorem dL_law_877 : decode cL_law 877 = .ok (.iload_n 3, 1) := by decide +kernel
theorem dL_law_878 : decode cL_law 878 = .ok (.iconst 1, 1) := by decide +kernel
theorem dL_law_879 : decode cL_law 879 = .ok (.iadd, 1) := by decide +kernel
theorem dL_law_880 : decode cL_law 880 = .ok (.iaload, 1) := by decide +kernel
theorem dL_law_881 : decode cL_law 881 = .ok (.aload_n 0, 1) := by decide +kernel
theorem dL_law_882 : decode cL_law 882 = .ok (.iload_n 3, 1) := by decide +kernel
theorem dL_law_883 : decode cL_law 883 = .ok (.iconst 2, 1) := by decide +kernel
theorem dL_law_884 : decode cL_law 884 = .ok (.iadd, 1) := by decide +kernel
theorem dL_law_885 : decode cL_law 885 = .ok (.iaload, 1) := by decide +kernel
theorem dL_law_886 : decode cL_law 886 = .ok (.invokevirtual 108, 3) := by decide +kernel
theorem dL_law_889 : decode cL_law 889 = .ok (.if_icmp .eq 424, 3) := by decide +kernel
theorem dL_law_892 : decode cL_law 892 = .ok (.iconst 0, 1) := by decide +kernel
theorem dL_law_893 : decode cL_law 893 = .ok (.ireturn, 1) := by decide +kernel
theorem dL_law_894 : decode cL_law 894 = .ok (.aload_n 1, 1) := by decide +kernel
theorem dL_law_895 : decode cL_law 895 = .ok (.aload_n 0, 1) := by decide +kernel
theorem dL_law_896 : decode cL_law 896 = .ok (.iload_n 3, 1) := by decide +kernel
theorem dL_law_897 : decode cL_law 897 = .ok (.iconst 1, 1) := by decide +kernel
theorem dL_law_898 : decode cL_law 898 = .ok (.iadd, 1) := by decide +kernel
theorem dL_law_899 : decode cL_law 899 = .ok (.iaload, 1) := by decide +kernel
theorem dL_law_900 : decode cL_law 900 = .ok (.aload_n 0, 1) := by decide +kernel
theorem dL_law_901 : decode cL_law 901 = .ok (.iload_n 3, 1) := by decide +kernel
theorem dL_law_902 : decode cL_law 902 = .ok (.iconst 2, 1) := by decide +kernel
theorem dL_law_903 : decode cL_law 903 = .ok (.iadd, 1) := by decide +kernel
theorem dL_law_904 : decode cL_law 904 = .ok (.iaload, 1) := by decide +kernel
theorem dL_law_905 : decode cL_law 905 = .ok (.invokevirtual 109, 3) := by decide +kernel
theorem dL_law_908 : decode cL_law 908 = .ok (.aload_n 2, 1) := by decide +kernel
theorem dL_law_909 : decode cL_law 909 = .ok (.aload_n 0, 1) := by decide +kernel
theorem dL_law_910 : decode cL_law 910 = .ok (.iload_n 3, 1) := by decide +kernel
theorem dL_law_911 : decode cL_law 911 = .ok (.iconst 1, 1) := by decide +kernel
theorem dL_law_912 : decode cL_law 912 = .ok (.iadd, 1) := by decide +kernel
theorem dL_law_913 : decode cL_law 913 = .ok (.iaload, 1) := by decide +kernel
theorem dL_law_914 : decode cL_law 914 = .ok (.aload_n 0, 1) := by decide +kernel
theorem dL_law_915 : decode cL_law 915 = .ok (.iload_n 3, 1) := by decide +kernel
theorem dL_law_916 : decode cL_law 916 = .ok (.iconst 2, 1) := by decide +kernel
theorem dL_law_917 : decode cL_law 917 = .ok (.iadd, 1) := by decide +kernel
theorem dL_law_918 : decode cL_law 918 = .ok (.iaload, 1) := by decide +kernel
theorem dL_law_919 : decode cL_law 919 = .ok (.invokevirtual 112, 3) := by decide +kernel
theorem dL_law_922 : decode cL_law 922 = .ok (.if_icmp .eq 391, 3) := by decide +kernel
theorem dL_law_925 : decode cL_law 925 = .ok (.iconst 0, 1) := by decide +kernel
theorem dL_law_926 : decode cL_law 926 = .ok (.ireturn, 1) := by decide +kernel
theorem dL_law_927 : decode cL_law 927 = .ok (.aload_n 1, 1) := by decide +kernel
theorem dL_law_928 : decode cL_law 928 = .ok (.aload_n 0, 1) := by decide +kernel
theorem dL_law_929 : decode cL_law 929 = .ok (.iload_n 3, 1) := by decide +kernel
theorem dL_law_930 : decode cL_law 930 = .ok (.iconst 1, 1) := by decide +kernel
theorem dL_law_931 : decode cL_law 931 = .ok (.iadd, 1) := by decide +kernel
theorem dL_law_932 : decode cL_law 932 = .ok (.iaload, 1) := by decide +kernel
theorem dL_law_933 : decode cL_law 933 = .ok (.invokevirtual 113, 3) := by decide +kernel
theorem dL_law_936 : decode cL_law 936 = .ok (.aload_n 2, 1) := by decide +kernel
theorem dL_law_937 : decode cL_law 937 = .ok (.aload_n 0, 1) := by decide +kernel
theorem dL_law_938 : decode cL_law 938 = .ok (.iload_n 3, 1) := by decide +kernel
theorem dL_law_939 : decode cL_law 939 = .ok (.iconst 1, 1) := by decide +kernel
theorem dL_law_940 : decode cL_law 940 = .ok (.iadd, 1) := by decide +kernel
theorem dL_law_941 : decode cL_law 941 = .ok (.iaload, 1) := by decide +kernel
theorem dL_law_942 : decode cL_law 942 = .ok (.invokevirtual 116, 3) := by decide +kernel
theorem dL_law_945 : decode cL_law 945 = .ok (.if_icmp .eq 368, 3) := by decide +kernel
theorem dL_law_948 : decode cL_law 948 = .ok (.iconst 0, 1) := by decide +kernel
theorem dL_law_949 : decode cL_law 949 = .ok (.ireturn, 1) := by decide +kernel
theorem dL_law_950 : decode cL_law 950 = .ok (.aload_n 1, 1) := by decide +kernel
theorem dL_law_951 : decode cL_law 951 = .ok (.aload_n 0, 1) := by decide +kernel
theorem dL_law_952 : decode cL_law 952 = .ok (.iload_n 3, 1) := by decide +kernel
theorem dL_law_953 : decode cL_law 953 = .ok (.iconst 1, 1) := by decide +kernel
theorem dL_law_954 : decode cL_law 954 = .ok (.iadd, 1) := by decide +kernel
theorem dL_law_955 : decode cL_law 955 = .ok (.iaload, 1) := by decide +kernel
theorem dL_law_956 : decode cL_law 956 = .ok (.aload_n 0, 1) := by decide +kernel
theorem dL_law_957 : decode cL_law 957 = .ok (.iload_n 3, 1) := by decide +kernel
theorem dL_law_958 : decode cL_law 958 = .ok (.iconst 2, 1) := by decide +kernel
theorem dL_law_959 : decode cL_law 959 = .ok (.iadd, 1) := by decide +kernel
theorem dL_law_960 : decode cL_law 960 = .ok (.iaload, 1) := by decide +kernel
theorem dL_law_961 : decode cL_law 961 = .ok (.invokevirtual 117, 3) := by decide +kernel
theorem dL_law_964 : decode cL_law 964 = .ok (.aload_n 2, 1) := by decide +kernel
theorem dL_law_965 : decode cL_law 965 = .ok (.aload_n 0, 1) := by decide +kernel
theorem dL_law_966 : decode cL_law 966 = .ok (.iload_n 3, 1) := by decide +kernel
theorem dL_law_967 : decode cL_law 967 = .ok (.iconst 1, 1) := by decide +kernel
theorem dL_law_968 : decode cL_law 968 = .ok (.iadd, 1) := by decide +kernel
theorem dL_law_969 : decode cL_law 969 = .ok (.iaload, 1) := by decide +kernel
theorem dL_law_970 : decode cL_law 970 = .ok (.aload_n 0, 1) := by decide +kernel
theorem dL_law_971 : decode cL_law 971 = .ok (.iload_n 3, 1) := by decide +kernel
theorem dL_law_972 : decode cL_law 972 = .ok (.iconst 2, 1) := by decide +kernel
theorem dL_law_973 : decode cL_law 973 = .ok (.iadd, 1) := by decide +kernel
theorem dL_law_974 : decode cL_law 974 = .ok (.iaload, 1) := by decide +kernel
theorem dL_law_975 : decode cL_law 975 = .ok (.invokevirtual 120, 3) := by decide +kernel
theorem dL_law_978 : decode cL_law 978 = .ok (.if_icmp .eq 335, 3) := by decide +kernel
theorem dL_law_981 : decode cL_law 981 = .ok (.iconst 0, 1) := by decide +kernel
theorem dL_law_982 : decode cL_law 982 = .ok (.ireturn, 1) := by decide +kernel
theorem dL_law_983 : decode cL_law 983 = .ok (.aload_n 1, 1) := by decide +kernel
theorem dL_law_984 : decode cL_law 984 = .ok (.aload_n 0, 1) := by decide +kernel
theorem dL_law_985 : decode cL_law 985 = .ok (.iload_n 3, 1) := by decide +kernel
theorem dL_law_986 : decode cL_law 986 = .ok (.iconst 1, 1) := by decide +kernel
theorem dL_law_987 : decode cL_law 987 = .ok (.iadd, 1) := by decide +kernel
theorem dL_law_988 : decode cL_law 988 = .ok (.iaload, 1) := by decide +kernel
theorem dL_law_989 : decode cL_law 989 = .ok (.invokevirtual 121, 3) := by decide +kernel
theorem dL_law_992 : decode cL_law 992 = .ok (.aload_n 2, 1) := by decide +kernel
theorem dL_law_993 : decode cL_law 993 = .ok (.aload_n 0, 1) := by decide +kernel
theorem dL_law_994 : decode cL_law 994 = .ok (.iload_n 3, 1) := by decide +kernel
theorem dL_law_995 : decode cL_law 995 = .ok (.iconst 1, 1) := by decide +kernel
theorem dL_law_996 : decode cL_law 996 = .ok (.iadd, 1) := by decide +kernel
theorem dL_law_997 : decode cL_law 997 = .ok (.iaload, 1) := by decide +kernel
theorem dL_law_998 : decode cL_law 998 = .ok (.invokevirtual 124, 3) := by decide +kernel
theorem dL_law_1001 : decode cL_law 1001 = .ok (.if_icmp .eq 312, 3) := by decide +kernel
theorem dL_law_1004 : decode cL_law 1004 = .ok (.iconst 0, 1) := by decide +kernel
theorem dL_law_1005 : decode cL_law 1005 = .ok (.ireturn, 1) := by decide +kernel
theorem dL_law_1006 : decode cL_law 1006 = .ok (.aload_n 1, 1) := by decide +kernel
theorem dL_law_1007 : decode cL_law 1007 = .ok (.aload_n 0, 1) := by decide +kernel
theorem dL_law_1008 : decode cL_law 1008 = .ok (.iload_n 3, 1) := by decide +kernel
theorem dL_law_1009 : decode cL_law 1009 = .ok (.iconst 1, 1) := by decide +kernel
theorem dL_law_1010 : decode cL_law 1010 = .ok (.iadd, 1) := by decide +kernel
theorem dL_law_1011 : decode cL_law 1011 = .ok (.iaload, 1) := by decide +kernel
theorem dL_law_1012 : decode cL_law 1012 = .ok (.aload_n 0, 1) := by decide +kernel
theorem dL_law_1013 : decode cL_law 1013 = .ok (.iload_n 3, 1) := by decide +kernel
theorem dL_law_1014 : decode cL_law 1014 = .ok (.iconst 2, 1) := by decide +kernel
theorem dL_law_1015 : decode cL_law 1015 = .ok (.iadd, 1) := by decide +kernel
theorem dL_law_1016 : decode cL_law 1016 = .ok (.iaload, 1) := by decide +kernel
theorem dL_law_1017 : decode cL_law 1017 = .ok (.aload_n 0, 1) := by decide +kernel
theorem dL_law_1018 : decode cL_law 1018 = .ok (.iload_n 3, 1) := by decide +kernel
theorem dL_law_1019 : decode cL_law 1019 = .ok (.iconst 3, 1) := by decide +kernel
theorem dL_law_1020 : decode cL_law 1020 = .ok (.iadd, 1) := by decide +kernel
theorem dL_law_1021 : decode cL_law 1021 = .ok (.iaload, 1) := by decide +kernel
theorem dL_law_1022 : decode cL_law 1022 = .ok (.aload_n 0, 1) := by decide +kernel
theorem dL_law_1023 : decode cL_law 1023 = .ok (.iload_n 3, 1) := by decide +kernel
theorem dL_law_1024 : decode cL_law 1024 = .ok (.iconst 4, 1) := by decide +kernel
theorem dL_law_1025 : decode cL_law 1025 = .ok (.iadd, 1) := by decide +kernel
theorem dL_law_1026 : decode cL_law 1026 = .ok (.iaload, 1) := by decide +kernel
theorem dL_law_1027 : decode cL_law 1027 = .ok (.invokevirtual 125, 3) := by decide +kernel
theorem dL_law_1030 : decode cL_law 1030 = .ok (.aload_n 2, 1) := by decide +kernel
theorem dL_law_1031 : decode cL_law 1031 = .ok (.aload_n 0, 1) := by decide +kernel
theorem dL_law_1032 : decode cL_law 1032 = .ok (.iload_n 3, 1) := by decide +kernel
theorem dL_law_1033 : decode cL_law 1033 = .ok (.iconst 1, 1) := by decide +kernel
theorem dL_law_1034 : decode cL_law 1034 = .ok (.iadd, 1) := by decide +kernel
theorem dL_law_1035 : decode cL_law 1035 = .ok (.iaload, 1) := by decide +kernel
theorem dL_law_1036 : decode cL_law 1036 = .ok (.aload_n 0, 1) := by decide +kernel
theorem dL_law_1037 : decode cL_law 1037 = .ok (.iload_n 3, 1) := by decide +kernel
theorem dL_law_1038 : decode cL_law 1038 = .ok (.iconst 2, 1) := by decide +kernel
theorem dL_law_1039 : decode cL_law 1039 = .ok (.iadd, 1) := by decide +kernel
theorem dL_law_1040 : decode cL_law 1040 = .ok (.iaload, 1) := by decide +kernel
theorem dL_law_1041 : decode cL_law 1041 = .ok (.aload_n 0, 1) := by decide +kernel
theorem dL_law_1042 : decode cL_law 1042 = .ok (.iload_n 3, 1) := by decide +kernel
theorem dL_law_1043 : decode cL_law 1043 = .ok (.iconst 3, 1) := by decide +kernel
theorem dL_law_1044 : decode cL_law 1044 = .ok (.iadd, 1) := by decide +kernel
theorem dL_law_1045 : decode cL_law 1045 = .ok (.iaload, 1) := by decide +kernel
theorem dL_law_1046 : decode cL_law 1046 = .ok (.aload_n 0, 1) := by decide +kernel
theorem dL_law_1047 : decode cL_law 1047 = .ok (.iload_n 3, 1) := by decide +kernel
theorem dL_law_1048 : decode cL_law 1048 = .ok (.iconst 4, 1) := by decide +kernel
theorem dL_law_1049 : decode cL_law 1049 = .ok (.iadd, 1) := by decide +kernel
theorem dL_law_1050 : decode cL_law 1050 = .ok (.iaload, 1) := by decide +kernel
theorem dL_law_1051 : decode cL_law 1051 = .ok (.invokevirtual 128, 3) := by decide +kernel
theorem dL_law_1054 : decode cL_law 1054 = .ok (.if_icmp .eq 259, 3) := by decide +kernel
theorem dL_law_1057 : decode cL_law 1057 = .ok (.iconst 0, 1) := by decide +kernel
theorem dL_law_1058 : decode cL_law 1058 = .ok (.ireturn, 1) := by decide +kernel
theorem dL_law_1059 : decode cL_law 1059 = .ok (.aload_n 1, 1) := by decide +kernel
theorem dL_law_1060 : decode cL_law 1060 = .ok (.aload_n 0, 1) := by decide +kernel
theorem dL_law_1061 : decode cL_law 1061 = .ok (.iload_n 3, 1) := by decide +kernel
theorem dL_law_1062 : decode cL_law 1062 = .ok (.iconst 1, 1) := by decide +kernel
theorem dL_law_1063 : decode cL_law 1063 = .ok (.iadd, 1) := by decide +kernel
theorem dL_law_1064 : decode cL_law 1064 = .ok (.iaload, 1) := by decide +kernel
theorem dL_law_1065 : decode cL_law 1065 = .ok (.aload_n 0, 1) := by decide +kernel
theorem dL_law_1066 : decode cL_law 1066 = .ok (.iload_n 3, 1) := by decide +kernel
theorem dL_law_1067 : decode cL_law 1067 = .ok (.iconst 2, 1) := by decide +kernel
theorem dL_law_1068 : decode cL_law 1068 = .ok (.iadd, 1) := by decide +kernel
theorem dL_law_1069 : decode cL_law 1069 = .ok (.iaload, 1) := by decide +kernel
theorem dL_law_1070 : decode cL_law 1070 = .ok (.aload_n 0, 1) := by decide +kernel
theorem dL_law_1071 : decode cL_law 1071 = .ok (.iload_n 3, 1) := by decide +kernel
theorem dL_law_1072 : decode cL_law 1072 = .ok (.iconst 3, 1) := by decide +kernel
theorem dL_law_1073 : decode cL_law 1073 = .ok (.iadd, 1) := by decide +kernel
theorem dL_law_1074 : decode cL_law 1074 = .ok (.iaload, 1) := by decide +kernel
theorem dL_law_1075 : decode cL_law 1075 = .ok (.aload_n 0, 1) := by decide +kernel
theorem dL_law_1076 : decode cL_law 1076 = .ok (.iload_n 3, 1) := by decide +kernel
theorem dL_law_1077 : decode cL_law 1077 = .ok (.iconst 4, 1) := by decide +kernel
theorem dL_law_1078 : decode cL_law 1078 = .ok (.iadd, 1) := by decide +kernel
theorem dL_law_1079 : decode cL_law 1079 = .ok (.iaload, 1) := by decide +kernel
theorem dL_law_1080 : decode cL_law 1080 = .ok (.invokevirtual 129, 3) := by decide +kernel
theorem dL_law_1083 : decode cL_law 1083 = .ok (.aload_n 2, 1) := by decide +kernel
theorem dL_law_1084 : decode cL_law 1084 = .ok (.aload_n 0, 1) := by decide +kernel
theorem dL_law_1085 : decode cL_law 1085 = .ok (.iload_n 3, 1) := by decide +kernel
theorem dL_law_1086 : decode cL_law 1086 = .ok (.iconst 1, 1) := by decide +kernel
theorem dL_law_1087 : decode cL_law 1087 = .ok (.iadd, 1) := by decide +kernel
theorem dL_law_1088 : decode cL_law 1088 = .ok (.iaload, 1) := by decide +kernel
theorem dL_law_1089 : decode cL_law 1089 = .ok (.aload_n 0, 1) := by decide +kernel
theorem dL_law_1090 : decode cL_law 1090 = .ok (.iload_n 3, 1) := by decide +kernel
theorem dL_law_1091 : decode cL_law 1091 = .ok (.iconst 2, 1) := by decide +kernel
theorem dL_law_1092 : decode cL_law 1092 = .ok (.iadd, 1) := by decide +kernel
theorem dL_law_1093 : decode cL_law 1093 = .ok (.iaload, 1) := by decide +kernel
theorem dL_law_1094 : decode cL_law 1094 = .ok (.aload_n 0, 1) := by decide +kernel
theorem dL_law_1095 : decode cL_law 1095 = .ok (.iload_n 3, 1) := by decide +kernel
theorem dL_law_1096 : decode cL_law 1096 = .ok (.iconst 3, 1) := by decide +kernel
theorem dL_law_1097 : decode cL_law 1097 = .ok (.iadd, 1) := by decide +kernel
theorem dL_law_1098 : decode cL_law 1098 = .ok (.iaload, 1) := by decide +kernel
theorem dL_law_1099 : decode cL_law 1099 = .ok (.aload_n 0, 1) := by decide +kernel
theorem dL_law_1100 : decode cL_law 1100 = .ok (.iload_n 3, 1) := by decide +kernel
theorem dL_law_1101 : decode cL_law 1101 = .ok (.iconst 4, 1) := by decide +kernel
theorem dL_law_1102 : decode cL_law 1102 = .ok (.iadd, 1) := by decide +kernel
theorem dL_law_1103 : decode cL_law 1103 = .ok (.iaload, 1) := by decide +kernel
theorem dL_law_1104 : decode cL_law 1104 = .ok (.invokevirtual 132, 3) := by decide +kernel
theorem dL_law_1107 : decode cL_law 1107 = .ok (.if_icmp .eq 206, 3) := by decide +kernel
theorem dL_law_1110 : decode cL_law 1110 = .ok (.iconst 0, 1) := by decide +kernel
theorem dL_law_1111 : decode cL_law 1111 = .ok (.ireturn, 1) := by decide +kernel
theorem dL_law_1112 : decode cL_law 1112 = .ok (.aload_n 1, 1) := by decide +kernel
theorem dL_law_1113 : decode cL_law 1113 = .ok (.aload_n 0, 1) := by decide +kernel
theorem dL_law_1114 : decode cL_law 1114 = .ok (.iload_n 3, 1) := by decide +kernel
theorem dL_law_1115 : decode cL_law 1115 = .ok (.iconst 1, 1) := by decide +kernel
theorem dL_law_1116 : decode cL_law 1116 = .ok (.iadd, 1) := by decide +kernel
theorem dL_law_1117 : decode cL_law 1117 = .ok (.iaload, 1) := by decide +kernel
theorem dL_law_1118 : decode cL_law 1118 = .ok (.aload_n 0, 1) := by decide +kernel
theorem dL_law_1119 : decode cL_law 1119 = .ok (.iload_n 3, 1) := by decide +kernel
theorem dL_law_1120 : decode cL_law 1120 = .ok (.iconst 2, 1) := by decide +kernel
theorem dL_law_1121 : decode cL_law 1121 = .ok (.iadd, 1) := by decide +kernel
theorem dL_law_1122 : decode cL_law 1122 = .ok (.iaload, 1) := by decide +kernel
theorem dL_law_1123 : decode cL_law 1123 = .ok (.invokevirtual 133, 3) := by decide +kernel
theorem dL_law_1126 : decode cL_law 1126 = .ok (.aload_n 2, 1) := by decide +kernel
theorem dL_law_1127 : decode cL_law 1127 = .ok (.aload_n 0, 1) := by decide +kernel
theorem dL_law_1128 : decode cL_law 1128 = .ok (.iload_n 3, 1) := by decide +kernel
theorem dL_law_1129 : decode cL_law 1129 = .ok (.iconst 1, 1) := by decide +kernel
theorem dL_law_1130 : decode cL_law 1130 = .ok (.iadd, 1) := by decide +kernel
theorem dL_law_1131 : decode cL_law 1131 = .ok (.iaload, 1) := by decide +kernel
theorem dL_law_1132 : decode cL_law 1132 = .ok (.aload_n 0, 1) := by decide +kernel
theorem dL_law_1133 : decode cL_law 1133 = .ok (.iload_n 3, 1) := by decide +kernel
theorem dL_law_1134 : decode cL_law 1134 = .ok (.iconst 2, 1) := by decide +kernel
theorem dL_law_1135 : decode cL_law 1135 = .ok (.iadd, 1) := by decide +kernel
theorem dL_law_1136 : decode cL_law 1136 = .ok (.iaload, 1) := by decide +kernel
theorem dL_law_1137 : decode cL_law 1137 = .ok (.invokevirtual 136, 3) := by decide +kernel
theorem dL_law_1140 : decode cL_law 1140 = .ok (.if_icmp .eq 173, 3) := by decide +kernel
theorem dL_law_1143 : decode cL_law 1143 = .ok (.iconst 0, 1) := by decide +kernel
theorem dL_law_1144 : decode cL_law 1144 = .ok (.ireturn, 1) := by decide +kernel
theorem dL_law_1145 : decode cL_law 1145 = .ok (.aload_n 1, 1) := by decide +kernel
theorem dL_law_1146 : decode cL_law 1146 = .ok (.invokevirtual 137, 3) := by decide +kernel
theorem dL_law_1149 : decode cL_law 1149 = .ok (.aload_n 2, 1) := by decide +kernel
theorem dL_law_1150 : decode cL_law 1150 = .ok (.invokevirtual 140, 3) := by decide +kernel
theorem dL_law_1153 : decode cL_law 1153 = .ok (.if_icmp .eq 160, 3) := by decide +kernel
theorem dL_law_1156 : decode cL_law 1156 = .ok (.iconst 0, 1) := by decide +kernel
theorem dL_law_1157 : decode cL_law 1157 = .ok (.ireturn, 1) := by decide +kernel
theorem dL_law_1158 : decode cL_law 1158 = .ok (.aload_n 1, 1) := by decide +kernel
theorem dL_law_1159 : decode cL_law 1159 = .ok (.aload_n 0, 1) := by decide +kernel
theorem dL_law_1160 : decode cL_law 1160 = .ok (.iload_n 3, 1) := by decide +kernel
theorem dL_law_1161 : decode cL_law 1161 = .ok (.iconst 1, 1) := by decide +kernel
theorem dL_law_1162 : decode cL_law 1162 = .ok (.iadd, 1) := by decide +kernel
theorem dL_law_1163 : decode cL_law 1163 = .ok (.iaload, 1) := by decide +kernel
theorem dL_law_1164 : decode cL_law 1164 = .ok (.aload_n 0, 1) := by decide +kernel
theorem dL_law_1165 : decode cL_law 1165 = .ok (.iload_n 3, 1) := by decide +kernel
theorem dL_law_1166 : decode cL_law 1166 = .ok (.iconst 2, 1) := by decide +kernel
theorem dL_law_1167 : decode cL_law 1167 = .ok (.iadd, 1) := by decide +kernel
theorem dL_law_1168 : decode cL_law 1168 = .ok (.iaload, 1) := by decide +kernel
theorem dL_law_1169 : decode cL_law 1169 = .ok (.aload_n 0, 1) := by decide +kernel
theorem dL_law_1170 : decode cL_law 1170 = .ok (.iload_n 3, 1) := by decide +kernel
theorem dL_law_1171 : decode cL_law 1171 = .ok (.iconst 3, 1) := by decide +kernel
theorem dL_law_1172 : decode cL_law 1172 = .ok (.iadd, 1) := by decide +kernel
theorem dL_law_1173 : decode cL_law 1173 = .ok (.iaload, 1) := by decide +kernel
theorem dL_law_1174 : decode cL_law 1174 = .ok (.invokevirtual 141, 3) := by decide +kernel
theorem dL_law_1177 : decode cL_law 1177 = .ok (.aload_n 2, 1) := by decide +kernel
theorem dL_law_1178 : decode cL_law 1178 = .ok (.aload_n 0, 1) := by decide +kernel
theorem dL_law_1179 : decode cL_law 1179 = .ok (.iload_n 3, 1) := by decide +kernel
theorem dL_law_1180 : decode cL_law 1180 = .ok (.iconst 1, 1) := by decide +kernel
theorem dL_law_1181 : decode cL_law 1181 = .ok (.iadd, 1) := by decide +kernel
theorem dL_law_1182 : decode cL_law 1182 = .ok (.iaload, 1) := by decide +kernel
theorem dL_law_1183 : decode cL_law 1183 = .ok (.aload_n 0, 1) := by decide +kernel
theorem dL_law_1184 : decode cL_law 1184 = .ok (.iload_n 3, 1) := by decide +kernel
theorem dL_law_1185 : decode cL_law 1185 = .ok (.iconst 2, 1) := by decide +kernel
theorem dL_law_1186 : decode cL_law 1186 = .ok (.iadd, 1) := by decide +kernel
theorem dL_law_1187 : decode cL_law 1187 = .ok (.iaload, 1) := by decide +kernel
theorem dL_law_1188 : decode cL_law 1188 = .ok (.aload_n 0, 1) := by decide +kernel
theorem dL_law_1189 : decode cL_law 1189 = .ok (.iload_n 3, 1) := by decide +kernel
theorem dL_law_1190 : decode cL_law 1190 = .ok (.iconst 3, 1) := by decide +kernel
theorem dL_law_1191 : decode cL_law 1191 = .ok (.iadd, 1) := by decide +kernel
theorem dL_law_1192 : decode cL_law 1192 = .ok (.iaload, 1) := by decide +kernel
theorem dL_law_1193 : decode cL_law 1193 = .ok (.invokevirtual 144, 3) := by decide +kernel
theorem dL_law_1196 : decode cL_law 1196 = .ok (.if_icmp .eq 117, 3) := by decide +kernel
theorem dL_law_1199 : decode cL_law 1199 = .ok (.iconst 0, 1) := by decide +kernel
theorem dL_law_1200 : decode cL_law 1200 = .ok (.ireturn, 1) := by decide +kernel
theorem dL_law_1201 : decode cL_law 1201 = .ok (.aload_n 1, 1) := by decide +kernel
theorem dL_law_1202 : decode cL_law 1202 = .ok (.aload_n 0, 1) := by decide +kernel
theorem dL_law_1203 : decode cL_law 1203 = .ok (.iload_n 3, 1) := by decide +kernel
theorem dL_law_1204 : decode cL_law 1204 = .ok (.iconst 1, 1) := by decide +kernel
theorem dL_law_1205 : decode cL_law 1205 = .ok (.iadd, 1) := by decide +kernel
theorem dL_law_1206 : decode cL_law 1206 = .ok (.iaload, 1) := by decide +kernel
theorem dL_law_1207 : decode cL_law 1207 = .ok (.aload_n 0, 1) := by decide +kernel
theorem dL_law_1208 : decode cL_law 1208 = .ok (.iload_n 3, 1) := by decide +kernel
theorem dL_law_1209 : decode cL_law 1209 = .ok (.iconst 2, 1) := by decide +kernel
theorem dL_law_1210 : decode cL_law 1210 = .ok (.iadd, 1) := by decide +kernel
theorem dL_law_1211 : decode cL_law 1211 = .ok (.iaload, 1) := by decide +kernel
theorem dL_law_1212 : decode cL_law 1212 = .ok (.aload_n 0, 1) := by decide +kernel
theorem dL_law_1213 : decode cL_law 1213 = .ok (.iload_n 3, 1) := by decide +kernel
theorem dL_law_1214 : decode cL_law 1214 = .ok (.iconst 3, 1) := by decide +kernel
theorem dL_law_1215 : decode cL_law 1215 = .ok (.iadd, 1) := by decide +kernel
theorem dL_law_1216 : decode cL_law 1216 = .ok (.iaload, 1) := by decide +kernel
theorem dL_law_1217 : decode cL_law 1217 = .ok (.invokevirtual 145, 3) := by decide +kernel
theorem dL_law_1220 : decode cL_law 1220 = .ok (.aload_n 2, 1) := by decide +kernel
theorem dL_law_1221 : decode cL_law 1221 = .ok (.aload_n 0, 1) := by decide +kernel
theorem dL_law_1222 : decode cL_law 1222 = .ok (.iload_n 3, 1) := by decide +kernel
theorem dL_law_1223 : decode cL_law 1223 = .ok (.iconst 1, 1) := by decide +kernel
theorem dL_law_1224 : decode cL_law 1224 = .ok (.iadd, 1) := by decide +kernel
theorem dL_law_1225 : decode cL_law 1225 = .ok (.iaload, 1) := by decide +kernel
theorem dL_law_1226 : decode cL_law 1226 = .ok (.aload_n 0, 1) := by decide +kernel
theorem dL_law_1227 : decode cL_law 1227 = .ok (.iload_n 3, 1) := by decide +kernel
theorem dL_law_1228 : decode cL_law 1228 = .ok (.iconst 2, 1) := by decide +kernel
theorem dL_law_1229 : decode cL_law 1229 = .ok (.iadd, 1) := by decide +kernel
theorem dL_law_1230 : decode cL_law 1230 = .ok (.iaload, 1) := by decide +kernel
theorem dL_law_1231 : decode cL_law 1231 = .ok (.aload_n 0, 1) := by decide +kernel
theorem dL_law_1232 : decode cL_law 1232 = .ok (.iload_n 3, 1) := by decide +kernel
theorem dL_law_1233 : decode cL_law 1233 = .ok (.iconst 3, 1) := by decide +kernel
theorem dL_law_1234 : decode cL_law 1234 = .ok (.iadd, 1) := by decide +kernel
theorem dL_law_1235 : decode cL_law 1235 = .ok (.iaload, 1) := by decide +kernel
theorem dL_law_1236 : decode cL_law 1236 = .ok (.invokevirtual 148, 3) := by decide +kernel
theorem dL_law_1239 : decode cL_law 1239 = .ok (.if_icmp .eq 74, 3) := by decide +kernel
theorem dL_law_1242 : decode cL_law 1242 = .ok (.iconst 0, 1) := by decide +kernel
theorem dL_law_1243 : decode cL_law 1243 = .ok (.ireturn, 1) := by decide +kernel
theorem dL_law_1244 : decode cL_law 1244 = .ok (.aload_n 1, 1) := by decide +kernel
theorem dL_law_1245 : decode cL_law 1245 = .ok (.aload_n 0, 1) := by decide +kernel
theorem dL_law_1246 : decode cL_law 1246 = .ok (.iload_n 3, 1) := by decide +kernel
theorem dL_law_1247 : decode cL_law 1247 = .ok (.iconst 1, 1) := by decide +kernel
theorem dL_law_1248 : decode cL_law 1248 = .ok (.iadd, 1) := by decide +kernel
theorem dL_law_1249 : decode cL_law 1249 = .ok (.iaload, 1) := by decide +kernel
theorem dL_law_1250 : decode cL_law 1250 = .ok (.invokevirtual 149, 3) := by decide +kernel
theorem dL_law_1253 : decode cL_law 1253 = .ok (.aload_n 2, 1) := by decide +kernel
theorem dL_law_1254 : decode cL_law 1254 = .ok (.aload_n 0, 1) := by decide +kernel
theorem dL_law_1255 : decode cL_law 1255 = .ok (.iload_n 3, 1) := by decide +kernel
theorem dL_law_1256 : decode cL_law 1256 = .ok (.iconst 1, 1) := by decide +kernel
theorem dL_law_1257 : decode cL_law 1257 = .ok (.iadd, 1) := by decide +kernel
theorem dL_law_1258 : decode cL_law 1258 = .ok (.iaload, 1) := by decide +kernel
theorem dL_law_1259 : decode cL_law 1259 = .ok (.invokevirtual 152, 3) := by decide +kernel
theorem dL_law_1262 : decode cL_law 1262 = .ok (.if_icmp .eq 51, 3) := by decide +kernel
theorem dL_law_1265 : decode cL_law 1265 = .ok (.iconst 0, 1) := by decide +kernel
theorem dL_law_1266 : decode cL_law 1266 = .ok (.ireturn, 1) := by decide +kernel
theorem dL_law_1267 : decode cL_law 1267 = .ok (.aload_n 1, 1) := by decide +kernel
theorem dL_law_1268 : decode cL_law 1268 = .ok (.aload_n 0, 1) := by decide +kernel
theorem dL_law_1269 : decode cL_law 1269 = .ok (.iload_n 3, 1) := by decide +kernel
theorem dL_law_1270 : decode cL_law 1270 = .ok (.iconst 1, 1) := by decide +kernel
theorem dL_law_1271 : decode cL_law 1271 = .ok (.iadd, 1) := by decide +kernel
theorem dL_law_1272 : decode cL_law 1272 = .ok (.iaload, 1) := by decide +kernel
theorem dL_law_1273 : decode cL_law 1273 = .ok (.invokevirtual 153, 3) := by decide +kernel
theorem dL_law_1276 : decode cL_law 1276 = .ok (.aload_n 2, 1) := by decide +kernel
theorem dL_law_1277 : decode cL_law 1277 = .ok (.aload_n 0, 1) := by decide +kernel
theorem dL_law_1278 : decode cL_law 1278 = .ok (.iload_n 3, 1) := by decide +kernel
theorem dL_law_1279 : decode cL_law 1279 = .ok (.iconst 1, 1) := by decide +kernel
theorem dL_law_1280 : decode cL_law 1280 = .ok (.iadd, 1) := by decide +kernel
theorem dL_law_1281 : decode cL_law 1281 = .ok (.iaload, 1) := by decide +kernel
theorem dL_law_1282 : decode cL_law 1282 = .ok (.invokevirtual 156, 3) := by decide +kernel
theorem dL_law_1285 : decode cL_law 1285 = .ok (.if_icmp .eq 28, 3) := by decide +kernel
theorem dL_law_1288 : decode cL_law 1288 = .ok (.iconst 0, 1) := by decide +kernel
theorem dL_law_1289 : decode cL_law 1289 = .ok (.ireturn, 1) := by decide +kernel
theorem dL_law_1290 : decode cL_law 1290 = .ok (.aload_n 1, 1) := by decide +kernel
theorem dL_law_1291 : decode cL_law 1291 = .ok (.aload_n 0, 1) := by decide +kernel
theorem dL_law_1292 : decode cL_law 1292 = .ok (.iload_n 3, 1) := by decide +kernel
theorem dL_law_1293 : decode cL_law 1293 = .ok (.iconst 1, 1) := by decide +kernel
theorem dL_law_1294 : decode cL_law 1294 = .ok (.iadd, 1) := by decide +kernel
theorem dL_law_1295 : decode cL_law 1295 = .ok (.iaload, 1) := by decide +kernel
theorem dL_law_1296 : decode cL_law 1296 = .ok (.invokevirtual 157, 3) := by decide +kernel
theorem dL_law_1299 : decode cL_law 1299 = .ok (.aload_n 2, 1) := by decide +kernel
theorem dL_law_1300 : decode cL_law 1300 = .ok (.aload_n 0, 1) := by decide +kernel
theorem dL_law_1301 : decode cL_law 1301 = .ok (.iload_n 3, 1) := by decide +kernel
theorem dL_law_1302 : decode cL_law 1302 = .ok (.iconst 1, 1) := by decide +kernel
theorem dL_law_1303 : decode cL_law 1303 = .ok (.iadd, 1) := by decide +kernel
theorem dL_law_1304 : decode cL_law 1304 = .ok (.iaload, 1) := by decide +kernel
theorem dL_law_1305 : decode cL_law 1305 = .ok (.invokevirtual 160, 3) := by decide +kernel
theorem dL_law_1308 : decode cL_law 1308 = .ok (.if_icmp .eq 5, 3) := by decide +kernel
theorem dL_law_1311 : decode cL_law 1311 = .ok (.iconst 0, 1) := by decide +kernel
theorem dL_law_1312 : decode cL_law 1312 = .ok (.ireturn, 1) := by decide +kernel
theorem dL_law_1313 : decode cL_law 1313 = .ok (.iinc 3 5, 3) := by decide +kernel
theorem dL_law_1316 : decode cL_law 1316 = .ok (.goto (-1298), 3) := by decide +kernel
theorem dL_law_1319 : decode cL_law 1319 = .ok (.iconst 1, 1) := by decide +kernel
theorem dL_law_1320 : decode cL_law 1320 = .ok (.ireturn, 1) := by decide +kernel
end
section
/-- the tables' words that hold at every later point -/
def nh_tb : List Cond := lw_tbl.filter goodWord
theorem nh_in {i : Nat} {x : Cond} (h : lw_tbl[i]? = some x) (g : goodWord x = true) : x ∈ nh_tb := List.mem_filter.mpr ⟨List.mem_of_getElem? h, g⟩
/-! THE JUDGEMENT: a point of a method, over a side's cells by number (no addresses), with what must hold at its return -/
/-- a side's state: ints by cell and slot, arrays by cell, moving references by cell and slot -/
abbrev nh_S : Type := (Nat → Nat → Int32) × (Nat → Nat → Int32) × (Nat → Nat → Nat)
/-- a cell's shape: an array (component, length, the cell of row 0 where it is a grid), or an object (class, kinds of its fields: int, a moving reference, a fixed one) -/
abbrev nh_Q : Type := (FieldType × Nat × Option Nat) ⊕ (Nat × List (Option (Option Nat)))
/-- a method: its class, code, locals, what it returns, its room, its side's shape -/
abbrev nh_K : Type := String × ByteArray × Nat × Option FieldType × Room × List nh_Q
def nh_rv (ad : Nat → Nat) (v : Value) : Value := match v with
  | .ref k => .ref (ad k)
  | x => x
theorem nh_rv_cat (ad : Nat → Nat) (v : Value) : (nh_rv ad v).category = v.category := by cases v <;> rfl
def nh_av (σ : nh_S) (k j : Nat) (kd : Option (Option Nat)) : Value := match kd with
  | none => .int (σ.1 k j)
  | some none => .ref (σ.2.2 k j)
  | some (some q) => .ref q
def nh_fs (ad : Nat → Nat) (σ : nh_S) (k : Nat) (kds : List (Option (Option Nat))) : List Value := kds.mapIdx (fun j kd => nh_rv ad (nh_av σ k j kd))
def nh_ce (tA : FieldType → ClassId) (ad : Nat → Nat) (σ : nh_S) (k : Nat) (q : nh_Q) : va_E := match q with
  | .inl (ty, n, none) => .inl (tA ty, n, .inl (σ.2.1 k))
  | .inl (ty, n, some b) => .inl (tA ty, n, .inr (.inr (.inr (.inr (fun i => if i < n then some (ad (b + i)) else none)))))
  | .inr (ci, kds) => .inr (ci, nh_fs ad σ k kds)
def nh_ws (sh : List nh_Q) (tA : FieldType → ClassId) (ad : Nat → Nat) (σ : nh_S) : va_W := sh.mapIdx (fun k q => (ad k, nh_ce tA ad σ k q))
def nh_si (σ : nh_S) (k j : Nat) (x : Int32) : nh_S := (fun k' => if k' = k then (fun j' => if j' = j then x else σ.1 k j') else σ.1 k', σ.2)
def nh_sa (σ : nh_S) (k : Nat) (f : Nat → Int32) : nh_S := (σ.1, fun k' => if k' = k then f else σ.2.1 k', σ.2.2)
def nh_sr (σ : nh_S) (k j : Nat) (x : Nat) : nh_S := (σ.1, σ.2.1, fun k' => if k' = k then (fun j' => if j' = j then x else σ.2.2 k j') else σ.2.2 k')
theorem nh_ws_at {sh : List nh_Q} {k : Nat} {q : nh_Q} (h : sh[k]? = some q) (tA : FieldType → ClassId) (ad : Nat → Nat) (σ : nh_S) : (nh_ws sh tA ad σ)[k]? = some (ad k, nh_ce tA ad σ k q) := by
  unfold nh_ws
  rw [List.getElem?_mapIdx, h]
  rfl
theorem nh_fs_at {kds : List (Option (Option Nat))} {j : Nat} {kd : Option (Option Nat)} (h : kds[j]? = some kd) (ad : Nat → Nat) (σ : nh_S) (k : Nat) : (nh_fs ad σ k kds)[j]? = some (nh_rv ad (nh_av σ k j kd)) := by
  unfold nh_fs
  rw [List.getElem?_mapIdx, h]
  rfl
theorem nh_fs_len (kds : List (Option (Option Nat))) (ad : Nat → Nat) (σ : nh_S) (k : Nat) : (nh_fs ad σ k kds).length = kds.length := by
  unfold nh_fs
  rw [List.length_mapIdx]
theorem nh_ws_set {sh : List nh_Q} {k : Nat} {q : nh_Q} (h : sh[k]? = some q) (tA : FieldType → ClassId) (ad : Nat → Nat) (σ τ : nh_S) {e : va_E} (he : nh_ce tA ad τ k q = e) (ho : ∀ i, i ≠ k → σ.1 i = τ.1 i ∧ σ.2.1 i = τ.2.1 i ∧ σ.2.2 i = τ.2.2 i) :
    (nh_ws sh tA ad σ).set k (ad k, e) = nh_ws sh tA ad τ := by
  apply List.ext_getElem?
  intro i
  by_cases hi : i = k
  · subst hi
    rw [nh_ws_at h tA ad τ, he, List.getElem?_set]
    have hlt : i < (nh_ws sh tA ad σ).length := by
      unfold nh_ws
      rw [List.length_mapIdx]
      exact (List.getElem?_eq_some_iff.mp h).1
    simp [hlt]
  · rw [List.getElem?_set_ne (fun e => hi e.symm)]
    unfold nh_ws
    rw [List.getElem?_mapIdx, List.getElem?_mapIdx]
    obtain ⟨h1, h2, h3⟩ := ho i hi
    have e2 : ∀ q : nh_Q, nh_ce tA ad σ i q = nh_ce tA ad τ i q := by
      intro q
      have e0 : ∀ j kd, nh_av σ i j kd = nh_av τ i j kd := by
        intro j kd
        unfold nh_av
        rcases kd with _ | _ | q
        · show Value.int (σ.1 i j) = Value.int (τ.1 i j)
          rw [h1]
        · show Value.ref (σ.2.2 i j) = Value.ref (τ.2.2 i j)
          rw [h3]
        · rfl
      have e1 : ∀ kds, nh_fs ad σ i kds = nh_fs ad τ i kds := by
        intro kds
        unfold nh_fs
        congr 1
        funext j kd
        rw [e0]
      rcases q with ⟨ty, n, _ | b⟩ | ⟨ci, kds⟩
      · show Sum.inl (tA ty, n, Sum.inl (σ.2.1 i)) = Sum.inl (tA ty, n, Sum.inl (τ.2.1 i))
        rw [h2]
      · rfl
      · show Sum.inr (ci, nh_fs ad σ i kds) = Sum.inr (ci, nh_fs ad τ i kds)
        rw [e1]
    cases sh[i]? with
    | none => rfl
    | some q => show some (ad i, nh_ce tA ad σ i q) = some (ad i, nh_ce tA ad τ i q); rw [e2]
theorem nh_ws_si {sh : List nh_Q} {k ci j : Nat} {kds : List (Option (Option Nat))} (h : sh[k]? = some (.inr (ci, kds))) (hj : kds[j]? = some none) (tA : FieldType → ClassId) (ad : Nat → Nat) (σ : nh_S) (x : Int32) :
    (nh_ws sh tA ad σ).set k (ad k, .inr (ci, (nh_fs ad σ k kds).set j (.int x))) = nh_ws sh tA ad (nh_si σ k j x) := by
  refine nh_ws_set h tA ad σ (nh_si σ k j x) ?_ (fun i hi => ⟨by simp [nh_si, hi], rfl, rfl⟩)
  show Sum.inr (ci, nh_fs ad (nh_si σ k j x) k kds) = _
  congr 2
  apply List.ext_getElem?
  intro i
  by_cases hi : i = j
  · subst hi
    rw [nh_fs_at hj, List.getElem?_set]
    have hlt : i < (nh_fs ad σ k kds).length := by rw [nh_fs_len]; exact (List.getElem?_eq_some_iff.mp hj).1
    simp [hlt, nh_rv, nh_av, nh_si]
  · rw [List.getElem?_set_ne (fun e => hi e.symm)]
    unfold nh_fs
    rw [List.getElem?_mapIdx, List.getElem?_mapIdx]
    cases kds[i]? with
    | none => rfl
    | some kd => rcases kd with _ | _ | q <;> simp [nh_rv, nh_av, nh_si, hi]
theorem nh_ws_sr {sh : List nh_Q} {k ci j : Nat} {kds : List (Option (Option Nat))} (h : sh[k]? = some (.inr (ci, kds))) (hj : kds[j]? = some (some none)) (tA : FieldType → ClassId) (ad : Nat → Nat) (σ : nh_S) (x : Nat) :
    (nh_ws sh tA ad σ).set k (ad k, .inr (ci, (nh_fs ad σ k kds).set j (.ref (ad x)))) = nh_ws sh tA ad (nh_sr σ k j x) := by
  refine nh_ws_set h tA ad σ (nh_sr σ k j x) ?_ (fun i hi => ⟨rfl, rfl, by simp [nh_sr, hi]⟩)
  show Sum.inr (ci, nh_fs ad (nh_sr σ k j x) k kds) = _
  congr 2
  apply List.ext_getElem?
  intro i
  by_cases hi : i = j
  · subst hi
    rw [nh_fs_at hj, List.getElem?_set]
    have hlt : i < (nh_fs ad σ k kds).length := by rw [nh_fs_len]; exact (List.getElem?_eq_some_iff.mp hj).1
    simp [hlt, nh_rv, nh_av, nh_sr]
  · rw [List.getElem?_set_ne (fun e => hi e.symm)]
    unfold nh_fs
    rw [List.getElem?_mapIdx, List.getElem?_mapIdx]
    cases kds[i]? with
    | none => rfl
    | some kd => rcases kd with _ | _ | q <;> simp [nh_rv, nh_av, nh_sr, hi]
theorem nh_ws_sa {sh : List nh_Q} {k n : Nat} {ty : FieldType} (h : sh[k]? = some (.inl (ty, n, none))) (tA : FieldType → ClassId) (ad : Nat → Nat) (σ : nh_S) (f : Nat → Int32) :
    (nh_ws sh tA ad σ).set k (ad k, .inl (tA ty, n, .inl f)) = nh_ws sh tA ad (nh_sa σ k f) := by
  refine nh_ws_set h tA ad σ (nh_sa σ k f) ?_ (fun i hi => ⟨rfl, by simp [nh_sa, hi], rfl⟩)
  show Sum.inl (tA ty, n, Sum.inl ((nh_sa σ k f).2.1 k)) = _
  simp [nh_sa]
/-- the locals: a place a slot -/
def nh_has (ad : Nat → Nat) (lsA : Array Slot) (nL : Nat) (ls : List (Option Value)) : Prop := lsA.size = nL ∧ lv_wf lsA ∧ ls.length = nL ∧ ∀ (i : Nat) (v : Value), ls[i]? = some (some v) → lsA[i]? = some (.val (nh_rv ad v))
def nh_ll (ad : Nat → Nat) (ls : List (Option Value)) : List (Nat × Value) := (List.range ls.length).filterMap (fun i => ls[i]?.join.map (fun v => (i, nh_rv ad v)))
theorem nh_ll_mem {ad : Nat → Nat} {ls : List (Option Value)} {q : Nat × Value} : q ∈ nh_ll ad ls ↔ ∃ v, ls[q.1]? = some (some v) ∧ q.2 = nh_rv ad v := by
  unfold nh_ll
  rw [List.mem_filterMap]
  constructor
  · rintro ⟨i, -, hi⟩
    cases hl : ls[i]? with
    | none => rw [hl] at hi; cases hi
    | some o =>
      rw [hl] at hi
      cases o with
      | none => cases hi
      | some v => cases hi; exact ⟨v, hl, rfl⟩
  · rintro ⟨v, h1, h2⟩
    refine ⟨q.1, List.mem_range.mpr (List.getElem?_eq_some_iff.mp h1).1, ?_⟩
    rw [h1, ← Prod.eta q, h2]
    rfl
theorem nh_has.lv {ad : Nat → Nat} {lsA : Array Slot} {nL : Nat} {ls : List (Option Value)} (h : nh_has ad lsA nL ls) : lv_has lsA nL (nh_ll ad ls) := ⟨h.1, h.2.1, fun q hq => by
  obtain ⟨v, h1, h2⟩ := nh_ll_mem.mp hq
  rw [h2]
  exact h.2.2.2 q.1 v h1⟩
/-- no long stands just ahead of place i -/
def nh_nl (ls : List (Option Value)) (i : Nat) : Bool := match i with
  | 0 => true
  | j + 1 => match ls[j]? with
    | some (some v) => v.category == 1
    | _ => true
theorem nh_has.st1 {ad : Nat → Nat} {lsB : Array Slot} {nL i : Nat} {ls : List (Option Value)} {v : Value} (hlen : ls.length = nL) (hn : nh_nl ls i = true) (h : lv_has lsB nL ((i, nh_rv ad v) :: (nh_ll ad ls).filter (fun q => !(q.1 == i) && !(q.1 + 1 == i && q.2.category == 2)))) : nh_has ad lsB nL (ls.set i (some v)) := by
  refine ⟨h.1, h.2.1, by rw [List.length_set]; exact hlen, fun k x hk => ?_⟩
  by_cases hi : k = i
  · subst hi
    rw [List.getElem?_set] at hk
    simp at hk
    rw [← hk.2]
    exact h.2.2 _ List.mem_cons_self
  · rw [List.getElem?_set_ne (fun e => hi e.symm)] at hk
    refine h.2.2 (k, nh_rv ad x) (List.mem_cons_of_mem _ (List.mem_filter.mpr ⟨nh_ll_mem.mpr ⟨x, hk, rfl⟩, ?_⟩))
    rw [nh_rv_cat]
    have h2 : ¬ (k + 1 = i ∧ x.category = 2) := by
      rintro ⟨e1, e2⟩
      subst e1
      simp [nh_nl, hk, e2] at hn
    simp only [Bool.and_eq_true, Bool.not_eq_true', beq_eq_false_iff_ne, Bool.and_eq_false_imp, beq_iff_eq]
    exact ⟨hi, fun e1 e2 => h2 ⟨e1, e2⟩⟩
theorem nh_has.st2 {ad : Nat → Nat} {lsB : Array Slot} {nL i : Nat} {ls : List (Option Value)} {v : Value} (hlen : ls.length = nL) (hn : nh_nl ls i = true) (h : lv_has lsB nL ((i, nh_rv ad v) :: (nh_ll ad ls).filter (fun q => !(q.1 == i) && (!(q.1 == i + 1) && !(q.1 + 1 == i && q.2.category == 2))))) : nh_has ad lsB nL ((ls.set i (some v)).set (i + 1) none) := by
  refine ⟨h.1, h.2.1, by rw [List.length_set, List.length_set]; exact hlen, fun k x hk => ?_⟩
  by_cases h1 : k = i + 1
  · subst h1
    rw [List.getElem?_set] at hk
    simp at hk
  · rw [List.getElem?_set_ne (fun e => h1 e.symm)] at hk
    by_cases hi : k = i
    · subst hi
      rw [List.getElem?_set] at hk
      simp at hk
      rw [← hk.2]
      exact h.2.2 _ List.mem_cons_self
    · rw [List.getElem?_set_ne (fun e => hi e.symm)] at hk
      refine h.2.2 (k, nh_rv ad x) (List.mem_cons_of_mem _ (List.mem_filter.mpr ⟨nh_ll_mem.mpr ⟨x, hk, rfl⟩, ?_⟩))
      rw [nh_rv_cat]
      have h2 : ¬ (k + 1 = i ∧ x.category = 2) := by
        rintro ⟨e1, e2⟩
        subst e1
        simp [nh_nl, hk, e2] at hn
      simp only [Bool.and_eq_true, Bool.not_eq_true', beq_eq_false_iff_ne, Bool.and_eq_false_imp, beq_iff_eq]
      exact ⟨hi, h1, fun e1 e2 => h2 ⟨e1, e2⟩⟩
theorem nh_has.weak {ad : Nat → Nat} {lsA : Array Slot} {nL : Nat} {ls : List (Option Value)} (i : Nat) (h : nh_has ad lsA nL ls) : nh_has ad lsA nL (ls.set i none) := by
  refine ⟨h.1, h.2.1, by rw [List.length_set]; exact h.2.2.1, fun k x hk => ?_⟩
  by_cases hi : k = i
  · subst hi
    rw [List.getElem?_set] at hk
    simp at hk
  · rw [List.getElem?_set_ne (fun e => hi e.symm)] at hk
    exact h.2.2.2 k x hk
/-- the locals at a method's entry -/
def nh_e1 (v : Value) : List (Option Value) := if v.category = 2 then [some v, none] else [some v]
def nh_en (n : Nat) (vs : List Value) : List (Option Value) := vs.flatMap nh_e1 ++ List.replicate (n - (vs.flatMap nh_e1).length) none
theorem nh_en_args (ad : Nat → Nat) : ∀ (vs : List Value) (pad : Nat) (b i : Nat) (v : Value), (vs.flatMap nh_e1 ++ List.replicate pad none)[i]? = some (some v) → (b + i, nh_rv ad v) ∈ lv_args b (vs.map (nh_rv ad))
  | [], pad, b, i, v, h => by
    simp [List.getElem?_replicate] at h
  | w :: vs, pad, b, i, v, h => by
    rw [List.flatMap_cons, List.append_assoc] at h
    show _ ∈ (b, nh_rv ad w) :: lv_args (if (nh_rv ad w).category = 2 then b + 2 else b + 1) (vs.map (nh_rv ad))
    rw [nh_rv_cat]
    by_cases hc : w.category = 2
    · rw [show nh_e1 w = [some w, none] from if_pos hc] at h
      rw [if_pos hc]
      match i, h with
      | 0, h => simp at h; rw [h]; exact List.mem_cons_self
      | 1, h => simp at h
      | i + 2, h =>
        have h2 : (vs.flatMap nh_e1 ++ List.replicate pad none)[i]? = some (some v) := by simpa using h
        have := nh_en_args ad vs pad (b + 2) i v h2
        rw [show b + (i + 2) = b + 2 + i by omega]
        exact List.mem_cons_of_mem _ this
    · rw [show nh_e1 w = [some w] from if_neg hc] at h
      rw [if_neg hc]
      match i, h with
      | 0, h => simp at h; rw [h]; exact List.mem_cons_self
      | i + 1, h =>
        have h2 : (vs.flatMap nh_e1 ++ List.replicate pad none)[i]? = some (some v) := by simpa using h
        have := nh_en_args ad vs pad (b + 1) i v h2
        rw [show b + (i + 1) = b + 1 + i by omega]
        exact List.mem_cons_of_mem _ this
theorem nh_en_len (ad : Nat → Nat) : ∀ vs : List Value, (lg_sl (vs.map (nh_rv ad))).length = (vs.flatMap nh_e1).length
  | [] => rfl
  | w :: vs => by
    have ih := nh_en_len ad vs
    rw [List.flatMap_cons, List.length_append, ← ih, List.map_cons]
    unfold nh_e1
    cases w <;> simp [lg_sl, nh_rv, Value.category] <;> omega
/-- what a side's frames know of the rest: the five texts and String's switch -/
def nh_len : List Nat := [5, 3, 4, 2, 4]
def nh_byt : List (List Int32) := [[104, 111, 117, 115, 101], [119, 97, 121], [112, 97, 114, 116], [111, 110], [119, 97, 107, 101]]
def nh_txt : List (String × Nat × String × Nat) := [("NineHouses$Parish", 47, "house", 0), ("NineHouses$Parish", 57, "way", 1), ("NineHouses$Parish", 62, "part", 2), ("NineHouses$Parish", 115, "on", 3), ("NineHouses$Plan", 28, "wake", 4)]
def nh_nst : List (String × Nat × MethodName × String) := [(RX0, 77, yX8_counted, "NineHouses"), (RX3, 77, yX8_fullSet, "NineHouses"), (RX3, 81, yX8_has, "NineHouses"), (RX5, 36, yX8_counted, "NineHouses"), (RX5, 43, yX8_has, "NineHouses"), (RX7, 57, yX8_has, "NineHouses")]
def nh_X (ad : Nat → Nat) (A : Nat → Prop) (s : State) : Prop :=
  vk_S 5 nh_len nh_byt (fun i => ad (900 + i)) (fun i => ad (910 + i)) A s s.heap ∧ (∀ q ∈ nh_txt, vk_R q.1 q.2.1 q.2.2.1 (ad (900 + q.2.2.2)) s) ∧ va_Z "java/lang/String" "COMPACT_STRINGS" "Z" (.int 1) A s s.heap ∧ ∀ q ∈ nh_nst, va_Nw (.methodLinkNest q.1 q.2.1 q.2.2.1 q.2.2.2) s
theorem nh_X.call {ad : Nat → Nat} {A : Nat → Prop} {s U : State} {H : Heap} {locs : List Loc} (h : nh_X ad A s) (hS : va_S A s.heap H locs) (hU : U.heap = H) (hW : s.WarmedH U.vm) : nh_X ad A U := by
  obtain ⟨h1, h2, h3, h4⟩ := h
  refine ⟨?_, fun q hq => (h2 q hq).warm hW, ?_, fun q hq => (h4 q hq).warmM hW⟩
  · rw [hU]
    exact vk_S.moved hW.alike (h1.kept hS.2.1)
  · rw [hU]
    exact va_Z.moved hW.alike (h3.kept hS.2.1)
def nh_ty (tA : FieldType → ClassId) : List (ClassId × FieldType) := [(tA .int, .int), (tA .char, .char), (tA .boolean, .boolean), (tA (.array .int), .array .int)]
def nh_C (K : nh_K) (p : Program) (s : State) (m : MethodId) (args : Array Value) (meth : Method) (c : Code) (D : va_G) (tA : FieldType → ClassId) (ad : Nat → Nat) (A : Nat → Prop) : Prop :=
  p.tables.exec = Jvm.exec ∧ c.code = K.2.1 ∧ c.maxLocals = K.2.2.1 ∧ meth.sig.returnType = K.2.2.2.1 ∧ meth.locks = false ∧ s.vm.findClass K.1 = some m.cls ∧ (∀ w ∈ nh_tb, w.before args s = true) ∧ va_K D vwCl (nh_ty tA) s ∧ (∀ q : Nat, s.heap.size ≤ q → A q) ∧ nh_X ad A s
/-- THE JUDGEMENT -/
def nh_E (K : nh_K) (pc : Nat) (ls : List (Option Value)) (st : List Value) (σ : nh_S) (Q : Option Value → nh_S → Prop) : Prop :=
  ∀ (p : Program) (l : Launch) (e : Env) (s : State) (m : MethodId) (args : Array Value) (below : List Frame) (meth : Method) (c : Code) (H : Heap) (locs : List Loc) (lsA : Array Slot) (D : va_G) (tA : FieldType → ClassId) (ad : Nat → Nat) (A : Nat → Prop) (Qc : Array Value → State → Outcome → State → Prop) (free : Addr → Prop),
    nh_C K p s m args meth c D tA ad A → va_P D vwCl (nh_ws K.2.2.2.2.2 tA ad σ) H → va_D A (nh_ws K.2.2.2.2.2 tA ad σ) → va_S A s.heap H locs → nh_has ad lsA K.2.2.1 ls →
    (∀ (r : Option Value) (τ : nh_S) (t : State) (locs' : List Loc), Q r τ → va_P D vwCl (nh_ws K.2.2.2.2.2 tA ad τ) t.heap → va_D A (nh_ws K.2.2.2.2.2 tA ad τ) → va_S A s.heap t.heap locs' → s.WarmedH t.vm → Qc args s (.returned (r.map (nh_rv ad))) t) →
    (∀ q, A q → free q) →
    W p l e K.2.2.2.2.1 s m args below meth c H locs 0 0 (MQ below Qc args s 0 0 free) (F0 m pc lsA (st.map (nh_rv ad)))
theorem nE_mono {K : nh_K} {pc : Nat} {ls : List (Option Value)} {st : List Value} {σ : nh_S} {Q Q' : Option Value → nh_S → Prop} (h : ∀ r τ, Q r τ → Q' r τ) (k : nh_E K pc ls st σ Q) : nh_E K pc ls st σ Q' := by
  intro p l e s m args below meth c H locs lsA D tA ad A Qc free C hP hD hS hl hq hf
  exact k p l e s m args below meth c H locs lsA D tA ad A Qc free C hP hD hS hl (fun r τ t locs' h1 => hq r τ t locs' (h r τ h1)) hf
theorem nE_weak {K : nh_K} {pc : Nat} {ls : List (Option Value)} {st : List Value} {σ : nh_S} {Q : Option Value → nh_S → Prop} (i : Nat) (k : nh_E K pc (ls.set i none) st σ Q) : nh_E K pc ls st σ Q := by
  intro p l e s m args below meth c H locs lsA D tA ad A Qc free C hP hD hS hl hq hf
  exact k p l e s m args below meth c H locs lsA D tA ad A Qc free C hP hD hS (hl.weak i) hq hf

theorem nE_iconst {K : nh_K} {pc : Nat} {ls : List (Option Value)} {st : List Value} {σ : nh_S} {Q : Option Value → nh_S → Prop} {n : Int} {v : Int32} (hd : decode K.2.1 pc = .ok (.iconst n, 1)) (hv : Int32.ofInt n = v) (k : nh_E K (pc + 1) ls (.int v :: st) σ Q) : nh_E K pc ls st σ Q := by
  intro p l e s m args below meth c H locs lsA D tA ad A Qc free C hP hD hS hl hq hf
  exact lv_iconst C.1 C.2.1 hd hv (k p l e s m args below meth c H locs lsA D tA ad A Qc free C hP hD hS hl hq hf)
theorem nE_bipush {K : nh_K} {pc : Nat} {ls : List (Option Value)} {st : List Value} {σ : nh_S} {Q : Option Value → nh_S → Prop} {n : Int} {v : Int32} (hd : decode K.2.1 pc = .ok (.bipush n, 2)) (hv : (Int8.ofInt n).toInt32 = v) (k : nh_E K (pc + 2) ls (.int v :: st) σ Q) : nh_E K pc ls st σ Q := by
  intro p l e s m args below meth c H locs lsA D tA ad A Qc free C hP hD hS hl hq hf
  exact lv_bipush C.1 C.2.1 hd hv (k p l e s m args below meth c H locs lsA D tA ad A Qc free C hP hD hS hl hq hf)
theorem nE_sipush {K : nh_K} {pc : Nat} {ls : List (Option Value)} {st : List Value} {σ : nh_S} {Q : Option Value → nh_S → Prop} {n : Int} {v : Int32} (hd : decode K.2.1 pc = .ok (.sipush n, 3)) (hv : (Int16.ofInt n).toInt32 = v) (k : nh_E K (pc + 3) ls (.int v :: st) σ Q) : nh_E K pc ls st σ Q := by
  intro p l e s m args below meth c H locs lsA D tA ad A Qc free C hP hD hS hl hq hf
  exact lv_sipush C.1 C.2.1 hd hv (k p l e s m args below meth c H locs lsA D tA ad A Qc free C hP hD hS hl hq hf)
theorem nE_lconst {K : nh_K} {pc : Nat} {ls : List (Option Value)} {st : List Value} {σ : nh_S} {Q : Option Value → nh_S → Prop} {n : Fin 2} {v : Int64} (hd : decode K.2.1 pc = .ok (.lconst n, 1)) (hv : Int64.ofNat (n : Nat) = v) (k : nh_E K (pc + 1) ls (.long v :: st) σ Q) : nh_E K pc ls st σ Q := by
  intro p l e s m args below meth c H locs lsA D tA ad A Qc free C hP hD hS hl hq hf
  exact lv_lconst C.1 C.2.1 hd hv (k p l e s m args below meth c H locs lsA D tA ad A Qc free C hP hD hS hl hq hf)
theorem nE_ldc {K : nh_K} {pc : Nat} {ls : List (Option Value)} {st : List Value} {σ : nh_S} {Q : Option Value → nh_S → Prop} {i : Nat} {v : Int32} (hw : Cond.constant K.1 i v ∈ nh_tb) (hd : decode K.2.1 pc = .ok (.ldc i, 2)) (k : nh_E K (pc + 2) ls (.int v :: st) σ Q) : nh_E K pc ls st σ Q := by
  intro p l e s m args below meth c H locs lsA D tA ad A Qc free C hP hD hS hl hq hf
  exact lv_ldc C.1 C.2.1 C.2.2.2.2.2.1 (C.2.2.2.2.2.2.1 _ hw) hd (k p l e s m args below meth c H locs lsA D tA ad A Qc free C hP hD hS hl hq hf)
theorem nE_ldcw {K : nh_K} {pc : Nat} {ls : List (Option Value)} {st : List Value} {σ : nh_S} {Q : Option Value → nh_S → Prop} {i : Nat} {v : Int32} (hw : Cond.constant K.1 i v ∈ nh_tb) (hd : decode K.2.1 pc = .ok (.ldc_w i, 3)) (k : nh_E K (pc + 3) ls (.int v :: st) σ Q) : nh_E K pc ls st σ Q := by
  intro p l e s m args below meth c H locs lsA D tA ad A Qc free C hP hD hS hl hq hf
  exact lv_ldcw C.1 C.2.1 C.2.2.2.2.2.1 (C.2.2.2.2.2.2.1 _ hw) hd (k p l e s m args below meth c H locs lsA D tA ad A Qc free C hP hD hS hl hq hf)
theorem nE_ldc2 {K : nh_K} {pc : Nat} {ls : List (Option Value)} {st : List Value} {σ : nh_S} {Q : Option Value → nh_S → Prop} {i : Nat} {v : Int64} (hw : Cond.constantLong K.1 i v ∈ nh_tb) (hd : decode K.2.1 pc = .ok (.ldc2_w i, 3)) (k : nh_E K (pc + 3) ls (.long v :: st) σ Q) : nh_E K pc ls st σ Q := by
  intro p l e s m args below meth c H locs lsA D tA ad A Qc free C hP hD hS hl hq hf
  exact lv_ldc2 C.1 C.2.1 C.2.2.2.2.2.1 (C.2.2.2.2.2.2.1 _ hw) hd (k p l e s m args below meth c H locs lsA D tA ad A Qc free C hP hD hS hl hq hf)
theorem nE_ldcS {K : nh_K} {pc : Nat} {ls : List (Option Value)} {st : List Value} {σ : nh_S} {Q : Option Value → nh_S → Prop} {i j : Nat} {tx : String} (hw : (K.1, i, tx, j) ∈ nh_txt) (hd : decode K.2.1 pc = .ok (.ldc i, 2)) (k : nh_E K (pc + 2) ls (.ref (900 + j) :: st) σ Q) : nh_E K pc ls st σ Q := by
  intro p l e s m args below meth c H locs lsA D tA ad A Qc free C hP hD hS hl hq hf
  exact va_ldcS C.1 C.2.1 C.2.2.2.2.2.1 (C.2.2.2.2.2.2.2.2.2.2.1 _ hw) hd (k p l e s m args below meth c H locs lsA D tA ad A Qc free C hP hD hS hl hq hf)
theorem nE_iload_n {K : nh_K} {pc : Nat} {ls : List (Option Value)} {st : List Value} {σ : nh_S} {Q : Option Value → nh_S → Prop} {j : Fin 4} {i : Nat} {x : Int32} (hd : decode K.2.1 pc = .ok (.iload_n j, 1)) (hi : (j : Nat) = i) (hx : ls[i]? = some (some (.int x))) (k : nh_E K (pc + 1) ls (.int x :: st) σ Q) : nh_E K pc ls st σ Q := by
  intro p l e s m args below meth c H locs lsA D tA ad A Qc free C hP hD hS hl hq hf
  exact lv_iload_n C.1 C.2.1 hd hi (hl.2.2.2 _ _ hx) (k p l e s m args below meth c H locs lsA D tA ad A Qc free C hP hD hS hl hq hf)
theorem nE_iload {K : nh_K} {pc : Nat} {ls : List (Option Value)} {st : List Value} {σ : nh_S} {Q : Option Value → nh_S → Prop} {i : Nat} {x : Int32} (hd : decode K.2.1 pc = .ok (.iload i, 2)) (hx : ls[i]? = some (some (.int x))) (k : nh_E K (pc + 2) ls (.int x :: st) σ Q) : nh_E K pc ls st σ Q := by
  intro p l e s m args below meth c H locs lsA D tA ad A Qc free C hP hD hS hl hq hf
  exact lv_iload C.1 C.2.1 hd (hl.2.2.2 _ _ hx) (k p l e s m args below meth c H locs lsA D tA ad A Qc free C hP hD hS hl hq hf)
theorem nE_lload_n {K : nh_K} {pc : Nat} {ls : List (Option Value)} {st : List Value} {σ : nh_S} {Q : Option Value → nh_S → Prop} {j : Fin 4} {i : Nat} {x : Int64} (hd : decode K.2.1 pc = .ok (.lload_n j, 1)) (hi : (j : Nat) = i) (hx : ls[i]? = some (some (.long x))) (k : nh_E K (pc + 1) ls (.long x :: st) σ Q) : nh_E K pc ls st σ Q := by
  intro p l e s m args below meth c H locs lsA D tA ad A Qc free C hP hD hS hl hq hf
  exact lv_lload_n C.1 C.2.1 hd hi (hl.2.2.2 _ _ hx) (k p l e s m args below meth c H locs lsA D tA ad A Qc free C hP hD hS hl hq hf)
theorem nE_lload {K : nh_K} {pc : Nat} {ls : List (Option Value)} {st : List Value} {σ : nh_S} {Q : Option Value → nh_S → Prop} {i : Nat} {x : Int64} (hd : decode K.2.1 pc = .ok (.lload i, 2)) (hx : ls[i]? = some (some (.long x))) (k : nh_E K (pc + 2) ls (.long x :: st) σ Q) : nh_E K pc ls st σ Q := by
  intro p l e s m args below meth c H locs lsA D tA ad A Qc free C hP hD hS hl hq hf
  exact lv_lload C.1 C.2.1 hd (hl.2.2.2 _ _ hx) (k p l e s m args below meth c H locs lsA D tA ad A Qc free C hP hD hS hl hq hf)
theorem nE_aload_n {K : nh_K} {pc : Nat} {ls : List (Option Value)} {st : List Value} {σ : nh_S} {Q : Option Value → nh_S → Prop} {j : Fin 4} {i : Nat} {x : Nat} (hd : decode K.2.1 pc = .ok (.aload_n j, 1)) (hi : (j : Nat) = i) (hx : ls[i]? = some (some (.ref x))) (k : nh_E K (pc + 1) ls (.ref x :: st) σ Q) : nh_E K pc ls st σ Q := by
  intro p l e s m args below meth c H locs lsA D tA ad A Qc free C hP hD hS hl hq hf
  exact lv_aload_n C.1 C.2.1 hd hi (hl.2.2.2 _ _ hx) (k p l e s m args below meth c H locs lsA D tA ad A Qc free C hP hD hS hl hq hf)
theorem nE_aload {K : nh_K} {pc : Nat} {ls : List (Option Value)} {st : List Value} {σ : nh_S} {Q : Option Value → nh_S → Prop} {i : Nat} {x : Nat} (hd : decode K.2.1 pc = .ok (.aload i, 2)) (hx : ls[i]? = some (some (.ref x))) (k : nh_E K (pc + 2) ls (.ref x :: st) σ Q) : nh_E K pc ls st σ Q := by
  intro p l e s m args below meth c H locs lsA D tA ad A Qc free C hP hD hS hl hq hf
  exact lv_aload C.1 C.2.1 hd (hl.2.2.2 _ _ hx) (k p l e s m args below meth c H locs lsA D tA ad A Qc free C hP hD hS hl hq hf)
theorem nE_istore_n {K : nh_K} {pc : Nat} {ls : List (Option Value)} {st : List Value} {σ : nh_S} {Q : Option Value → nh_S → Prop} {j : Fin 4} {i : Nat} {x : Int32} (hd : decode K.2.1 pc = .ok (.istore_n j, 1)) (hi : (j : Nat) = i) (hn : nh_nl ls i = true) (hb : i < K.2.2.1) (k : nh_E K (pc + 1) (ls.set i (some (.int x))) st σ Q) : nh_E K pc ls (.int x :: st) σ Q := by
  intro p l e s m args below meth c H locs lsA D tA ad A Qc free C hP hD hS hl hq hf
  exact lv_istore_n C.1 C.2.1 hd hi hl.lv hb rfl (fun lsB h => k p l e s m args below meth c H locs lsB D tA ad A Qc free C hP hD hS (nh_has.st1 (v := .int x) hl.2.2.1 hn h) hq hf)
theorem nE_istore {K : nh_K} {pc : Nat} {ls : List (Option Value)} {st : List Value} {σ : nh_S} {Q : Option Value → nh_S → Prop} {i : Nat} {x : Int32} (hd : decode K.2.1 pc = .ok (.istore i, 2)) (hn : nh_nl ls i = true) (hb : i < K.2.2.1) (k : nh_E K (pc + 2) (ls.set i (some (.int x))) st σ Q) : nh_E K pc ls (.int x :: st) σ Q := by
  intro p l e s m args below meth c H locs lsA D tA ad A Qc free C hP hD hS hl hq hf
  exact lv_istore C.1 C.2.1 hd hl.lv hb rfl (fun lsB h => k p l e s m args below meth c H locs lsB D tA ad A Qc free C hP hD hS (nh_has.st1 (v := .int x) hl.2.2.1 hn h) hq hf)
theorem nE_astore_n {K : nh_K} {pc : Nat} {ls : List (Option Value)} {st : List Value} {σ : nh_S} {Q : Option Value → nh_S → Prop} {j : Fin 4} {i : Nat} {x : Nat} (hd : decode K.2.1 pc = .ok (.astore_n j, 1)) (hi : (j : Nat) = i) (hn : nh_nl ls i = true) (hb : i < K.2.2.1) (k : nh_E K (pc + 1) (ls.set i (some (.ref x))) st σ Q) : nh_E K pc ls (.ref x :: st) σ Q := by
  intro p l e s m args below meth c H locs lsA D tA ad A Qc free C hP hD hS hl hq hf
  exact lv_astore_n C.1 C.2.1 hd hi hl.lv hb rfl (fun lsB h => k p l e s m args below meth c H locs lsB D tA ad A Qc free C hP hD hS (nh_has.st1 (v := .ref x) hl.2.2.1 hn h) hq hf)
theorem nE_astore {K : nh_K} {pc : Nat} {ls : List (Option Value)} {st : List Value} {σ : nh_S} {Q : Option Value → nh_S → Prop} {i : Nat} {x : Nat} (hd : decode K.2.1 pc = .ok (.astore i, 2)) (hn : nh_nl ls i = true) (hb : i < K.2.2.1) (k : nh_E K (pc + 2) (ls.set i (some (.ref x))) st σ Q) : nh_E K pc ls (.ref x :: st) σ Q := by
  intro p l e s m args below meth c H locs lsA D tA ad A Qc free C hP hD hS hl hq hf
  exact lv_astore C.1 C.2.1 hd hl.lv hb rfl (fun lsB h => k p l e s m args below meth c H locs lsB D tA ad A Qc free C hP hD hS (nh_has.st1 (v := .ref x) hl.2.2.1 hn h) hq hf)
theorem nE_lstore_n {K : nh_K} {pc : Nat} {ls : List (Option Value)} {st : List Value} {σ : nh_S} {Q : Option Value → nh_S → Prop} {j : Fin 4} {i : Nat} {x : Int64} (hd : decode K.2.1 pc = .ok (.lstore_n j, 1)) (hi : (j : Nat) = i) (hn : nh_nl ls i = true) (hb : i + 1 < K.2.2.1) (k : nh_E K (pc + 1) ((ls.set i (some (.long x))).set (i + 1) none) st σ Q) : nh_E K pc ls (.long x :: st) σ Q := by
  intro p l e s m args below meth c H locs lsA D tA ad A Qc free C hP hD hS hl hq hf
  exact lv_lstore_n C.1 C.2.1 hd hi hl.lv hb rfl (fun lsB h => k p l e s m args below meth c H locs lsB D tA ad A Qc free C hP hD hS (nh_has.st2 (v := .long x) hl.2.2.1 hn h) hq hf)
theorem nE_lstore {K : nh_K} {pc : Nat} {ls : List (Option Value)} {st : List Value} {σ : nh_S} {Q : Option Value → nh_S → Prop} {i : Nat} {x : Int64} (hd : decode K.2.1 pc = .ok (.lstore i, 2)) (hn : nh_nl ls i = true) (hb : i + 1 < K.2.2.1) (k : nh_E K (pc + 2) ((ls.set i (some (.long x))).set (i + 1) none) st σ Q) : nh_E K pc ls (.long x :: st) σ Q := by
  intro p l e s m args below meth c H locs lsA D tA ad A Qc free C hP hD hS hl hq hf
  exact lv_lstore C.1 C.2.1 hd hl.lv hb rfl (fun lsB h => k p l e s m args below meth c H locs lsB D tA ad A Qc free C hP hD hS (nh_has.st2 (v := .long x) hl.2.2.1 hn h) hq hf)
theorem nE_iinc {K : nh_K} {pc : Nat} {ls : List (Option Value)} {st : List Value} {σ : nh_S} {Q : Option Value → nh_S → Prop} {i : Nat} {n : Int} {x : Int32} (hd : decode K.2.1 pc = .ok (.iinc i n, 3)) (hx : ls[i]? = some (some (.int x))) (hn : nh_nl ls i = true) (hb : i < K.2.2.1) {v : Int32} (hv : x + Int32.ofInt n = v) (k : nh_E K (pc + 3) (ls.set i (some (.int v))) st σ Q) : nh_E K pc ls st σ Q := by
  intro p l e s m args below meth c H locs lsA D tA ad A Qc free C hP hD hS hl hq hf
  obtain ⟨q, hq1⟩ := List.getElem?_of_mem (nh_ll_mem (ad := ad) (q := (i, .int x)).mpr ⟨_, hx, rfl⟩)
  exact lv_iinc (k := q) C.1 C.2.1 hd hl.lv hq1 hv hb rfl (fun lsB h => k p l e s m args below meth c H locs lsB D tA ad A Qc free C hP hD hS (nh_has.st1 (v := .int v) hl.2.2.1 hn h) hq hf)
theorem nE_iadd {K : nh_K} {pc : Nat} {ls : List (Option Value)} {st : List Value} {σ : nh_S} {Q : Option Value → nh_S → Prop} {x y : Int32} (hd : decode K.2.1 pc = .ok (.iadd, 1)) (k : nh_E K (pc + 1) ls (.int (x + y) :: st) σ Q) : nh_E K pc ls (.int y :: .int x :: st) σ Q := by
  intro p l e s m args below meth c H locs lsA D tA ad A Qc free C hP hD hS hl hq hf
  exact lv_iadd C.1 C.2.1 hd (k p l e s m args below meth c H locs lsA D tA ad A Qc free C hP hD hS hl hq hf)
theorem nE_isub {K : nh_K} {pc : Nat} {ls : List (Option Value)} {st : List Value} {σ : nh_S} {Q : Option Value → nh_S → Prop} {x y : Int32} (hd : decode K.2.1 pc = .ok (.isub, 1)) (k : nh_E K (pc + 1) ls (.int (x - y) :: st) σ Q) : nh_E K pc ls (.int y :: .int x :: st) σ Q := by
  intro p l e s m args below meth c H locs lsA D tA ad A Qc free C hP hD hS hl hq hf
  exact lv_isub C.1 C.2.1 hd (k p l e s m args below meth c H locs lsA D tA ad A Qc free C hP hD hS hl hq hf)
theorem nE_imul {K : nh_K} {pc : Nat} {ls : List (Option Value)} {st : List Value} {σ : nh_S} {Q : Option Value → nh_S → Prop} {x y : Int32} (hd : decode K.2.1 pc = .ok (.imul, 1)) (k : nh_E K (pc + 1) ls (.int (x * y) :: st) σ Q) : nh_E K pc ls (.int y :: .int x :: st) σ Q := by
  intro p l e s m args below meth c H locs lsA D tA ad A Qc free C hP hD hS hl hq hf
  exact lv_imul C.1 C.2.1 hd (k p l e s m args below meth c H locs lsA D tA ad A Qc free C hP hD hS hl hq hf)
theorem nE_iand {K : nh_K} {pc : Nat} {ls : List (Option Value)} {st : List Value} {σ : nh_S} {Q : Option Value → nh_S → Prop} {x y : Int32} (hd : decode K.2.1 pc = .ok (.iand, 1)) (k : nh_E K (pc + 1) ls (.int (x &&& y) :: st) σ Q) : nh_E K pc ls (.int y :: .int x :: st) σ Q := by
  intro p l e s m args below meth c H locs lsA D tA ad A Qc free C hP hD hS hl hq hf
  exact lv_iand C.1 C.2.1 hd (k p l e s m args below meth c H locs lsA D tA ad A Qc free C hP hD hS hl hq hf)
theorem nE_ior {K : nh_K} {pc : Nat} {ls : List (Option Value)} {st : List Value} {σ : nh_S} {Q : Option Value → nh_S → Prop} {x y : Int32} (hd : decode K.2.1 pc = .ok (.ior, 1)) (k : nh_E K (pc + 1) ls (.int (x ||| y) :: st) σ Q) : nh_E K pc ls (.int y :: .int x :: st) σ Q := by
  intro p l e s m args below meth c H locs lsA D tA ad A Qc free C hP hD hS hl hq hf
  exact lv_ior C.1 C.2.1 hd (k p l e s m args below meth c H locs lsA D tA ad A Qc free C hP hD hS hl hq hf)
theorem nE_ixor {K : nh_K} {pc : Nat} {ls : List (Option Value)} {st : List Value} {σ : nh_S} {Q : Option Value → nh_S → Prop} {x y : Int32} (hd : decode K.2.1 pc = .ok (.ixor, 1)) (k : nh_E K (pc + 1) ls (.int (x ^^^ y) :: st) σ Q) : nh_E K pc ls (.int y :: .int x :: st) σ Q := by
  intro p l e s m args below meth c H locs lsA D tA ad A Qc free C hP hD hS hl hq hf
  exact lv_ixor C.1 C.2.1 hd (k p l e s m args below meth c H locs lsA D tA ad A Qc free C hP hD hS hl hq hf)
theorem nE_ishl {K : nh_K} {pc : Nat} {ls : List (Option Value)} {st : List Value} {σ : nh_S} {Q : Option Value → nh_S → Prop} {x y : Int32} (hd : decode K.2.1 pc = .ok (.ishl, 1)) (k : nh_E K (pc + 1) ls (.int (x <<< (y &&& 31)) :: st) σ Q) : nh_E K pc ls (.int y :: .int x :: st) σ Q := by
  intro p l e s m args below meth c H locs lsA D tA ad A Qc free C hP hD hS hl hq hf
  exact lv_ishl C.1 C.2.1 hd (k p l e s m args below meth c H locs lsA D tA ad A Qc free C hP hD hS hl hq hf)
theorem nE_ishr {K : nh_K} {pc : Nat} {ls : List (Option Value)} {st : List Value} {σ : nh_S} {Q : Option Value → nh_S → Prop} {x y : Int32} (hd : decode K.2.1 pc = .ok (.ishr, 1)) (k : nh_E K (pc + 1) ls (.int (x >>> (y &&& 31)) :: st) σ Q) : nh_E K pc ls (.int y :: .int x :: st) σ Q := by
  intro p l e s m args below meth c H locs lsA D tA ad A Qc free C hP hD hS hl hq hf
  exact lv_ishr C.1 C.2.1 hd (k p l e s m args below meth c H locs lsA D tA ad A Qc free C hP hD hS hl hq hf)
theorem nE_idiv {K : nh_K} {pc : Nat} {ls : List (Option Value)} {st : List Value} {σ : nh_S} {Q : Option Value → nh_S → Prop} {x y : Int32} (hd : decode K.2.1 pc = .ok (.idiv, 1)) (hne : ¬ y = 0) (k : nh_E K (pc + 1) ls (.int (x / y) :: st) σ Q) : nh_E K pc ls (.int y :: .int x :: st) σ Q := by
  intro p l e s m args below meth c H locs lsA D tA ad A Qc free C hP hD hS hl hq hf
  exact lv_idiv C.1 C.2.1 hd hne (k p l e s m args below meth c H locs lsA D tA ad A Qc free C hP hD hS hl hq hf)
theorem nE_irem {K : nh_K} {pc : Nat} {ls : List (Option Value)} {st : List Value} {σ : nh_S} {Q : Option Value → nh_S → Prop} {x y : Int32} (hd : decode K.2.1 pc = .ok (.irem, 1)) (hne : ¬ y = 0) (k : nh_E K (pc + 1) ls (.int (x - x / y * y) :: st) σ Q) : nh_E K pc ls (.int y :: .int x :: st) σ Q := by
  intro p l e s m args below meth c H locs lsA D tA ad A Qc free C hP hD hS hl hq hf
  exact lv_irem C.1 C.2.1 hd hne (k p l e s m args below meth c H locs lsA D tA ad A Qc free C hP hD hS hl hq hf)
theorem nE_iushr {K : nh_K} {pc : Nat} {ls : List (Option Value)} {st : List Value} {σ : nh_S} {Q : Option Value → nh_S → Prop} {x y : Int32} (hd : decode K.2.1 pc = .ok (.iushr, 1)) (k : nh_E K (pc + 1) ls (.int (x.toUInt32 >>> (y.toUInt32 &&& Int32.toUInt32 31)).toInt32 :: st) σ Q) : nh_E K pc ls (.int y :: .int x :: st) σ Q := by
  intro p l e s m args below meth c H locs lsA D tA ad A Qc free C hP hD hS hl hq hf
  exact lv_iushr C.1 C.2.1 hd rfl (k p l e s m args below meth c H locs lsA D tA ad A Qc free C hP hD hS hl hq hf)
theorem nE_ladd {K : nh_K} {pc : Nat} {ls : List (Option Value)} {st : List Value} {σ : nh_S} {Q : Option Value → nh_S → Prop} {x y : Int64} (hd : decode K.2.1 pc = .ok (.ladd, 1)) (k : nh_E K (pc + 1) ls (.long (x + y) :: st) σ Q) : nh_E K pc ls (.long y :: .long x :: st) σ Q := by
  intro p l e s m args below meth c H locs lsA D tA ad A Qc free C hP hD hS hl hq hf
  exact lv_ladd C.1 C.2.1 hd (k p l e s m args below meth c H locs lsA D tA ad A Qc free C hP hD hS hl hq hf)
theorem nE_lsub {K : nh_K} {pc : Nat} {ls : List (Option Value)} {st : List Value} {σ : nh_S} {Q : Option Value → nh_S → Prop} {x y : Int64} (hd : decode K.2.1 pc = .ok (.lsub, 1)) (k : nh_E K (pc + 1) ls (.long (x - y) :: st) σ Q) : nh_E K pc ls (.long y :: .long x :: st) σ Q := by
  intro p l e s m args below meth c H locs lsA D tA ad A Qc free C hP hD hS hl hq hf
  exact lv_lsub C.1 C.2.1 hd (k p l e s m args below meth c H locs lsA D tA ad A Qc free C hP hD hS hl hq hf)
theorem nE_lmul {K : nh_K} {pc : Nat} {ls : List (Option Value)} {st : List Value} {σ : nh_S} {Q : Option Value → nh_S → Prop} {x y : Int64} (hd : decode K.2.1 pc = .ok (.lmul, 1)) (k : nh_E K (pc + 1) ls (.long (x * y) :: st) σ Q) : nh_E K pc ls (.long y :: .long x :: st) σ Q := by
  intro p l e s m args below meth c H locs lsA D tA ad A Qc free C hP hD hS hl hq hf
  exact lv_lmul C.1 C.2.1 hd (k p l e s m args below meth c H locs lsA D tA ad A Qc free C hP hD hS hl hq hf)
theorem nE_land {K : nh_K} {pc : Nat} {ls : List (Option Value)} {st : List Value} {σ : nh_S} {Q : Option Value → nh_S → Prop} {x y : Int64} (hd : decode K.2.1 pc = .ok (.land, 1)) (k : nh_E K (pc + 1) ls (.long (x &&& y) :: st) σ Q) : nh_E K pc ls (.long y :: .long x :: st) σ Q := by
  intro p l e s m args below meth c H locs lsA D tA ad A Qc free C hP hD hS hl hq hf
  exact lv_land C.1 C.2.1 hd (k p l e s m args below meth c H locs lsA D tA ad A Qc free C hP hD hS hl hq hf)
theorem nE_lor {K : nh_K} {pc : Nat} {ls : List (Option Value)} {st : List Value} {σ : nh_S} {Q : Option Value → nh_S → Prop} {x y : Int64} (hd : decode K.2.1 pc = .ok (.lor, 1)) (k : nh_E K (pc + 1) ls (.long (x ||| y) :: st) σ Q) : nh_E K pc ls (.long y :: .long x :: st) σ Q := by
  intro p l e s m args below meth c H locs lsA D tA ad A Qc free C hP hD hS hl hq hf
  exact lv_lor C.1 C.2.1 hd (k p l e s m args below meth c H locs lsA D tA ad A Qc free C hP hD hS hl hq hf)
theorem nE_ldiv {K : nh_K} {pc : Nat} {ls : List (Option Value)} {st : List Value} {σ : nh_S} {Q : Option Value → nh_S → Prop} {x y : Int64} (hd : decode K.2.1 pc = .ok (.ldiv, 1)) (hne : ¬ y = 0) (k : nh_E K (pc + 1) ls (.long (x / y) :: st) σ Q) : nh_E K pc ls (.long y :: .long x :: st) σ Q := by
  intro p l e s m args below meth c H locs lsA D tA ad A Qc free C hP hD hS hl hq hf
  exact lv_ldiv C.1 C.2.1 hd hne (k p l e s m args below meth c H locs lsA D tA ad A Qc free C hP hD hS hl hq hf)
theorem nE_lrem {K : nh_K} {pc : Nat} {ls : List (Option Value)} {st : List Value} {σ : nh_S} {Q : Option Value → nh_S → Prop} {x y : Int64} (hd : decode K.2.1 pc = .ok (.lrem, 1)) (hne : ¬ y = 0) (k : nh_E K (pc + 1) ls (.long (x - x / y * y) :: st) σ Q) : nh_E K pc ls (.long y :: .long x :: st) σ Q := by
  intro p l e s m args below meth c H locs lsA D tA ad A Qc free C hP hD hS hl hq hf
  exact lv_lrem C.1 C.2.1 hd hne (k p l e s m args below meth c H locs lsA D tA ad A Qc free C hP hD hS hl hq hf)
theorem nE_lushr {K : nh_K} {pc : Nat} {ls : List (Option Value)} {st : List Value} {σ : nh_S} {Q : Option Value → nh_S → Prop} {x : Int64} {y : Int32} (hd : decode K.2.1 pc = .ok (.lushr, 1)) (k : nh_E K (pc + 1) ls (.long (x.toUInt64 >>> (y.toInt64.toUInt64 &&& Int64.toUInt64 63)).toInt64 :: st) σ Q) : nh_E K pc ls (.int y :: .long x :: st) σ Q := by
  intro p l e s m args below meth c H locs lsA D tA ad A Qc free C hP hD hS hl hq hf
  exact lv_lushr C.1 C.2.1 hd rfl (k p l e s m args below meth c H locs lsA D tA ad A Qc free C hP hD hS hl hq hf)
theorem nE_lshl {K : nh_K} {pc : Nat} {ls : List (Option Value)} {st : List Value} {σ : nh_S} {Q : Option Value → nh_S → Prop} {x : Int64} {y : Int32} (hd : decode K.2.1 pc = .ok (.lshl, 1)) (k : nh_E K (pc + 1) ls (.long (x <<< (y.toInt64 &&& 63)) :: st) σ Q) : nh_E K pc ls (.int y :: .long x :: st) σ Q := by
  intro p l e s m args below meth c H locs lsA D tA ad A Qc free C hP hD hS hl hq hf
  exact lv_lshl C.1 C.2.1 hd rfl (k p l e s m args below meth c H locs lsA D tA ad A Qc free C hP hD hS hl hq hf)
theorem nE_lshr {K : nh_K} {pc : Nat} {ls : List (Option Value)} {st : List Value} {σ : nh_S} {Q : Option Value → nh_S → Prop} {x : Int64} {y : Int32} (hd : decode K.2.1 pc = .ok (.lshr, 1)) (k : nh_E K (pc + 1) ls (.long (x >>> (y.toInt64 &&& 63)) :: st) σ Q) : nh_E K pc ls (.int y :: .long x :: st) σ Q := by
  intro p l e s m args below meth c H locs lsA D tA ad A Qc free C hP hD hS hl hq hf
  exact lv_lshr C.1 C.2.1 hd rfl (k p l e s m args below meth c H locs lsA D tA ad A Qc free C hP hD hS hl hq hf)
theorem nE_lcmp {K : nh_K} {pc : Nat} {ls : List (Option Value)} {st : List Value} {σ : nh_S} {Q : Option Value → nh_S → Prop} {x y : Int64} (hd : decode K.2.1 pc = .ok (.lcmp, 1)) (k : nh_E K (pc + 1) ls (.int (lg_cmp x y) :: st) σ Q) : nh_E K pc ls (.long y :: .long x :: st) σ Q := by
  intro p l e s m args below meth c H locs lsA D tA ad A Qc free C hP hD hS hl hq hf
  exact W.lcmp C.1 C.2.1 hd (k p l e s m args below meth c H locs lsA D tA ad A Qc free C hP hD hS hl hq hf)
theorem nE_i2l {K : nh_K} {pc : Nat} {ls : List (Option Value)} {st : List Value} {σ : nh_S} {Q : Option Value → nh_S → Prop} {x : Int32} (hd : decode K.2.1 pc = .ok (.i2l, 1)) (k : nh_E K (pc + 1) ls (.long x.toInt64 :: st) σ Q) : nh_E K pc ls (.int x :: st) σ Q := by
  intro p l e s m args below meth c H locs lsA D tA ad A Qc free C hP hD hS hl hq hf
  exact lv_i2l C.1 C.2.1 hd rfl (k p l e s m args below meth c H locs lsA D tA ad A Qc free C hP hD hS hl hq hf)
theorem nE_l2i {K : nh_K} {pc : Nat} {ls : List (Option Value)} {st : List Value} {σ : nh_S} {Q : Option Value → nh_S → Prop} {x : Int64} (hd : decode K.2.1 pc = .ok (.l2i, 1)) (k : nh_E K (pc + 1) ls (.int x.toInt32 :: st) σ Q) : nh_E K pc ls (.long x :: st) σ Q := by
  intro p l e s m args below meth c H locs lsA D tA ad A Qc free C hP hD hS hl hq hf
  exact lv_l2i C.1 C.2.1 hd rfl (k p l e s m args below meth c H locs lsA D tA ad A Qc free C hP hD hS hl hq hf)
theorem nE_i2c {K : nh_K} {pc : Nat} {ls : List (Option Value)} {st : List Value} {σ : nh_S} {Q : Option Value → nh_S → Prop} {x : Int32} (hd : decode K.2.1 pc = .ok (.i2c, 1)) (k : nh_E K (pc + 1) ls (.int (x.toUInt32 % 65536).toInt32 :: st) σ Q) : nh_E K pc ls (.int x :: st) σ Q := by
  intro p l e s m args below meth c H locs lsA D tA ad A Qc free C hP hD hS hl hq hf
  exact lv_i2c C.1 C.2.1 hd rfl (k p l e s m args below meth c H locs lsA D tA ad A Qc free C hP hD hS hl hq hf)
theorem nE_dup {K : nh_K} {pc : Nat} {ls : List (Option Value)} {st : List Value} {σ : nh_S} {Q : Option Value → nh_S → Prop} {v : Value} (hd : decode K.2.1 pc = .ok (.dup, 1)) (hc : v.category = 1) (k : nh_E K (pc + 1) ls (v :: v :: st) σ Q) : nh_E K pc ls (v :: st) σ Q := by
  intro p l e s m args below meth c H locs lsA D tA ad A Qc free C hP hD hS hl hq hf
  exact lv_dup C.1 C.2.1 hd (by rw [nh_rv_cat]; exact hc) (k p l e s m args below meth c H locs lsA D tA ad A Qc free C hP hD hS hl hq hf)
theorem nE_pop {K : nh_K} {pc : Nat} {ls : List (Option Value)} {st : List Value} {σ : nh_S} {Q : Option Value → nh_S → Prop} {v : Value} (hd : decode K.2.1 pc = .ok (.pop, 1)) (hc : v.category = 1) (k : nh_E K (pc + 1) ls st σ Q) : nh_E K pc ls (v :: st) σ Q := by
  intro p l e s m args below meth c H locs lsA D tA ad A Qc free C hP hD hS hl hq hf
  exact lv_pop C.1 C.2.1 hd (by rw [nh_rv_cat]; exact hc) (k p l e s m args below meth c H locs lsA D tA ad A Qc free C hP hD hS hl hq hf)
theorem nE_dup2 {K : nh_K} {pc : Nat} {ls : List (Option Value)} {st : List Value} {σ : nh_S} {Q : Option Value → nh_S → Prop} {v u : Value} (hd : decode K.2.1 pc = .ok (.dup2, 1)) (hc : v.category = 1) (hc2 : u.category = 1) (k : nh_E K (pc + 1) ls (v :: u :: v :: u :: st) σ Q) : nh_E K pc ls (v :: u :: st) σ Q := by
  intro p l e s m args below meth c H locs lsA D tA ad A Qc free C hP hD hS hl hq hf
  exact lv_dup2_11 C.1 C.2.1 hd (by rw [nh_rv_cat]; exact hc) (by rw [nh_rv_cat]; exact hc2) (k p l e s m args below meth c H locs lsA D tA ad A Qc free C hP hD hS hl hq hf)
theorem nE_if_eq {K : nh_K} {pc : Nat} {ls : List (Option Value)} {st : List Value} {σ : nh_S} {Q : Option Value → nh_S → Prop} {x : Int32} {off : Int} {tgt : Nat} (hd : decode K.2.1 pc = .ok (.ifCond .eq off, 3)) (ht : (pc : Int) + off = (tgt : Int)) (k : (x = 0 → nh_E K tgt ls st σ Q) ∧ (¬ x = 0 → nh_E K (pc + 3) ls st σ Q)) : nh_E K pc ls (.int x :: st) σ Q := by
  intro p l e s m args below meth c H locs lsA D tA ad A Qc free C hP hD hS hl hq hf
  exact lv_if_eq C.1 C.2.1 hd ht (fun z => k.1 z p l e s m args below meth c H locs lsA D tA ad A Qc free C hP hD hS hl hq hf) (fun z => k.2 z p l e s m args below meth c H locs lsA D tA ad A Qc free C hP hD hS hl hq hf)
theorem nE_icmp_eq {K : nh_K} {pc : Nat} {ls : List (Option Value)} {st : List Value} {σ : nh_S} {Q : Option Value → nh_S → Prop} {x y : Int32} {off : Int} {tgt : Nat} (hd : decode K.2.1 pc = .ok (.if_icmp .eq off, 3)) (ht : (pc : Int) + off = (tgt : Int)) (k : (x = y → nh_E K tgt ls st σ Q) ∧ (¬ x = y → nh_E K (pc + 3) ls st σ Q)) : nh_E K pc ls (.int y :: .int x :: st) σ Q := by
  intro p l e s m args below meth c H locs lsA D tA ad A Qc free C hP hD hS hl hq hf
  exact lv_icmp_eq C.1 C.2.1 hd ht (fun z => k.1 z p l e s m args below meth c H locs lsA D tA ad A Qc free C hP hD hS hl hq hf) (fun z => k.2 z p l e s m args below meth c H locs lsA D tA ad A Qc free C hP hD hS hl hq hf)
theorem nE_if_ne {K : nh_K} {pc : Nat} {ls : List (Option Value)} {st : List Value} {σ : nh_S} {Q : Option Value → nh_S → Prop} {x : Int32} {off : Int} {tgt : Nat} (hd : decode K.2.1 pc = .ok (.ifCond .ne off, 3)) (ht : (pc : Int) + off = (tgt : Int)) (k : (¬ x = 0 → nh_E K tgt ls st σ Q) ∧ (x = 0 → nh_E K (pc + 3) ls st σ Q)) : nh_E K pc ls (.int x :: st) σ Q := by
  intro p l e s m args below meth c H locs lsA D tA ad A Qc free C hP hD hS hl hq hf
  exact lv_if_ne C.1 C.2.1 hd ht (fun z => k.1 z p l e s m args below meth c H locs lsA D tA ad A Qc free C hP hD hS hl hq hf) (fun z => k.2 z p l e s m args below meth c H locs lsA D tA ad A Qc free C hP hD hS hl hq hf)
theorem nE_icmp_ne {K : nh_K} {pc : Nat} {ls : List (Option Value)} {st : List Value} {σ : nh_S} {Q : Option Value → nh_S → Prop} {x y : Int32} {off : Int} {tgt : Nat} (hd : decode K.2.1 pc = .ok (.if_icmp .ne off, 3)) (ht : (pc : Int) + off = (tgt : Int)) (k : (¬ x = y → nh_E K tgt ls st σ Q) ∧ (x = y → nh_E K (pc + 3) ls st σ Q)) : nh_E K pc ls (.int y :: .int x :: st) σ Q := by
  intro p l e s m args below meth c H locs lsA D tA ad A Qc free C hP hD hS hl hq hf
  exact lv_icmp_ne C.1 C.2.1 hd ht (fun z => k.1 z p l e s m args below meth c H locs lsA D tA ad A Qc free C hP hD hS hl hq hf) (fun z => k.2 z p l e s m args below meth c H locs lsA D tA ad A Qc free C hP hD hS hl hq hf)
theorem nE_if_lt {K : nh_K} {pc : Nat} {ls : List (Option Value)} {st : List Value} {σ : nh_S} {Q : Option Value → nh_S → Prop} {x : Int32} {off : Int} {tgt : Nat} (hd : decode K.2.1 pc = .ok (.ifCond .lt off, 3)) (ht : (pc : Int) + off = (tgt : Int)) (k : (x < 0 → nh_E K tgt ls st σ Q) ∧ (¬ x < 0 → nh_E K (pc + 3) ls st σ Q)) : nh_E K pc ls (.int x :: st) σ Q := by
  intro p l e s m args below meth c H locs lsA D tA ad A Qc free C hP hD hS hl hq hf
  exact lv_if_lt C.1 C.2.1 hd ht (fun z => k.1 z p l e s m args below meth c H locs lsA D tA ad A Qc free C hP hD hS hl hq hf) (fun z => k.2 z p l e s m args below meth c H locs lsA D tA ad A Qc free C hP hD hS hl hq hf)
theorem nE_icmp_lt {K : nh_K} {pc : Nat} {ls : List (Option Value)} {st : List Value} {σ : nh_S} {Q : Option Value → nh_S → Prop} {x y : Int32} {off : Int} {tgt : Nat} (hd : decode K.2.1 pc = .ok (.if_icmp .lt off, 3)) (ht : (pc : Int) + off = (tgt : Int)) (k : (x < y → nh_E K tgt ls st σ Q) ∧ (¬ x < y → nh_E K (pc + 3) ls st σ Q)) : nh_E K pc ls (.int y :: .int x :: st) σ Q := by
  intro p l e s m args below meth c H locs lsA D tA ad A Qc free C hP hD hS hl hq hf
  exact lv_icmp_lt C.1 C.2.1 hd ht (fun z => k.1 z p l e s m args below meth c H locs lsA D tA ad A Qc free C hP hD hS hl hq hf) (fun z => k.2 z p l e s m args below meth c H locs lsA D tA ad A Qc free C hP hD hS hl hq hf)
theorem nE_if_ge {K : nh_K} {pc : Nat} {ls : List (Option Value)} {st : List Value} {σ : nh_S} {Q : Option Value → nh_S → Prop} {x : Int32} {off : Int} {tgt : Nat} (hd : decode K.2.1 pc = .ok (.ifCond .ge off, 3)) (ht : (pc : Int) + off = (tgt : Int)) (k : (0 ≤ x → nh_E K tgt ls st σ Q) ∧ (¬ 0 ≤ x → nh_E K (pc + 3) ls st σ Q)) : nh_E K pc ls (.int x :: st) σ Q := by
  intro p l e s m args below meth c H locs lsA D tA ad A Qc free C hP hD hS hl hq hf
  exact lv_if_ge C.1 C.2.1 hd ht (fun z => k.1 z p l e s m args below meth c H locs lsA D tA ad A Qc free C hP hD hS hl hq hf) (fun z => k.2 z p l e s m args below meth c H locs lsA D tA ad A Qc free C hP hD hS hl hq hf)
theorem nE_icmp_ge {K : nh_K} {pc : Nat} {ls : List (Option Value)} {st : List Value} {σ : nh_S} {Q : Option Value → nh_S → Prop} {x y : Int32} {off : Int} {tgt : Nat} (hd : decode K.2.1 pc = .ok (.if_icmp .ge off, 3)) (ht : (pc : Int) + off = (tgt : Int)) (k : (y ≤ x → nh_E K tgt ls st σ Q) ∧ (¬ y ≤ x → nh_E K (pc + 3) ls st σ Q)) : nh_E K pc ls (.int y :: .int x :: st) σ Q := by
  intro p l e s m args below meth c H locs lsA D tA ad A Qc free C hP hD hS hl hq hf
  exact lv_icmp_ge C.1 C.2.1 hd ht (fun z => k.1 z p l e s m args below meth c H locs lsA D tA ad A Qc free C hP hD hS hl hq hf) (fun z => k.2 z p l e s m args below meth c H locs lsA D tA ad A Qc free C hP hD hS hl hq hf)
theorem nE_if_gt {K : nh_K} {pc : Nat} {ls : List (Option Value)} {st : List Value} {σ : nh_S} {Q : Option Value → nh_S → Prop} {x : Int32} {off : Int} {tgt : Nat} (hd : decode K.2.1 pc = .ok (.ifCond .gt off, 3)) (ht : (pc : Int) + off = (tgt : Int)) (k : (0 < x → nh_E K tgt ls st σ Q) ∧ (¬ 0 < x → nh_E K (pc + 3) ls st σ Q)) : nh_E K pc ls (.int x :: st) σ Q := by
  intro p l e s m args below meth c H locs lsA D tA ad A Qc free C hP hD hS hl hq hf
  exact lv_if_gt C.1 C.2.1 hd ht (fun z => k.1 z p l e s m args below meth c H locs lsA D tA ad A Qc free C hP hD hS hl hq hf) (fun z => k.2 z p l e s m args below meth c H locs lsA D tA ad A Qc free C hP hD hS hl hq hf)
theorem nE_icmp_gt {K : nh_K} {pc : Nat} {ls : List (Option Value)} {st : List Value} {σ : nh_S} {Q : Option Value → nh_S → Prop} {x y : Int32} {off : Int} {tgt : Nat} (hd : decode K.2.1 pc = .ok (.if_icmp .gt off, 3)) (ht : (pc : Int) + off = (tgt : Int)) (k : (y < x → nh_E K tgt ls st σ Q) ∧ (¬ y < x → nh_E K (pc + 3) ls st σ Q)) : nh_E K pc ls (.int y :: .int x :: st) σ Q := by
  intro p l e s m args below meth c H locs lsA D tA ad A Qc free C hP hD hS hl hq hf
  exact lv_icmp_gt C.1 C.2.1 hd ht (fun z => k.1 z p l e s m args below meth c H locs lsA D tA ad A Qc free C hP hD hS hl hq hf) (fun z => k.2 z p l e s m args below meth c H locs lsA D tA ad A Qc free C hP hD hS hl hq hf)
theorem nE_if_le {K : nh_K} {pc : Nat} {ls : List (Option Value)} {st : List Value} {σ : nh_S} {Q : Option Value → nh_S → Prop} {x : Int32} {off : Int} {tgt : Nat} (hd : decode K.2.1 pc = .ok (.ifCond .le off, 3)) (ht : (pc : Int) + off = (tgt : Int)) (k : (x ≤ 0 → nh_E K tgt ls st σ Q) ∧ (¬ x ≤ 0 → nh_E K (pc + 3) ls st σ Q)) : nh_E K pc ls (.int x :: st) σ Q := by
  intro p l e s m args below meth c H locs lsA D tA ad A Qc free C hP hD hS hl hq hf
  exact lv_if_le C.1 C.2.1 hd ht (fun z => k.1 z p l e s m args below meth c H locs lsA D tA ad A Qc free C hP hD hS hl hq hf) (fun z => k.2 z p l e s m args below meth c H locs lsA D tA ad A Qc free C hP hD hS hl hq hf)
theorem nE_icmp_le {K : nh_K} {pc : Nat} {ls : List (Option Value)} {st : List Value} {σ : nh_S} {Q : Option Value → nh_S → Prop} {x y : Int32} {off : Int} {tgt : Nat} (hd : decode K.2.1 pc = .ok (.if_icmp .le off, 3)) (ht : (pc : Int) + off = (tgt : Int)) (k : (x ≤ y → nh_E K tgt ls st σ Q) ∧ (¬ x ≤ y → nh_E K (pc + 3) ls st σ Q)) : nh_E K pc ls (.int y :: .int x :: st) σ Q := by
  intro p l e s m args below meth c H locs lsA D tA ad A Qc free C hP hD hS hl hq hf
  exact lv_icmp_le C.1 C.2.1 hd ht (fun z => k.1 z p l e s m args below meth c H locs lsA D tA ad A Qc free C hP hD hS hl hq hf) (fun z => k.2 z p l e s m args below meth c H locs lsA D tA ad A Qc free C hP hD hS hl hq hf)
theorem nE_goto {K : nh_K} {pc : Nat} {ls : List (Option Value)} {st : List Value} {σ : nh_S} {Q : Option Value → nh_S → Prop} {off : Int} {tgt : Nat} (hd : decode K.2.1 pc = .ok (.goto off, 3)) (ht : (pc : Int) + off = (tgt : Int)) (k : nh_E K tgt ls st σ Q) : nh_E K pc ls st σ Q := by
  intro p l e s m args below meth c H locs lsA D tA ad A Qc free C hP hD hS hl hq hf
  exact lv_goto C.1 C.2.1 hd ht (k p l e s m args below meth c H locs lsA D tA ad A Qc free C hP hD hS hl hq hf)
theorem nE_tabIn {K : nh_K} {pc : Nat} {ls : List (Option Value)} {st : List Value} {σ : nh_S} {Q : Option Value → nh_S → Prop} {dflt lo hi : Int} {offs : Array Int} {len : Nat} {x : Int32} {off : Int} {tgt : Nat} (hd : decode K.2.1 pc = .ok (.tableswitch dflt lo hi offs, len)) (h1 : ¬ x.toInt < lo) (h2 : ¬ hi < x.toInt) (ho : offs[(x.toInt - lo).toNat]? = some off) (ht : (pc : Int) + off = (tgt : Int)) (k : nh_E K tgt ls st σ Q) : nh_E K pc ls (.int x :: st) σ Q := by
  intro p l e s m args below meth c H locs lsA D tA ad A Qc free C hP hD hS hl hq hf
  exact lv_tableIn C.1 C.2.1 hd h1 h2 ho ht (k p l e s m args below meth c H locs lsA D tA ad A Qc free C hP hD hS hl hq hf)
theorem nE_tabOut {K : nh_K} {pc : Nat} {ls : List (Option Value)} {st : List Value} {σ : nh_S} {Q : Option Value → nh_S → Prop} {dflt lo hi : Int} {offs : Array Int} {len : Nat} {x : Int32} {tgt : Nat} (hd : decode K.2.1 pc = .ok (.tableswitch dflt lo hi offs, len)) (h : x.toInt < lo ∨ hi < x.toInt) (ht : (pc : Int) + dflt = (tgt : Int)) (k : nh_E K tgt ls st σ Q) : nh_E K pc ls (.int x :: st) σ Q := by
  intro p l e s m args below meth c H locs lsA D tA ad A Qc free C hP hD hS hl hq hf
  exact lv_tableOut C.1 C.2.1 hd h ht (k p l e s m args below meth c H locs lsA D tA ad A Qc free C hP hD hS hl hq hf)
/-- a class of the world: its name, fields, types -/
def nh_CI (ci : Nat) (C : String) (T : u_T) (N : Nat) (ty0 : Nat → FieldType) : Prop := vwCl[ci]? = some (C, T, N) ∧ (∀ w ∈ u_ws C T N, w ∈ nh_tb) ∧ (∀ k, k < N → parseFieldDescriptor (T k).2.2.1 = some (ty0 k)) ∧ ∀ a, a < N → ∀ b, b < N → a ≠ b → (T a).2.1 ≠ (T b).2.1
/-- an entry of a class's pool that names a field: slot j of class ci, its type, whether it is final -/
def nh_FL (own : String) (idx ci j : Nat) (ty : FieldType) (fin : Bool) : Prop := ∃ (C : String) (T : u_T) (N : Nat) (ty0 : Nat → FieldType), nh_CI ci C T N ty0 ∧ j < N ∧ Cond.fieldLink own idx (T j).1 (T j).2.1 (T j).2.2.1 ∈ nh_tb ∧ ty0 j = ty ∧ (T j).2.2.2 = fin
theorem nE_getV {K : nh_K} {pc : Nat} {ls : List (Option Value)} {st : List Value} {σ : nh_S} {Q : Option Value → nh_S → Prop} {k ci j idx : Nat} {kds : List (Option (Option Nat))} {kd : Option (Option Nat)} {ty : FieldType} {fin : Bool} (hfl : nh_FL K.1 idx ci j ty fin) (hsh : K.2.2.2.2.2[k]? = some (.inr (ci, kds))) (hkd : kds[j]? = some kd) (hd : decode K.2.1 pc = .ok (.getfield idx, 3)) (kk : nh_E K (pc + 3) ls (nh_av σ k j kd :: st) σ Q) : nh_E K pc ls (.ref k :: st) σ Q := by
  intro p l e s m args below meth c H locs lsA D tA ad A Qc free C hP hD hS hl hq hf
  obtain ⟨C0, T, N, ty0, hc, hj, hlk, -, -⟩ := hfl
  exact va_get (D := D) (ref := (T j).1) C.1 C.2.1 C.2.2.2.2.2.2.1 hc.2.1 C.2.2.2.2.2.1 C.2.2.2.2.2.2.2.1 hP k (nh_ws_at hsh tA ad σ) hc.1 j hj (C.2.2.2.2.2.2.1 _ hlk) (fun _ h => h) (nh_fs_at hkd ad σ k) hd (kk p l e s m args below meth c H locs lsA D tA ad A Qc free C hP hD hS hl hq hf)
theorem nE_getI {K : nh_K} {pc : Nat} {ls : List (Option Value)} {st : List Value} {σ : nh_S} {Q : Option Value → nh_S → Prop} {k ci j idx : Nat} {kds : List (Option (Option Nat))} {ty : FieldType} {fin : Bool} (hfl : nh_FL K.1 idx ci j ty fin) (hsh : K.2.2.2.2.2[k]? = some (.inr (ci, kds))) (hkd : kds[j]? = some none) (hd : decode K.2.1 pc = .ok (.getfield idx, 3)) (kk : nh_E K (pc + 3) ls (.int (σ.1 k j) :: st) σ Q) : nh_E K pc ls (.ref k :: st) σ Q := nE_getV hfl hsh hkd hd kk
theorem nE_getC {K : nh_K} {pc : Nat} {ls : List (Option Value)} {st : List Value} {σ : nh_S} {Q : Option Value → nh_S → Prop} {k ci j idx r : Nat} {kds : List (Option (Option Nat))} {ty : FieldType} {fin : Bool} (hfl : nh_FL K.1 idx ci j ty fin) (hsh : K.2.2.2.2.2[k]? = some (.inr (ci, kds))) (hkd : kds[j]? = some (some (some r))) (hd : decode K.2.1 pc = .ok (.getfield idx, 3)) (kk : nh_E K (pc + 3) ls (.ref r :: st) σ Q) : nh_E K pc ls (.ref k :: st) σ Q := nE_getV hfl hsh hkd hd kk
theorem nE_getR {K : nh_K} {pc : Nat} {ls : List (Option Value)} {st : List Value} {σ : nh_S} {Q : Option Value → nh_S → Prop} {k ci j idx : Nat} {kds : List (Option (Option Nat))} {ty : FieldType} {fin : Bool} (hfl : nh_FL K.1 idx ci j ty fin) (hsh : K.2.2.2.2.2[k]? = some (.inr (ci, kds))) (hkd : kds[j]? = some (some none)) (hd : decode K.2.1 pc = .ok (.getfield idx, 3)) (kk : nh_E K (pc + 3) ls (.ref (σ.2.2 k j) :: st) σ Q) : nh_E K pc ls (.ref k :: st) σ Q := nE_getV hfl hsh hkd hd kk
theorem nE_putI {K : nh_K} {pc : Nat} {ls : List (Option Value)} {st : List Value} {σ : nh_S} {Q : Option Value → nh_S → Prop} {k ci j idx : Nat} {x : Int32} {kds : List (Option (Option Nat))} {ty : FieldType} (hfl : nh_FL K.1 idx ci j ty false) (hsh : K.2.2.2.2.2[k]? = some (.inr (ci, kds))) (hkd : kds[j]? = some none) (hn : narrow ty (.int x) = .int x ∧ fits ty (.int x) = true) (hd : decode K.2.1 pc = .ok (.putfield idx, 3)) (kk : nh_E K (pc + 3) ls st (nh_si σ k j x) Q) : nh_E K pc ls (.int x :: .ref k :: st) σ Q := by
  intro p l e s m args below meth c H locs lsA D tA ad A Qc free C hP hD hS hl hq hf
  obtain ⟨C0, T, N, ty0, hc, hj, hlk, hty, hfin⟩ := hfl
  refine va_put (D := D) (ref := (T j).1) (ty := ty) (v := .int x) C.1 C.2.1 C.2.2.2.2.2.2.1 hc.2.1 ty0 hc.2.2.1 hc.2.2.2 C.2.2.2.2.2.1 C.2.2.2.2.2.2.2.1 hP hD hS k (nh_ws_at hsh tA ad σ) hc.1 j hj (C.2.2.2.2.2.2.1 _ hlk) (fun _ h => h) hfin (by rw [hc.2.2.1 j hj, hty]) hn.1 hn.2 (by rw [nh_fs_len]; exact (List.getElem?_eq_some_iff.mp hkd).1) hd (fun H1 locs1 hP1 hD1 hS1 => ?_)
  rw [nh_ws_si hsh hkd] at hP1 hD1
  exact kk p l e s m args below meth c H1 locs1 lsA D tA ad A Qc free C hP1 hD1 hS1 hl hq hf
theorem nE_putR {K : nh_K} {pc : Nat} {ls : List (Option Value)} {st : List Value} {σ : nh_S} {Q : Option Value → nh_S → Prop} {k ci j idx x : Nat} {kds : List (Option (Option Nat))} {ty : FieldType} (hfl : nh_FL K.1 idx ci j ty false) (hsh : K.2.2.2.2.2[k]? = some (.inr (ci, kds))) (hkd : kds[j]? = some (some none)) (hn : ∀ a : Nat, narrow ty (.ref a) = .ref a ∧ fits ty (.ref a) = true) (hd : decode K.2.1 pc = .ok (.putfield idx, 3)) (kk : nh_E K (pc + 3) ls st (nh_sr σ k j x) Q) : nh_E K pc ls (.ref x :: .ref k :: st) σ Q := by
  intro p l e s m args below meth c H locs lsA D tA ad A Qc free C hP hD hS hl hq hf
  obtain ⟨C0, T, N, ty0, hc, hj, hlk, hty, hfin⟩ := hfl
  refine va_put (D := D) (ref := (T j).1) (ty := ty) (v := .ref (ad x)) C.1 C.2.1 C.2.2.2.2.2.2.1 hc.2.1 ty0 hc.2.2.1 hc.2.2.2 C.2.2.2.2.2.1 C.2.2.2.2.2.2.2.1 hP hD hS k (nh_ws_at hsh tA ad σ) hc.1 j hj (C.2.2.2.2.2.2.1 _ hlk) (fun _ h => h) hfin (by rw [hc.2.2.1 j hj, hty]) (hn _).1 (hn _).2 (by rw [nh_fs_len]; exact (List.getElem?_eq_some_iff.mp hkd).1) hd (fun H1 locs1 hP1 hD1 hS1 => ?_)
  rw [nh_ws_sr hsh hkd] at hP1 hD1
  exact kk p l e s m args below meth c H1 locs1 lsA D tA ad A Qc free C hP1 hD1 hS1 hl hq hf
theorem nE_iald {K : nh_K} {pc : Nat} {ls : List (Option Value)} {st : List Value} {σ : nh_S} {Q : Option Value → nh_S → Prop} {k n : Nat} {i : Int32} (hsh : K.2.2.2.2.2[k]? = some (.inl (.int, n, none))) (hd : decode K.2.1 pc = .ok (.iaload, 1)) (kk : vp_in i n ∧ nh_E K (pc + 1) ls (.int (σ.2.1 k i.toNatClampNeg) :: st) σ Q) : nh_E K pc ls (.int i :: .ref k :: st) σ Q := by
  intro p l e s m args below meth c H locs lsA D tA ad A Qc free C hP hD hS hl hq hf
  exact va_iald (f := σ.2.1 k) C.1 C.2.1 C.2.2.2.2.2.2.2.1 hP k 0 (nh_ws_at hsh tA ad σ) rfl kk.1 hd (kk.2 p l e s m args below meth c H locs lsA D tA ad A Qc free C hP hD hS hl hq hf)
theorem nE_cald {K : nh_K} {pc : Nat} {ls : List (Option Value)} {st : List Value} {σ : nh_S} {Q : Option Value → nh_S → Prop} {k n : Nat} {i : Int32} (hsh : K.2.2.2.2.2[k]? = some (.inl (.char, n, none))) (hd : decode K.2.1 pc = .ok (.caload, 1)) (kk : vp_in i n ∧ nh_E K (pc + 1) ls (.int (σ.2.1 k i.toNatClampNeg) :: st) σ Q) : nh_E K pc ls (.int i :: .ref k :: st) σ Q := by
  intro p l e s m args below meth c H locs lsA D tA ad A Qc free C hP hD hS hl hq hf
  exact va_cald (f := σ.2.1 k) C.1 C.2.1 C.2.2.2.2.2.2.2.1 hP k 1 (nh_ws_at hsh tA ad σ) rfl kk.1 hd (kk.2 p l e s m args below meth c H locs lsA D tA ad A Qc free C hP hD hS hl hq hf)
theorem nE_zald {K : nh_K} {pc : Nat} {ls : List (Option Value)} {st : List Value} {σ : nh_S} {Q : Option Value → nh_S → Prop} {k n : Nat} {i : Int32} (hsh : K.2.2.2.2.2[k]? = some (.inl (.boolean, n, none))) (hd : decode K.2.1 pc = .ok (.baload, 1)) (kk : vp_in i n ∧ nh_E K (pc + 1) ls (.int (σ.2.1 k i.toNatClampNeg) :: st) σ Q) : nh_E K pc ls (.int i :: .ref k :: st) σ Q := by
  intro p l e s m args below meth c H locs lsA D tA ad A Qc free C hP hD hS hl hq hf
  exact va_zald (f := σ.2.1 k) C.1 C.2.1 C.2.2.2.2.2.2.2.1 hP k 2 (nh_ws_at hsh tA ad σ) rfl kk.1 hd (kk.2 p l e s m args below meth c H locs lsA D tA ad A Qc free C hP hD hS hl hq hf)
theorem nE_iast {K : nh_K} {pc : Nat} {ls : List (Option Value)} {st : List Value} {σ : nh_S} {Q : Option Value → nh_S → Prop} {k n : Nat} {i x : Int32} (hsh : K.2.2.2.2.2[k]? = some (.inl (.int, n, none))) (hd : decode K.2.1 pc = .ok (.iastore, 1)) (kk : vp_in i n ∧ nh_E K (pc + 1) ls st (nh_sa σ k (upd (σ.2.1 k) i.toNatClampNeg x)) Q) : nh_E K pc ls (.int x :: .int i :: .ref k :: st) σ Q := by
  intro p l e s m args below meth c H locs lsA D tA ad A Qc free C hP hD hS hl hq hf
  refine va_iast (f := σ.2.1 k) C.1 C.2.1 C.2.2.2.2.2.2.2.1 hP hD hS k 0 (nh_ws_at hsh tA ad σ) rfl kk.1 hd (fun H1 locs1 hP1 hD1 hS1 => ?_)
  rw [nh_ws_sa hsh] at hP1 hD1
  exact kk.2 p l e s m args below meth c H1 locs1 lsA D tA ad A Qc free C hP1 hD1 hS1 hl hq hf
theorem nE_cast {K : nh_K} {pc : Nat} {ls : List (Option Value)} {st : List Value} {σ : nh_S} {Q : Option Value → nh_S → Prop} {k n : Nat} {i x : Int32} (hsh : K.2.2.2.2.2[k]? = some (.inl (.char, n, none))) (hd : decode K.2.1 pc = .ok (.castore, 1)) (kk : vp_in i n ∧ nh_E K (pc + 1) ls st (nh_sa σ k (upd (σ.2.1 k) i.toNatClampNeg (vp_nar .char x))) Q) : nh_E K pc ls (.int x :: .int i :: .ref k :: st) σ Q := by
  intro p l e s m args below meth c H locs lsA D tA ad A Qc free C hP hD hS hl hq hf
  refine va_cast (f := σ.2.1 k) C.1 C.2.1 C.2.2.2.2.2.2.2.1 hP hD hS k 1 (nh_ws_at hsh tA ad σ) rfl kk.1 hd (fun H1 locs1 hP1 hD1 hS1 => ?_)
  rw [nh_ws_sa hsh] at hP1 hD1
  exact kk.2 p l e s m args below meth c H1 locs1 lsA D tA ad A Qc free C hP1 hD1 hS1 hl hq hf
theorem nE_zast {K : nh_K} {pc : Nat} {ls : List (Option Value)} {st : List Value} {σ : nh_S} {Q : Option Value → nh_S → Prop} {k n : Nat} {i x : Int32} (hsh : K.2.2.2.2.2[k]? = some (.inl (.boolean, n, none))) (hd : decode K.2.1 pc = .ok (.bastore, 1)) (kk : vp_in i n ∧ nh_E K (pc + 1) ls st (nh_sa σ k (upd (σ.2.1 k) i.toNatClampNeg (vp_nar .boolean x))) Q) : nh_E K pc ls (.int x :: .int i :: .ref k :: st) σ Q := by
  intro p l e s m args below meth c H locs lsA D tA ad A Qc free C hP hD hS hl hq hf
  refine va_zast (f := σ.2.1 k) C.1 C.2.1 C.2.2.2.2.2.2.2.1 hP hD hS k 2 (nh_ws_at hsh tA ad σ) rfl kk.1 hd (fun H1 locs1 hP1 hD1 hS1 => ?_)
  rw [nh_ws_sa hsh] at hP1 hD1
  exact kk.2 p l e s m args below meth c H1 locs1 lsA D tA ad A Qc free C hP1 hD1 hS1 hl hq hf
theorem nE_aald {K : nh_K} {pc : Nat} {ls : List (Option Value)} {st : List Value} {σ : nh_S} {Q : Option Value → nh_S → Prop} {k n b : Nat} {i : Int32} (hsh : K.2.2.2.2.2[k]? = some (.inl (.array .int, n, some b))) (hd : decode K.2.1 pc = .ok (.aaload, 1)) (kk : vp_in i n ∧ nh_E K (pc + 1) ls (.ref (b + i.toNatClampNeg) :: st) σ Q) : nh_E K pc ls (.int i :: .ref k :: st) σ Q := by
  intro p l e s m args below meth c H locs lsA D tA ad A Qc free C hP hD hS hl hq hf
  have hlt : i.toNatClampNeg < n := Nat.not_le.mp fun q => kk.1 (Or.inr q)
  have hat : H[ad k]? = some (vp_cell (tA (.array .int)) (n, .inr (.inr (.inr (.inr (fun i => if i < n then some (ad (b + i)) else none)))))) := hP k _ (nh_ws_at hsh tA ad σ)
  exact W.aald (v := .ref (ad (b + i.toNatClampNeg))) (ty := .array .int) C.1 C.2.1 hat ((C.2.2.2.2.2.2.2.1.2 3 _ rfl).1 n (fun j => va_rf (if j < n then some (ad (b + j)) else none))) rfl (fun q => by cases q) (by show ¬ (i < 0 ∨ (arrV _ _ _).slots.size ≤ _); rw [arrV_size]; exact kk.1) (by show (arrV _ _ _).slots[_]? = _; rw [arrV_read _ _ hlt]; show some (va_rf (if i.toNatClampNeg < n then some (ad (b + i.toNatClampNeg)) else none)) = _; rw [if_pos hlt]; rfl) rfl rfl hd (kk.2 p l e s m args below meth c H locs lsA D tA ad A Qc free C hP hD hS hl hq hf)
theorem nE_alen {K : nh_K} {pc : Nat} {ls : List (Option Value)} {st : List Value} {σ : nh_S} {Q : Option Value → nh_S → Prop} {k n : Nat} {ty : FieldType} (t0 : Nat) (ht : ∀ tA, (nh_ty tA)[t0]? = some (tA ty, ty)) (hsh : K.2.2.2.2.2[k]? = some (.inl (ty, n, none))) (hd : decode K.2.1 pc = .ok (.arraylength, 1)) (kk : nh_E K (pc + 1) ls (.int (Int32.ofNat n) :: st) σ Q) : nh_E K pc ls (.ref k :: st) σ Q := by
  intro p l e s m args below meth c H locs lsA D tA ad A Qc free C hP hD hS hl hq hf
  exact va_alen C.1 C.2.1 C.2.2.2.2.2.2.2.1 hP k t0 (nh_ws_at hsh tA ad σ) (ht tA) rfl hd (kk p l e s m args below meth c H locs lsA D tA ad A Qc free C hP hD hS hl hq hf)
theorem nE_iret {K : nh_K} {pc : Nat} {ls : List (Option Value)} {σ : nh_S} {Q : Option Value → nh_S → Prop} {x : Int32} (hd : decode K.2.1 pc = .ok (.ireturn, 1)) (hr : K.2.2.2.1 = some .int) (h : Q (some (.int x)) σ) : nh_E K pc ls [.int x] σ Q := by
  intro p l e s m args below meth c H locs lsA D tA ad A Qc free C hP hD hS hl hq hf
  exact W.iret (v := x) C.1 C.2.1 (by rw [C.2.2.2.1, hr]) (fun t ht hW => hq _ σ t locs h (by rw [ht]; exact hP) hD (by rw [ht]; exact hS) hW) (fun q h1 => hf _ (hS.2.2 q h1)) hd C.2.2.2.2.1
theorem nE_zret {K : nh_K} {pc : Nat} {ls : List (Option Value)} {σ : nh_S} {Q : Option Value → nh_S → Prop} {x : Int32} {ty : FieldType} (hd : decode K.2.1 pc = .ok (.ireturn, 1)) (hr : K.2.2.2.1 = some ty) (hn : narrow ty (.int x) = .int x) (h : Q (some (.int x)) σ) : nh_E K pc ls [.int x] σ Q := by
  intro p l e s m args below meth c H locs lsA D tA ad A Qc free C hP hD hS hl hq hf
  exact W.zret (v := x) (ty := ty) C.1 C.2.1 (by rw [C.2.2.2.1, hr]) hn (fun t ht hW => hq _ σ t locs h (by rw [ht]; exact hP) hD (by rw [ht]; exact hS) hW) (fun q h1 => hf _ (hS.2.2 q h1)) hd C.2.2.2.2.1
theorem nE_lret {K : nh_K} {pc : Nat} {ls : List (Option Value)} {σ : nh_S} {Q : Option Value → nh_S → Prop} {x : Int64} (hd : decode K.2.1 pc = .ok (.lreturn, 1)) (hr : K.2.2.2.1 = some .long) (h : Q (some (.long x)) σ) : nh_E K pc ls [.long x] σ Q := by
  intro p l e s m args below meth c H locs lsA D tA ad A Qc free C hP hD hS hl hq hf
  exact W.lret (v := x) C.1 C.2.1 (by rw [C.2.2.2.1, hr]) (fun t ht hW => hq _ σ t locs h (by rw [ht]; exact hP) hD (by rw [ht]; exact hS) hW) (fun q h1 => hf _ (hS.2.2 q h1)) hd C.2.2.2.2.1
theorem nE_vret {K : nh_K} {pc : Nat} {ls : List (Option Value)} {σ : nh_S} {Q : Option Value → nh_S → Prop} (hd : decode K.2.1 pc = .ok (.return_, 1)) (hr : K.2.2.2.1 = none) (h : Q none σ) : nh_E K pc ls [] σ Q := by
  intro p l e s m args below meth c H locs lsA D tA ad A Qc free C hP hD hS hl hq hf
  exact W.vret C.1 C.2.1 (by rw [C.2.2.2.1, hr]) (fun t ht hW => hq _ σ t locs h (by rw [ht]; exact hP) hD (by rw [ht]; exact hS) hW) (fun q h1 => hf _ (hS.2.2 q h1)) hd C.2.2.2.2.1
end
section
/-! CALLS -/
theorem nh_good : ∀ w ∈ nh_tb, goodWord w = true := by
  exact fun w hw => (List.mem_filter.mp hw).2
/-- the words of every method: its own code, and the tables -/
def nh_wd (K : nh_K) (y : MethodName) : List Cond := .code y K.2.1 K.2.2.1 K.2.2.2.1 :: nh_tb
/-- a method that can be called -/
def nh_Y (K : nh_K) (y : MethodName) (n : Nat) : Prop := Cond.code y K.2.1 K.2.2.1 K.2.2.2.1 ∈ nh_tb ∧ K.1 = y.cls ∧ Cond.initialized y.cls ∈ nh_tb ∧ plainName y.cls = true ∧ (y.cls ≠ "java/lang/invoke/MethodHandle" ∧ y.cls ≠ "java/lang/invoke/VarHandle" ∧ (parseMethodDescriptor y.desc).map (fun d => d.parameters.length) = some n) ∧ K.2.2.2.2.1.cells = 0 ∧ K.2.2.2.2.1.slots = 0
theorem nh_wd_good {K K' : nh_K} {y : MethodName} {n : Nat} (h : nh_Y K' y n) : GoodIn nh_tb (nh_wd K' y) := by
  intro w hw
  rcases List.mem_cons.mp hw with rfl | hw
  · exact ⟨h.1, good_of_word (nh_good _ h.1)⟩
  · exact ⟨hw, good_of_word (nh_good _ hw)⟩
/-- the world at a method's entry -/
def nh_W (K : nh_K) (D : va_G) (tA : FieldType → ClassId) (ad : Nat → Nat) (A : Nat → Prop) (σ : nh_S) (U : State) : Prop :=
  va_P D vwCl (nh_ws K.2.2.2.2.2 tA ad σ) U.heap ∧ va_D A (nh_ws K.2.2.2.2.2 tA ad σ) ∧ va_K D vwCl (nh_ty tA) U ∧ (∀ q : Nat, U.heap.size ≤ q → A q) ∧ nh_X ad A U
/-- its end -/
def nh_Z (K : nh_K) (D : va_G) (tA : FieldType → ClassId) (ad : Nat → Nat) (A : Nat → Prop) (Q : Option Value → nh_S → Prop) : Array Value → State → Outcome → State → Prop := fun _ s oc t =>
  ∃ (r : Option Value) (τ : nh_S), oc = .returned (r.map (nh_rv ad)) ∧ Q r τ ∧ va_P D vwCl (nh_ws K.2.2.2.2.2 tA ad τ) t.heap ∧ va_D A (nh_ws K.2.2.2.2.2 tA ad τ) ∧ va_F A s t
set_option maxHeartbeats 1000000 in
theorem nh_met {K : nh_K} {y : MethodName} {n : Nat} (l : Launch) (D : va_G) (tA : FieldType → ClassId) (ad : Nat → Nat) (A : Nat → Prop) {As : List Value} {σ : nh_S} {Q : Option Value → nh_S → Prop} (hy : nh_Y K y n) (hfit : (As.flatMap nh_e1).length ≤ K.2.2.1) (hE : nh_E K 0 (nh_en K.2.2.1 As) [] σ Q) :
    Met l y (nh_wd K y) K.2.2.2.2.1 (va_Pc (As.map (nh_rv ad)) (nh_W K D tA ad A σ)) (nh_Z K D tA ad A Q) 0 0 A := by
  refine Met.ofW (cc := K.2.1) (maxL := K.2.2.1) (ret := K.2.2.2.1) hy.2.2.2.1 rfl ?_
  intro p e s m args below meth c s₁ B hml hv
  obtain ⟨rfl, hP, hD, hK, hA, hX⟩ := hv
  have hts := atoms_spec (ws := nh_wd K y) B.pre
  have hown : s.vm.findClass y.cls = some m.cls := findClass_of_methodNamed B.named
  have hlen : (lg_sl (As.map (nh_rv ad))).length ≤ K.2.2.1 := by rw [nh_en_len]; exact hfit
  have hl := lv_entry (As.map (nh_rv ad)) (n := K.2.2.1) hlen
  rw [lg_entry_eq]
  generalize (lg_sl (As.map (nh_rv ad)) ++ List.replicate (K.2.2.1 - (lg_sl (As.map (nh_rv ad))).length) Slot.unset).toArray = lsA at hl ⊢
  have hh : nh_has ad lsA K.2.2.1 (nh_en K.2.2.1 As) := by
    refine ⟨hl.1, hl.2.1, ?_, fun i v hi => ?_⟩
    · unfold nh_en
      rw [List.length_append, List.length_replicate]
      omega
    · have h1 := nh_en_args ad As _ 0 i v hi
      rw [Nat.zero_add] at h1
      exact hl.2.2 _ h1
  refine hE p l e s m _ below meth c s.heap [] lsA D tA ad A _ A ⟨B.exec, B.bytes, hml, B.returns, B.notSynchronized, by rw [hy.2.1]; exact hown, fun w hw => hts w (List.mem_cons_of_mem _ hw), hK, hA, hX⟩ hP hD va_S.rf hh ?_ (fun _ h => h)
  intro r τ t locs' h1 h2 h3 h4 h5
  exact ⟨r, τ, rfl, h1, h2, h3, ⟨h4.1, h4.2.1⟩⟩
theorem nh_blind (K : nh_K) (D : va_G) (tA : FieldType → ClassId) (ad : Nat → Nat) (A : Nat → Prop) (σ : nh_S) (av : List Value) : FrameBlind (va_Pc av (nh_W K D tA ad A σ)) := by
  intro a U g mk h
  obtain ⟨h0, hP, hD, hK, hA, hX⟩ := h
  have hW : U.vm.Alike (U.calling g mk a).vm := Vm.Alike.refl U.vm
  refine ⟨h0, hP, hD, va_K.moved (u := U) (U := U.calling g mk a) hW hK, hA, ?_⟩
  obtain ⟨x1, x2, x3, x4⟩ := hX
  exact ⟨vk_S.moved (u := U) (U := U.calling g mk a) hW x1, fun q hq => (x2 q hq).same (u := U) (U := U.calling g mk a) rfl, va_Z.moved (u := U) (U := U.calling g mk a) hW x3, fun q hq => (x4 q hq).same rfl (u := U) (U := U.calling g mk a) rfl⟩
/-- behind a call: the caller goes on -/
theorem nh_back {K K' : nh_K} (hsh : K'.2.2.2.2.2 = K.2.2.2.2.2) {Q : Option Value → nh_S → Prop} {pc : Nat} {ls : List (Option Value)} {st : List Value} {p : Program} {l : Launch} {e : Env} {s : State} {m : MethodId} {args : Array Value} {below : List Frame} {meth : Method} {c : Code} {H : Heap} {locs : List Loc} {lsA : Array Slot} {D : va_G} {tA : FieldType → ClassId} {ad : Nat → Nat} {A : Nat → Prop} {Qc : Array Value → State → Outcome → State → Prop} {free : Addr → Prop} {a : Array Value} {st0 : List Value}
    (C : nh_C K p s m args meth c D tA ad A) (hS : va_S A s.heap H locs) (hl : nh_has ad lsA K.2.2.1 ls)
    (hq : ∀ (r : Option Value) (τ : nh_S) (t : State) (locs' : List Loc), Q r τ → va_P D vwCl (nh_ws K.2.2.2.2.2 tA ad τ) t.heap → va_D A (nh_ws K.2.2.2.2.2 tA ad τ) → va_S A s.heap t.heap locs' → s.WarmedH t.vm → Qc args s (.returned (r.map (nh_rv ad))) t) (hf : ∀ q, A q → free q)
    (hr : va_Run p l e K.2.2.2.2.1 s m args below meth c H locs 0 0 0 0 (F0 m pc lsA st0) (st.map (nh_rv ad)) (nh_Z K' D tA ad A (fun r τ => nh_E K (pc + 3) ls (r.toList ++ st) τ Q) a) A) :
    W p l e K.2.2.2.2.1 s m args below meth c H locs 0 0 (MQ below Qc args s 0 0 free) (F0 m pc lsA st0) := by
  intro T hT X
  obtain ⟨v, st₀, t, T', L, h0, X', hL, e1, e2, ⟨r, τ, hv, hE, hP1, hD1, hF⟩, go⟩ := hr T hT X
  cases hv
  rw [hsh] at hP1 hD1
  have hS1 : va_S A s.heap t.heap (locs ++ L) := by
    refine ⟨Nat.le_trans hS.1 (by rw [← h0]; exact hF.1), fun q h1 h2 => ?_, fun q hq => ?_⟩
    · rw [hF.2 q (by rw [h0]; exact Nat.lt_of_lt_of_le h1 hS.1) h2, h0]
      exact hS.2.1 q h1 h2
    · rcases List.mem_append.mp hq with h | h
      · exact hS.2.2 q h
      · exact hL q h
  have hk := hE p l e s m args below meth c t.heap (locs ++ L) lsA D tA ad A Qc free C hP1 hD1 hS1 hl hq hf
  obtain ⟨t2, a1, b1⟩ := hk T' e1 X'
  refine ⟨t2, go t2 ?_, b1⟩
  have e3 : (r.map (nh_rv ad)).toList ++ st.map (nh_rv ad) = (r.toList ++ st).map (nh_rv ad) := by
    cases r <;> rfl
  show Steps _ _ _ (T'.setTop { (F0 m pc lsA st0) with pc := pc + 3, stack := (r.map (nh_rv ad)).toList ++ st.map (nh_rv ad) }) t2
  rw [e3]
  exact a1
/-- the room of a callee in its caller's -/
def nh_rm (K K' : nh_K) : Prop := K'.2.2.2.2.1.frames + 1 ≤ K.2.2.2.2.1.frames ∧ 8 + (K'.2.2.1 + 11) + K'.2.2.2.2.1.locals ≤ K.2.2.2.2.1.locals
theorem nh_cats (ad : Nat → Nat) (st : List Value) : ((st.map (nh_rv ad)).map fun v => v.category).sum = (st.map fun v => v.category).sum := by
  rw [List.map_map]
  congr 1
  apply List.map_congr_left
  intro v _
  exact nh_rv_cat ad v
set_option maxHeartbeats 1000000 in
theorem nE_callV {K : nh_K} {pc : Nat} {ls : List (Option Value)} {st : List Value} {σ : nh_S} {Q : Option Value → nh_S → Prop} {b ci : Nat} {q : vw_C} {kds : List (Option (Option Nat))} {K' : nh_K} {y : MethodName} {n idx : Nat} {st0 As : List Value} (hy : nh_Y K' y n) (hrm : nh_rm K K') (hsh : K'.2.2.2.2.2 = K.2.2.2.2.2) (hcl : vwCl[ci]? = some q) (hrc : K.2.2.2.2.2[b]? = some (.inr (ci, kds))) (hcq : q.1 = y.cls) (hw : Cond.methodLink K.1 idx y ∈ nh_tb ∧ Cond.instanceMethod y ∈ nh_tb ∧ Cond.selects y.cls y y ∈ nh_tb) (hd : decode K.2.1 pc = .ok (.invokevirtual idx, 3)) (hs : st0 = As.reverse ++ .ref b :: st) (hn : As.length = n) (h8 : (st.map fun v => v.category).sum ≤ 8) (hfit : ((Value.ref b :: As).flatMap nh_e1).length ≤ K'.2.2.1)
    (kk : nh_E K' 0 (nh_en K'.2.2.1 (.ref b :: As)) [] σ (fun r τ => nh_E K (pc + 3) ls (r.toList ++ st) τ Q)) : nh_E K pc ls st0 σ Q := by
  intro p l e s m args below meth c H locs lsA D tA ad A Qc free C hP hD hS hl hq hf
  have hM := nh_met l D tA ad A hy hfit kk
  have hcb : ∀ {own : String}, (Cond.methodLink own idx y).before args s = true → CallB K.2.2.2.2.1 s args own idx y K'.2.1 K'.2.2.1 K'.2.2.2.1 (nh_wd K' y) K'.2.2.2.2.1 0 0 n := fun hl2 => callB_of n C.2.2.2.2.2.2.1 (nh_wd_good (K := K) hy) rfl hy.2.2.2.2.2.1 hy.2.2.2.2.2.2 (C.2.2.2.2.2.2.1 _ hy.2.2.1) hl2 hy.2.2.2.2.1 hrm
  refine nh_back hsh C hS hl hq hf (va_runV (b := ad b) (As := As.map (nh_rv ad)) (rest := st.map (nh_rv ad)) (Ts := nh_tb) ⟨C.1, C.2.1, C.2.2.1, C.2.2.2.2.2.1, C.2.2.2.2.2.2.1⟩ hM ⟨hcb (C.2.2.2.2.2.2.1 _ hw.1), C.2.2.2.2.2.2.1 _ hw.2.1, C.2.2.2.2.2.2.1 _ hw.2.2⟩ ⟨nh_blind K' D tA ad A σ (nh_rv ad (.ref b) :: As.map (nh_rv ad)), by rw [← hcq]; exact va_recv C.2.2.2.2.2.2.2.1 hP hcl (nh_ws_at hrc tA ad σ), fun U hU hW => ⟨rfl, by rw [hU, hsh]; exact hP, by rw [hsh]; exact hD, va_K.moved hW.alike C.2.2.2.2.2.2.2.1, fun q hq => C.2.2.2.2.2.2.2.2.1 q (Nat.le_trans hS.1 (by rw [← hU]; exact hq)), C.2.2.2.2.2.2.2.2.2.call hS hU hW⟩⟩ rfl (by rw [List.length_map]; exact hn) hl.1 (by show st0.map (nh_rv ad) = _; rw [hs]; simp [List.map_append, List.map_reverse, nh_rv]) (lv_room (by rw [nh_cats]; exact h8)) hd ⟨Nat.zero_le _, Nat.zero_le _⟩)
set_option maxHeartbeats 1000000 in
theorem nE_callS {K : nh_K} {pc : Nat} {ls : List (Option Value)} {st : List Value} {σ : nh_S} {Q : Option Value → nh_S → Prop} {K' : nh_K} {y : MethodName} {n idx : Nat} {st0 As : List Value} (hy : nh_Y K' y n) (hrm : nh_rm K K') (hsh : K'.2.2.2.2.2 = K.2.2.2.2.2) (hw : Cond.methodLink K.1 idx y ∈ nh_tb ∧ Cond.static y ∈ nh_tb) (hd : decode K.2.1 pc = .ok (.invokestatic idx, 3)) (hs : st0 = As.reverse ++ st) (hn : As.length = n) (h8 : (st.map fun v => v.category).sum ≤ 8) (hfit : (As.flatMap nh_e1).length ≤ K'.2.2.1)
    (kk : nh_E K' 0 (nh_en K'.2.2.1 As) [] σ (fun r τ => nh_E K (pc + 3) ls (r.toList ++ st) τ Q)) : nh_E K pc ls st0 σ Q := by
  intro p l e s m args below meth c H locs lsA D tA ad A Qc free C hP hD hS hl hq hf
  have hM := nh_met l D tA ad A hy hfit kk
  have hcb : ∀ {own : String}, (Cond.methodLink own idx y).before args s = true → CallB K.2.2.2.2.1 s args own idx y K'.2.1 K'.2.2.1 K'.2.2.2.1 (nh_wd K' y) K'.2.2.2.2.1 0 0 n := fun hl2 => callB_of n C.2.2.2.2.2.2.1 (nh_wd_good (K := K) hy) rfl hy.2.2.2.2.2.1 hy.2.2.2.2.2.2 (C.2.2.2.2.2.2.1 _ hy.2.2.1) hl2 hy.2.2.2.2.1 hrm
  refine nh_back hsh C hS hl hq hf (va_runS (As := As.map (nh_rv ad)) (rest := st.map (nh_rv ad)) (Ts := nh_tb) ⟨C.1, C.2.1, C.2.2.1, C.2.2.2.2.2.1, C.2.2.2.2.2.2.1⟩ hM ⟨hcb (C.2.2.2.2.2.2.1 _ hw.1), C.2.2.2.2.2.2.1 _ hw.2⟩ ⟨nh_blind K' D tA ad A σ (As.map (nh_rv ad)), fun U hU hW => ⟨rfl, by rw [hU, hsh]; exact hP, by rw [hsh]; exact hD, va_K.moved hW.alike C.2.2.2.2.2.2.2.1, fun q hq => C.2.2.2.2.2.2.2.2.1 q (Nat.le_trans hS.1 (by rw [← hU]; exact hq)), C.2.2.2.2.2.2.2.2.2.call hS hU hW⟩⟩ rfl (by rw [List.length_map]; exact hn) hl.1 (by show st0.map (nh_rv ad) = _; rw [hs]; simp [List.map_append, List.map_reverse, nh_rv]) (lv_room (by rw [nh_cats]; exact h8)) hd ⟨Nat.zero_le _, Nat.zero_le _⟩)
set_option maxHeartbeats 1000000 in
theorem nE_callN {K : nh_K} {pc : Nat} {ls : List (Option Value)} {st : List Value} {σ : nh_S} {Q : Option Value → nh_S → Prop} {K' : nh_K} {y : MethodName} {n idx : Nat} {st0 As : List Value} (hy : nh_Y K' y n) (hrm : nh_rm K K') (hsh : K'.2.2.2.2.2 = K.2.2.2.2.2) {host : String} (hw : (K.1, idx, y, host) ∈ nh_nst ∧ Cond.static y ∈ nh_tb) (hd : decode K.2.1 pc = .ok (.invokestatic idx, 3)) (hs : st0 = As.reverse ++ st) (hn : As.length = n) (h8 : (st.map fun v => v.category).sum ≤ 8) (hfit : (As.flatMap nh_e1).length ≤ K'.2.2.1)
    (kk : nh_E K' 0 (nh_en K'.2.2.1 As) [] σ (fun r τ => nh_E K (pc + 3) ls (r.toList ++ st) τ Q)) : nh_E K pc ls st0 σ Q := by
  intro p l e s m args below meth c H locs lsA D tA ad A Qc free C hP hD hS hl hq hf
  have hM := nh_met l D tA ad A hy hfit kk
  have hcb : ∀ {own : String}, (Cond.methodLink own idx y).before args s = true → CallB K.2.2.2.2.1 s args own idx y K'.2.1 K'.2.2.1 K'.2.2.2.1 (nh_wd K' y) K'.2.2.2.2.1 0 0 n := fun hl2 => callB_of n C.2.2.2.2.2.2.1 (nh_wd_good (K := K) hy) rfl hy.2.2.2.2.2.1 hy.2.2.2.2.2.2 (C.2.2.2.2.2.2.1 _ hy.2.2.1) hl2 hy.2.2.2.2.1 hrm
  refine nh_back hsh C hS hl hq hf (va_runSN (As := As.map (nh_rv ad)) (rest := st.map (nh_rv ad)) (Ts := nh_tb) ⟨C.1, C.2.1, C.2.2.1, C.2.2.2.2.2.1, C.2.2.2.2.2.2.1⟩ hM ⟨va_cnB (host := host) n C.2.2.2.2.2.2.1 (nh_wd_good (K := K) hy) rfl hy.2.2.2.2.2.1 hy.2.2.2.2.2.2 (C.2.2.2.2.2.2.2.2.2.2.2.2 _ hw.1) (C.2.2.2.2.2.2.1 _ hy.2.2.1) hy.2.2.2.2.1 hrm, C.2.2.2.2.2.2.1 _ hw.2, trivial⟩ ⟨nh_blind K' D tA ad A σ (As.map (nh_rv ad)), fun U hU hW => ⟨rfl, by rw [hU, hsh]; exact hP, by rw [hsh]; exact hD, va_K.moved hW.alike C.2.2.2.2.2.2.2.1, fun q hq => C.2.2.2.2.2.2.2.2.1 q (Nat.le_trans hS.1 (by rw [← hU]; exact hq)), C.2.2.2.2.2.2.2.2.2.call hS hU hW⟩⟩ rfl (by rw [List.length_map]; exact hn) hl.1 (by show st0.map (nh_rv ad) = _; rw [hs]; simp [List.map_append, List.map_reverse, nh_rv]) (lv_room (by rw [nh_cats]; exact h8)) hd ⟨Nat.zero_le _, Nat.zero_le _⟩)
theorem nE_mmax {K : nh_K} {pc : Nat} {ls : List (Option Value)} {st : List Value} {σ : nh_S} {Q : Option Value → nh_S → Prop} {x y : Int32} {idx : Nat} (hw : Cond.methodLink K.1 idx Lib.Math.max.name ∈ nh_tb ∧ Cond.static Lib.Math.max.name ∈ nh_tb ∧ Cond.initialized "java/lang/Math" ∈ nh_tb ∧ Cond.code Lib.Math.max.name Lib.Math.max.code 2 (some .int) ∈ nh_tb) (hrm : 1 ≤ K.2.2.2.2.1.frames ∧ (st.map fun v => v.category).sum + 13 ≤ K.2.2.2.2.1.locals) (hd : decode K.2.1 pc = .ok (.invokestatic idx, 3)) (kk : nh_E K (pc + 3) ls (.int (if x < y then y else x) :: st) σ Q) : nh_E K pc ls (.int y :: .int x :: st) σ Q := by
  intro p l e s m args below meth c H locs lsA D tA ad A Qc free C hP hD hS hl hq hf
  exact va_mmax C.1 C.2.1 (by rw [hl.1]; exact C.2.2.1) C.2.2.2.2.2.1 (C.2.2.2.2.2.2.1 _ hw.1) (C.2.2.2.2.2.2.1 _ hw.2.1) (C.2.2.2.2.2.2.1 _ hw.2.2.1) (C.2.2.2.2.2.2.1 _ hw.2.2.2) hrm.1 (by rw [nh_cats]; exact hrm.2) (Nat.zero_le _) (Nat.zero_le _) hd (kk p l e s m args below meth c H locs lsA D tA ad A Qc free C hP hD hS hl hq hf)
theorem nE_mmin {K : nh_K} {pc : Nat} {ls : List (Option Value)} {st : List Value} {σ : nh_S} {Q : Option Value → nh_S → Prop} {x y : Int32} {idx : Nat} (hw : Cond.methodLink K.1 idx Lib.Math.min.name ∈ nh_tb ∧ Cond.static Lib.Math.min.name ∈ nh_tb ∧ Cond.initialized "java/lang/Math" ∈ nh_tb ∧ Cond.code Lib.Math.min.name Lib.Math.min.code 2 (some .int) ∈ nh_tb) (hrm : 1 ≤ K.2.2.2.2.1.frames ∧ (st.map fun v => v.category).sum + 13 ≤ K.2.2.2.2.1.locals) (hd : decode K.2.1 pc = .ok (.invokestatic idx, 3)) (kk : nh_E K (pc + 3) ls (.int (if y < x then y else x) :: st) σ Q) : nh_E K pc ls (.int y :: .int x :: st) σ Q := by
  intro p l e s m args below meth c H locs lsA D tA ad A Qc free C hP hD hS hl hq hf
  exact va_mmin C.1 C.2.1 (by rw [hl.1]; exact C.2.2.1) C.2.2.2.2.2.1 (C.2.2.2.2.2.2.1 _ hw.1) (C.2.2.2.2.2.2.1 _ hw.2.1) (C.2.2.2.2.2.2.1 _ hw.2.2.1) (C.2.2.2.2.2.2.1 _ hw.2.2.2) hrm.1 (by rw [nh_cats]; exact hrm.2) (Nat.zero_le _) (Nat.zero_le _) hd (kk p l e s m args below meth c H locs lsA D tA ad A Qc free C hP hD hS hl hq hf)
theorem nE_acopy {K : nh_K} {pc : Nat} {ls : List (Option Value)} {st : List Value} {σ : nh_S} {Q : Option Value → nh_S → Prop} {k0 k1 n0 n1 idx : Nat} {sp dp n : Int32} (hw : Cond.methodLink K.1 idx arraycopyName ∈ nh_tb ∧ Cond.native arraycopyName ∈ nh_tb ∧ Cond.static arraycopyName ∈ nh_tb ∧ Cond.initialized "java/lang/System" ∈ nh_tb) (h0 : K.2.2.2.2.2[k0]? = some (.inl (.int, n0, none))) (h1 : K.2.2.2.2.2[k1]? = some (.inl (.int, n1, none))) (hrm : 1 ≤ K.2.2.2.2.1.frames ∧ (st.map fun v => v.category).sum + (nativeFrameWords "java/lang/System" "arraycopy" 5 + 11) ≤ K.2.2.2.2.1.locals) (hd : decode K.2.1 pc = .ok (.invokestatic idx, 3))
    (kk : (¬ sp < 0 ∧ ¬ dp < 0 ∧ ¬ n < 0 ∧ sp.toNatClampNeg + n.toNatClampNeg ≤ n0 ∧ dp.toNatClampNeg + n.toNatClampNeg ≤ n1) ∧ nh_E K (pc + 3) ls st (nh_sa σ k1 (va_cpy (σ.2.1 k0) (σ.2.1 k1) sp.toNatClampNeg dp.toNatClampNeg n.toNatClampNeg)) Q) : nh_E K pc ls (.int n :: .int dp :: .ref k1 :: .int sp :: .ref k0 :: st) σ Q := by
  intro p l e s m args below meth c H locs lsA D tA ad A Qc free C hP hD hS hl hq hf
  obtain ⟨⟨z1, z2, z3, z4, z5⟩, kk⟩ := kk
  refine va_copyi (f := σ.2.1 k0) (g := σ.2.1 k1) (ty := .int) C.1 C.2.1 (by rw [hl.1]; exact C.2.2.1) C.2.2.2.2.2.1 (C.2.2.2.2.2.2.1 _ hw.1) (C.2.2.2.2.2.2.1 _ hw.2.1) (C.2.2.2.2.2.2.1 _ hw.2.2.1) (C.2.2.2.2.2.2.1 _ hw.2.2.2) C.2.2.2.2.2.2.2.1 hP hD hS k0 k1 0 0 (nh_ws_at h0 tA ad σ) (nh_ws_at h1 tA ad σ) rfl rfl rfl z1 z2 z3 z4 z5 (fun _ _ => rfl) hrm.1 (by rw [nh_cats]; exact hrm.2) hd (fun H1 locs1 hP1 hD1 hS1 => ?_)
  rw [nh_ws_sa h1] at hP1 hD1
  exact kk p l e s m args below meth c H1 locs1 lsA D tA ad A Qc free C hP1 hD1 hS1 hl hq hf
end
