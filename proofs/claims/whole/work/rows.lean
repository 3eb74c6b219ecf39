section
-- ===== PART A: goes FIRST, ahead of the names: the tables' words, and 'selects' of the private methods out of them =====
/-- a private method of a class that the tables say can be made, by its rows of tables_1 -/
def lw_okq (q : MethodName × Nat) : Prop := (q.1.cls ≠ "java/lang/invoke/MethodHandle" ∧ q.1.cls ≠ "java/lang/invoke/VarHandle") ∧ Cond.instantiable q.1.cls q.2 ∈ tables_1 ∧ Cond.privateMethod q.1 ∈ tables_1 ∧ Cond.instanceMethod q.1 ∈ tables_1
theorem lw_p0 : lw_okq (⟨"RankStairs$Tape", "takeToken", "()V"⟩, 10) := ⟨⟨by decide +kernel, by decide +kernel⟩, List.mem_of_getElem? (i := 27) (by decide +kernel), List.mem_of_getElem? (i := 312) (by decide +kernel), List.mem_of_getElem? (i := 313) (by decide +kernel)⟩
theorem lw_p1 : lw_okq (⟨"RankStairs$Tape", "refuse", "(II)V"⟩, 10) := ⟨⟨by decide +kernel, by decide +kernel⟩, List.mem_of_getElem? (i := 27) (by decide +kernel), List.mem_of_getElem? (i := 319) (by decide +kernel), List.mem_of_getElem? (i := 320) (by decide +kernel)⟩
theorem lw_p2 : lw_okq (⟨"RankStairs$Tape", "takeLine", "(LRankStairs$House;)V"⟩, 10) := ⟨⟨by decide +kernel, by decide +kernel⟩, List.mem_of_getElem? (i := 27) (by decide +kernel), List.mem_of_getElem? (i := 323) (by decide +kernel), List.mem_of_getElem? (i := 324) (by decide +kernel)⟩
theorem lw_p3 : lw_okq (⟨"RankStairs$Tape", "lineOfName", "()I"⟩, 10) := ⟨⟨by decide +kernel, by decide +kernel⟩, List.mem_of_getElem? (i := 27) (by decide +kernel), List.mem_of_getElem? (i := 327) (by decide +kernel), List.mem_of_getElem? (i := 328) (by decide +kernel)⟩
theorem lw_p4 : lw_okq (⟨"RankStairs$Tape", "isTokenNamed", "(Ljava/lang/String;)Z"⟩, 10) := ⟨⟨by decide +kernel, by decide +kernel⟩, List.mem_of_getElem? (i := 27) (by decide +kernel), List.mem_of_getElem? (i := 341) (by decide +kernel), List.mem_of_getElem? (i := 342) (by decide +kernel)⟩
theorem lw_p5 : lw_okq (⟨"RankStairs$Tape", "refuseOneTooMany", "(LRankStairs$House;I)V"⟩, 10) := ⟨⟨by decide +kernel, by decide +kernel⟩, List.mem_of_getElem? (i := 27) (by decide +kernel), List.mem_of_getElem? (i := 393) (by decide +kernel), List.mem_of_getElem? (i := 394) (by decide +kernel)⟩
theorem lw_p6 : lw_okq (⟨"RankStairs$Tape", "takeNumber", "(II)V"⟩, 10) := ⟨⟨by decide +kernel, by decide +kernel⟩, List.mem_of_getElem? (i := 27) (by decide +kernel), List.mem_of_getElem? (i := 399) (by decide +kernel), List.mem_of_getElem? (i := 400) (by decide +kernel)⟩
theorem lw_p7 : lw_okq (⟨"RankStairs$Tape", "takeTokenIfSound", "()V"⟩, 10) := ⟨⟨by decide +kernel, by decide +kernel⟩, List.mem_of_getElem? (i := 27) (by decide +kernel), List.mem_of_getElem? (i := 407) (by decide +kernel), List.mem_of_getElem? (i := 408) (by decide +kernel)⟩
theorem lw_p8 : lw_okq (⟨"RankStairs$Tape", "tellLine", "(LRankStairs$House;I)V"⟩, 10) := ⟨⟨by decide +kernel, by decide +kernel⟩, List.mem_of_getElem? (i := 27) (by decide +kernel), List.mem_of_getElem? (i := 411) (by decide +kernel), List.mem_of_getElem? (i := 412) (by decide +kernel)⟩
theorem lw_p9 : lw_okq (⟨"RankStairs", "forgetImages", "()V"⟩, 11) := ⟨⟨by decide +kernel, by decide +kernel⟩, List.mem_of_getElem? (i := 19) (by decide +kernel), List.mem_of_getElem? (i := 433) (by decide +kernel), List.mem_of_getElem? (i := 434) (by decide +kernel)⟩
theorem lw_p10 : lw_okq (⟨"RankStairs", "isStep", "(I)Z"⟩, 11) := ⟨⟨by decide +kernel, by decide +kernel⟩, List.mem_of_getElem? (i := 19) (by decide +kernel), List.mem_of_getElem? (i := 449) (by decide +kernel), List.mem_of_getElem? (i := 450) (by decide +kernel)⟩
theorem lw_p11 : lw_okq (⟨"RankStairs", "isLodger", "(I)Z"⟩, 11) := ⟨⟨by decide +kernel, by decide +kernel⟩, List.mem_of_getElem? (i := 19) (by decide +kernel), List.mem_of_getElem? (i := 468) (by decide +kernel), List.mem_of_getElem? (i := 469) (by decide +kernel)⟩
theorem lw_p12 : lw_okq (⟨"RankStairs$House", "isNear", "(II)Z"⟩, 12) := ⟨⟨by decide +kernel, by decide +kernel⟩, List.mem_of_getElem? (i := 68) (by decide +kernel), List.mem_of_getElem? (i := 488) (by decide +kernel), List.mem_of_getElem? (i := 489) (by decide +kernel)⟩
theorem lw_p13 : lw_okq (⟨"RankStairs$Exchange", "takeFrom", "(IIIII)V"⟩, 6) := ⟨⟨by decide +kernel, by decide +kernel⟩, List.mem_of_getElem? (i := 156) (by decide +kernel), List.mem_of_getElem? (i := 685) (by decide +kernel), List.mem_of_getElem? (i := 686) (by decide +kernel)⟩
theorem lw_p14 : lw_okq (⟨"RankStairs$Chances", "passStep", "(II)V"⟩, 2) := ⟨⟨by decide +kernel, by decide +kernel⟩, List.mem_of_getElem? (i := 184) (by decide +kernel), List.mem_of_getElem? (i := 705) (by decide +kernel), List.mem_of_getElem? (i := 706) (by decide +kernel)⟩
theorem lw_p15 : lw_okq (⟨"RankStairs$Dust", "searchFrom", "(I)I"⟩, 7) := ⟨⟨by decide +kernel, by decide +kernel⟩, List.mem_of_getElem? (i := 198) (by decide +kernel), List.mem_of_getElem? (i := 743) (by decide +kernel), List.mem_of_getElem? (i := 744) (by decide +kernel)⟩
def lw_privs_1 : List (MethodName × Nat) := [(⟨"RankStairs$Tape", "takeToken", "()V"⟩, 10), (⟨"RankStairs$Tape", "refuse", "(II)V"⟩, 10), (⟨"RankStairs$Tape", "takeLine", "(LRankStairs$House;)V"⟩, 10), (⟨"RankStairs$Tape", "lineOfName", "()I"⟩, 10), (⟨"RankStairs$Tape", "isTokenNamed", "(Ljava/lang/String;)Z"⟩, 10), (⟨"RankStairs$Tape", "refuseOneTooMany", "(LRankStairs$House;I)V"⟩, 10), (⟨"RankStairs$Tape", "takeNumber", "(II)V"⟩, 10), (⟨"RankStairs$Tape", "takeTokenIfSound", "()V"⟩, 10), (⟨"RankStairs$Tape", "tellLine", "(LRankStairs$House;I)V"⟩, 10), (⟨"RankStairs", "forgetImages", "()V"⟩, 11), (⟨"RankStairs", "isStep", "(I)Z"⟩, 11), (⟨"RankStairs", "isLodger", "(I)Z"⟩, 11), (⟨"RankStairs$House", "isNear", "(II)Z"⟩, 12), (⟨"RankStairs$Exchange", "takeFrom", "(IIIII)V"⟩, 6), (⟨"RankStairs$Chances", "passStep", "(II)V"⟩, 2), (⟨"RankStairs$Dust", "searchFrom", "(I)I"⟩, 7)]
theorem lw_r1 : ∀ q ∈ lw_privs_1, lw_okq q := List.forall_mem_cons.mpr ⟨lw_p0, List.forall_mem_cons.mpr ⟨lw_p1, List.forall_mem_cons.mpr ⟨lw_p2, List.forall_mem_cons.mpr ⟨lw_p3, List.forall_mem_cons.mpr ⟨lw_p4, List.forall_mem_cons.mpr ⟨lw_p5, List.forall_mem_cons.mpr ⟨lw_p6, List.forall_mem_cons.mpr ⟨lw_p7, List.forall_mem_cons.mpr ⟨lw_p8, List.forall_mem_cons.mpr ⟨lw_p9, List.forall_mem_cons.mpr ⟨lw_p10, List.forall_mem_cons.mpr ⟨lw_p11, List.forall_mem_cons.mpr ⟨lw_p12, List.forall_mem_cons.mpr ⟨lw_p13, List.forall_mem_cons.mpr ⟨lw_p14, List.forall_mem_cons.mpr ⟨lw_p15, fun _ h => absurd h List.not_mem_nil⟩⟩⟩⟩⟩⟩⟩⟩⟩⟩⟩⟩⟩⟩⟩⟩
theorem lw_p16 : lw_okq (⟨"RankStairs$Dust", "canBeSo", "(I)Z"⟩, 7) := ⟨⟨by decide +kernel, by decide +kernel⟩, List.mem_of_getElem? (i := 198) (by decide +kernel), List.mem_of_getElem? (i := 747) (by decide +kernel), List.mem_of_getElem? (i := 748) (by decide +kernel)⟩
theorem lw_p17 : lw_okq (⟨"RankStairs$Dust", "searchBehind", "(II)I"⟩, 7) := ⟨⟨by decide +kernel, by decide +kernel⟩, List.mem_of_getElem? (i := 198) (by decide +kernel), List.mem_of_getElem? (i := 754) (by decide +kernel), List.mem_of_getElem? (i := 755) (by decide +kernel)⟩
theorem lw_p18 : lw_okq (⟨"RankStairs", "countImages", "()I"⟩, 11) := ⟨⟨by decide +kernel, by decide +kernel⟩, List.mem_of_getElem? (i := 19) (by decide +kernel), List.mem_of_getElem? (i := 825) (by decide +kernel), List.mem_of_getElem? (i := 826) (by decide +kernel)⟩
theorem lw_p19 : lw_okq (⟨"RankStairsModel", "goesOn", "()V"⟩, 35) := ⟨⟨by decide +kernel, by decide +kernel⟩, List.mem_of_getElem? (i := 834) (by decide +kernel), List.mem_of_getElem? (i := 962) (by decide +kernel), List.mem_of_getElem? (i := 963) (by decide +kernel)⟩
theorem lw_p20 : lw_okq (⟨"RankStairsModel", "byteAt", "(I)I"⟩, 35) := ⟨⟨by decide +kernel, by decide +kernel⟩, List.mem_of_getElem? (i := 834) (by decide +kernel), List.mem_of_getElem? (i := 966) (by decide +kernel), List.mem_of_getElem? (i := 967) (by decide +kernel)⟩
theorem lw_p21 : lw_okq (⟨"RankStairsModel", "fails", "(I)V"⟩, 35) := ⟨⟨by decide +kernel, by decide +kernel⟩, List.mem_of_getElem? (i := 834) (by decide +kernel), List.mem_of_getElem? (i := 974) (by decide +kernel), List.mem_of_getElem? (i := 975) (by decide +kernel)⟩
theorem lw_p22 : lw_okq (⟨"RankStairsModel", "readLine", "()V"⟩, 35) := ⟨⟨by decide +kernel, by decide +kernel⟩, List.mem_of_getElem? (i := 834) (by decide +kernel), List.mem_of_getElem? (i := 978) (by decide +kernel), List.mem_of_getElem? (i := 979) (by decide +kernel)⟩
theorem lw_p23 : lw_okq (⟨"RankStairsModel", "nameHere", "()I"⟩, 35) := ⟨⟨by decide +kernel, by decide +kernel⟩, List.mem_of_getElem? (i := 834) (by decide +kernel), List.mem_of_getElem? (i := 982) (by decide +kernel), List.mem_of_getElem? (i := 983) (by decide +kernel)⟩
theorem lw_p24 : lw_okq (⟨"RankStairsModel", "readMore", "(I)V"⟩, 35) := ⟨⟨by decide +kernel, by decide +kernel⟩, List.mem_of_getElem? (i := 834) (by decide +kernel), List.mem_of_getElem? (i := 987) (by decide +kernel), List.mem_of_getElem? (i := 988) (by decide +kernel)⟩
theorem lw_p25 : lw_okq (⟨"RankStairsModel", "number", "(II)I"⟩, 35) := ⟨⟨by decide +kernel, by decide +kernel⟩, List.mem_of_getElem? (i := 834) (by decide +kernel), List.mem_of_getElem? (i := 991) (by decide +kernel), List.mem_of_getElem? (i := 992) (by decide +kernel)⟩
theorem lw_p26 : lw_okq (⟨"RankStairsModel", "holdOn", "(I)I"⟩, 35) := ⟨⟨by decide +kernel, by decide +kernel⟩, List.mem_of_getElem? (i := 834) (by decide +kernel), List.mem_of_getElem? (i := 1003) (by decide +kernel), List.mem_of_getElem? (i := 1004) (by decide +kernel)⟩
theorem lw_p27 : lw_okq (⟨"RankStairsModel", "isStep", "(I)Z"⟩, 35) := ⟨⟨by decide +kernel, by decide +kernel⟩, List.mem_of_getElem? (i := 834) (by decide +kernel), List.mem_of_getElem? (i := 1011) (by decide +kernel), List.mem_of_getElem? (i := 1012) (by decide +kernel)⟩
theorem lw_p28 : lw_okq (⟨"RankStairsModel", "rankOn", "(II)I"⟩, 35) := ⟨⟨by decide +kernel, by decide +kernel⟩, List.mem_of_getElem? (i := 834) (by decide +kernel), List.mem_of_getElem? (i := 1015) (by decide +kernel), List.mem_of_getElem? (i := 1016) (by decide +kernel)⟩
theorem lw_p29 : lw_okq (⟨"RankStairsModel", "isBroken", "(II)Z"⟩, 35) := ⟨⟨by decide +kernel, by decide +kernel⟩, List.mem_of_getElem? (i := 834) (by decide +kernel), List.mem_of_getElem? (i := 1019) (by decide +kernel), List.mem_of_getElem? (i := 1020) (by decide +kernel)⟩
theorem lw_p30 : lw_okq (⟨"RankStairsModel", "isLodger", "(I)Z"⟩, 35) := ⟨⟨by decide +kernel, by decide +kernel⟩, List.mem_of_getElem? (i := 834) (by decide +kernel), List.mem_of_getElem? (i := 1027) (by decide +kernel), List.mem_of_getElem? (i := 1028) (by decide +kernel)⟩
theorem lw_p31 : lw_okq (⟨"RankStairsModel", "reachOn", "(II)I"⟩, 35) := ⟨⟨by decide +kernel, by decide +kernel⟩, List.mem_of_getElem? (i := 834) (by decide +kernel), List.mem_of_getElem? (i := 1031) (by decide +kernel), List.mem_of_getElem? (i := 1032) (by decide +kernel)⟩
def lw_privs_2 : List (MethodName × Nat) := [(⟨"RankStairs$Dust", "canBeSo", "(I)Z"⟩, 7), (⟨"RankStairs$Dust", "searchBehind", "(II)I"⟩, 7), (⟨"RankStairs", "countImages", "()I"⟩, 11), (⟨"RankStairsModel", "goesOn", "()V"⟩, 35), (⟨"RankStairsModel", "byteAt", "(I)I"⟩, 35), (⟨"RankStairsModel", "fails", "(I)V"⟩, 35), (⟨"RankStairsModel", "readLine", "()V"⟩, 35), (⟨"RankStairsModel", "nameHere", "()I"⟩, 35), (⟨"RankStairsModel", "readMore", "(I)V"⟩, 35), (⟨"RankStairsModel", "number", "(II)I"⟩, 35), (⟨"RankStairsModel", "holdOn", "(I)I"⟩, 35), (⟨"RankStairsModel", "isStep", "(I)Z"⟩, 35), (⟨"RankStairsModel", "rankOn", "(II)I"⟩, 35), (⟨"RankStairsModel", "isBroken", "(II)Z"⟩, 35), (⟨"RankStairsModel", "isLodger", "(I)Z"⟩, 35), (⟨"RankStairsModel", "reachOn", "(II)I"⟩, 35)]
theorem lw_r2 : ∀ q ∈ lw_privs_2, lw_okq q := List.forall_mem_cons.mpr ⟨lw_p16, List.forall_mem_cons.mpr ⟨lw_p17, List.forall_mem_cons.mpr ⟨lw_p18, List.forall_mem_cons.mpr ⟨lw_p19, List.forall_mem_cons.mpr ⟨lw_p20, List.forall_mem_cons.mpr ⟨lw_p21, List.forall_mem_cons.mpr ⟨lw_p22, List.forall_mem_cons.mpr ⟨lw_p23, List.forall_mem_cons.mpr ⟨lw_p24, List.forall_mem_cons.mpr ⟨lw_p25, List.forall_mem_cons.mpr ⟨lw_p26, List.forall_mem_cons.mpr ⟨lw_p27, List.forall_mem_cons.mpr ⟨lw_p28, List.forall_mem_cons.mpr ⟨lw_p29, List.forall_mem_cons.mpr ⟨lw_p30, List.forall_mem_cons.mpr ⟨lw_p31, fun _ h => absurd h List.not_mem_nil⟩⟩⟩⟩⟩⟩⟩⟩⟩⟩⟩⟩⟩⟩⟩⟩
theorem lw_p32 : lw_okq (⟨"RankStairsModel", "isLoaded", "(II)Z"⟩, 35) := ⟨⟨by decide +kernel, by decide +kernel⟩, List.mem_of_getElem? (i := 834) (by decide +kernel), List.mem_of_getElem? (i := 1035) (by decide +kernel), List.mem_of_getElem? (i := 1036) (by decide +kernel)⟩
theorem lw_p33 : lw_okq (⟨"RankStairsModel", "trodden", "(I)I"⟩, 35) := ⟨⟨by decide +kernel, by decide +kernel⟩, List.mem_of_getElem? (i := 834) (by decide +kernel), List.mem_of_getElem? (i := 1039) (by decide +kernel), List.mem_of_getElem? (i := 1040) (by decide +kernel)⟩
theorem lw_p34 : lw_okq (⟨"RankStairsModel", "mayTread", "(III)Z"⟩, 35) := ⟨⟨by decide +kernel, by decide +kernel⟩, List.mem_of_getElem? (i := 834) (by decide +kernel), List.mem_of_getElem? (i := 1043) (by decide +kernel), List.mem_of_getElem? (i := 1044) (by decide +kernel)⟩
theorem lw_p35 : lw_okq (⟨"RankStairsModel", "sets", "(ZII)I"⟩, 35) := ⟨⟨by decide +kernel, by decide +kernel⟩, List.mem_of_getElem? (i := 834) (by decide +kernel), List.mem_of_getElem? (i := 1052) (by decide +kernel), List.mem_of_getElem? (i := 1053) (by decide +kernel)⟩
theorem lw_p36 : lw_okq (⟨"RankStairsModel", "climbOn", "(II)I"⟩, 35) := ⟨⟨by decide +kernel, by decide +kernel⟩, List.mem_of_getElem? (i := 834) (by decide +kernel), List.mem_of_getElem? (i := 1093) (by decide +kernel), List.mem_of_getElem? (i := 1094) (by decide +kernel)⟩
theorem lw_p37 : lw_okq (⟨"RankStairsModel", "layFewest", "(II)V"⟩, 35) := ⟨⟨by decide +kernel, by decide +kernel⟩, List.mem_of_getElem? (i := 834) (by decide +kernel), List.mem_of_getElem? (i := 1097) (by decide +kernel), List.mem_of_getElem? (i := 1098) (by decide +kernel)⟩
theorem lw_p38 : lw_okq (⟨"RankStairsModel", "wornOver", "(I)I"⟩, 35) := ⟨⟨by decide +kernel, by decide +kernel⟩, List.mem_of_getElem? (i := 834) (by decide +kernel), List.mem_of_getElem? (i := 1109) (by decide +kernel), List.mem_of_getElem? (i := 1110) (by decide +kernel)⟩
theorem lw_p39 : lw_okq (⟨"RankStairsModel", "hasClimb", "(II)Z"⟩, 35) := ⟨⟨by decide +kernel, by decide +kernel⟩, List.mem_of_getElem? (i := 834) (by decide +kernel), List.mem_of_getElem? (i := 1113) (by decide +kernel), List.mem_of_getElem? (i := 1114) (by decide +kernel)⟩
theorem lw_p40 : lw_okq (⟨"RankStairsModel", "homesOn", "(I)I"⟩, 35) := ⟨⟨by decide +kernel, by decide +kernel⟩, List.mem_of_getElem? (i := 834) (by decide +kernel), List.mem_of_getElem? (i := 1121) (by decide +kernel), List.mem_of_getElem? (i := 1122) (by decide +kernel)⟩
theorem lw_p41 : lw_okq (⟨"RankStairsModel", "daysOn", "(II)I"⟩, 35) := ⟨⟨by decide +kernel, by decide +kernel⟩, List.mem_of_getElem? (i := 834) (by decide +kernel), List.mem_of_getElem? (i := 1133) (by decide +kernel), List.mem_of_getElem? (i := 1134) (by decide +kernel)⟩
theorem lw_p42 : lw_okq (⟨"RankStairsModel", "goes", "(II)Z"⟩, 35) := ⟨⟨by decide +kernel, by decide +kernel⟩, List.mem_of_getElem? (i := 834) (by decide +kernel), List.mem_of_getElem? (i := 1137) (by decide +kernel), List.mem_of_getElem? (i := 1138) (by decide +kernel)⟩
theorem lw_p43 : lw_okq (⟨"RankStairsModel", "copies", "(II)V"⟩, 35) := ⟨⟨by decide +kernel, by decide +kernel⟩, List.mem_of_getElem? (i := 834) (by decide +kernel), List.mem_of_getElem? (i := 1145) (by decide +kernel), List.mem_of_getElem? (i := 1146) (by decide +kernel)⟩
theorem lw_p44 : lw_okq (⟨"RankStairsModel", "brokenOn", "(I)I"⟩, 35) := ⟨⟨by decide +kernel, by decide +kernel⟩, List.mem_of_getElem? (i := 834) (by decide +kernel), List.mem_of_getElem? (i := 1149) (by decide +kernel), List.mem_of_getElem? (i := 1150) (by decide +kernel)⟩
theorem lw_p45 : lw_okq (⟨"RankStairsModel", "laysFloors", "(I)Z"⟩, 35) := ⟨⟨by decide +kernel, by decide +kernel⟩, List.mem_of_getElem? (i := 834) (by decide +kernel), List.mem_of_getElem? (i := 1184) (by decide +kernel), List.mem_of_getElem? (i := 1185) (by decide +kernel)⟩
theorem lw_p46 : lw_okq (⟨"RankStairsModel", "meanOf", "(III)J"⟩, 35) := ⟨⟨by decide +kernel, by decide +kernel⟩, List.mem_of_getElem? (i := 834) (by decide +kernel), List.mem_of_getElem? (i := 1192) (by decide +kernel), List.mem_of_getElem? (i := 1193) (by decide +kernel)⟩
theorem lw_p47 : lw_okq (⟨"RankStairsModel", "allFloors", "()I"⟩, 35) := ⟨⟨by decide +kernel, by decide +kernel⟩, List.mem_of_getElem? (i := 834) (by decide +kernel), List.mem_of_getElem? (i := 1217) (by decide +kernel), List.mem_of_getElem? (i := 1218) (by decide +kernel)⟩
def lw_privs_3 : List (MethodName × Nat) := [(⟨"RankStairsModel", "isLoaded", "(II)Z"⟩, 35), (⟨"RankStairsModel", "trodden", "(I)I"⟩, 35), (⟨"RankStairsModel", "mayTread", "(III)Z"⟩, 35), (⟨"RankStairsModel", "sets", "(ZII)I"⟩, 35), (⟨"RankStairsModel", "climbOn", "(II)I"⟩, 35), (⟨"RankStairsModel", "layFewest", "(II)V"⟩, 35), (⟨"RankStairsModel", "wornOver", "(I)I"⟩, 35), (⟨"RankStairsModel", "hasClimb", "(II)Z"⟩, 35), (⟨"RankStairsModel", "homesOn", "(I)I"⟩, 35), (⟨"RankStairsModel", "daysOn", "(II)I"⟩, 35), (⟨"RankStairsModel", "goes", "(II)Z"⟩, 35), (⟨"RankStairsModel", "copies", "(II)V"⟩, 35), (⟨"RankStairsModel", "brokenOn", "(I)I"⟩, 35), (⟨"RankStairsModel", "laysFloors", "(I)Z"⟩, 35), (⟨"RankStairsModel", "meanOf", "(III)J"⟩, 35), (⟨"RankStairsModel", "allFloors", "()I"⟩, 35)]
theorem lw_r3 : ∀ q ∈ lw_privs_3, lw_okq q := List.forall_mem_cons.mpr ⟨lw_p32, List.forall_mem_cons.mpr ⟨lw_p33, List.forall_mem_cons.mpr ⟨lw_p34, List.forall_mem_cons.mpr ⟨lw_p35, List.forall_mem_cons.mpr ⟨lw_p36, List.forall_mem_cons.mpr ⟨lw_p37, List.forall_mem_cons.mpr ⟨lw_p38, List.forall_mem_cons.mpr ⟨lw_p39, List.forall_mem_cons.mpr ⟨lw_p40, List.forall_mem_cons.mpr ⟨lw_p41, List.forall_mem_cons.mpr ⟨lw_p42, List.forall_mem_cons.mpr ⟨lw_p43, List.forall_mem_cons.mpr ⟨lw_p44, List.forall_mem_cons.mpr ⟨lw_p45, List.forall_mem_cons.mpr ⟨lw_p46, List.forall_mem_cons.mpr ⟨lw_p47, fun _ h => absurd h List.not_mem_nil⟩⟩⟩⟩⟩⟩⟩⟩⟩⟩⟩⟩⟩⟩⟩⟩
theorem lw_p48 : lw_okq (⟨"RankStairsModel", "isAsSeen", "(I)Z"⟩, 35) := ⟨⟨by decide +kernel, by decide +kernel⟩, List.mem_of_getElem? (i := 834) (by decide +kernel), List.mem_of_getElem? (i := 1221) (by decide +kernel), List.mem_of_getElem? (i := 1222) (by decide +kernel)⟩
theorem lw_p49 : lw_okq (⟨"RankStairsModel", "floorOf", "(II)I"⟩, 35) := ⟨⟨by decide +kernel, by decide +kernel⟩, List.mem_of_getElem? (i := 834) (by decide +kernel), List.mem_of_getElem? (i := 1225) (by decide +kernel), List.mem_of_getElem? (i := 1226) (by decide +kernel)⟩
def lw_privs_4 : List (MethodName × Nat) := [(⟨"RankStairsModel", "isAsSeen", "(I)Z"⟩, 35), (⟨"RankStairsModel", "floorOf", "(II)I"⟩, 35)]
theorem lw_r4 : ∀ q ∈ lw_privs_4, lw_okq q := List.forall_mem_cons.mpr ⟨lw_p48, List.forall_mem_cons.mpr ⟨lw_p49, fun _ h => absurd h List.not_mem_nil⟩⟩
def lw_privs : List (MethodName × Nat) := lw_privs_1 ++ (lw_privs_2 ++ (lw_privs_3 ++ (lw_privs_4)))
def lw_tbl : List Cond := k2_sels lw_privs ++ tables_1
theorem lw_privs_ok : ∀ q ∈ lw_privs, lw_okq q := by
  show ∀ q ∈ lw_privs_1 ++ (lw_privs_2 ++ (lw_privs_3 ++ (lw_privs_4))), lw_okq q
  exact List.forall_mem_append.mpr ⟨lw_r1, List.forall_mem_append.mpr ⟨lw_r2, List.forall_mem_append.mpr ⟨lw_r3, lw_r4⟩⟩⟩
end
section
def RX0 : String := "RankStairs$Chances"
def TX0 : u_T := fun k => match k with
  | 0 => ("RankStairs$Chances", "shares", "[J", true)
  | _ => ("RankStairs$Chances", "above", "[J", true)
def tyX0 : Nat → FieldType := fun k => match k with
  | 0 => .array .long
  | _ => .array .long
abbrev wsX00 : List Cond := u_ws RX0 TX0 2
theorem nmX0 : ∀ a, a < 2 → ∀ b, b < 2 → a ≠ b → (TX0 a).2.1 ≠ (TX0 b).2.1 := by decide +kernel
theorem tyX0_ok : ∀ k, k < 2 → parseFieldDescriptor (TX0 k).2.2.1 = some (tyX0 k) := by decide +kernel
abbrev cX0_init : ByteArray := prog_2_method_1_code
def yX0_init : MethodName := ⟨RX0, "<init>", "()V"⟩
abbrev cX0_ofHome : ByteArray := prog_2_method_2_code
def yX0_ofHome : MethodName := ⟨RX0, "ofHome", "(LRankStairs$House;II)J"⟩
abbrev cX0_passStep : ByteArray := prog_2_method_3_code
def yX0_passStep : MethodName := ⟨RX0, "passStep", "(II)V"⟩
abbrev cX0_lowest : ByteArray := prog_2_method_4_code
def yX0_lowest : MethodName := ⟨RX0, "lowest", "(JI)J"⟩
def RX1 : String := "RankStairs$Climber"
def TX1 : u_T := fun k => match k with
  | 0 => ("RankStairs$Climber", "paths", "[I", true)
  | _ => ("RankStairs$Climber", "row", "[I", true)
def tyX1 : Nat → FieldType := fun k => match k with
  | 0 => .array .int
  | _ => .array .int
abbrev wsX10 : List Cond := u_ws RX1 TX1 2
theorem nmX1 : ∀ a, a < 2 → ∀ b, b < 2 → a ≠ b → (TX1 a).2.1 ≠ (TX1 b).2.1 := by decide +kernel
theorem tyX1_ok : ∀ k, k < 2 → parseFieldDescriptor (TX1 k).2.2.1 = some (tyX1 k) := by decide +kernel
abbrev cX1_init : ByteArray := prog_3_method_1_code
def yX1_init : MethodName := ⟨RX1, "<init>", "()V"⟩
abbrev cX1_shortest : ByteArray := prog_3_method_2_code
def yX1_shortest : MethodName := ⟨RX1, "shortest", "(LRankStairs$House;I)I"⟩
abbrev cX1_findPaths : ByteArray := prog_3_method_3_code
def yX1_findPaths : MethodName := ⟨RX1, "findPaths", "(III[I)V"⟩
abbrev cX1_shortestOf : ByteArray := prog_3_method_4_code
def yX1_shortestOf : MethodName := ⟨RX1, "shortestOf", "([III)I"⟩
abbrev cX1_shorter : ByteArray := prog_3_method_5_code
def yX1_shorter : MethodName := ⟨RX1, "shorter", "(II)I"⟩
abbrev cX1_countClimbs : ByteArray := prog_3_method_6_code
def yX1_countClimbs : MethodName := ⟨RX1, "countClimbs", "(LRankStairs$House;I)I"⟩
abbrev cX1_leastWorst : ByteArray := prog_3_method_7_code
def yX1_leastWorst : MethodName := ⟨RX1, "leastWorst", "(LRankStairs$House;I)I"⟩
abbrev cX1_fewestWithin : ByteArray := prog_3_method_8_code
def yX1_fewestWithin : MethodName := ⟨RX1, "fewestWithin", "(LRankStairs$House;II)I"⟩
abbrev cX1_goes : ByteArray := prog_3_method_9_code
def yX1_goes : MethodName := ⟨RX1, "goes", "(LRankStairs$House;I)Z"⟩
abbrev cX1_goDay : ByteArray := prog_3_method_10_code
def yX1_goDay : MethodName := ⟨RX1, "goDay", "(LRankStairs$House;)I"⟩
abbrev cX1_goDays : ByteArray := prog_3_method_11_code
def yX1_goDays : MethodName := ⟨RX1, "goDays", "(LRankStairs$House;I)I"⟩
def RX2 : String := "RankStairs$Dust"
def TX2 : u_T := fun k => match k with
  | 0 => ("RankStairs$Dust", "seen", "I", false)
  | 1 => ("RankStairs$Dust", "floorBits", "[I", true)
  | 2 => ("RankStairs$Dust", "seenSteps", "[I", true)
  | 3 => ("RankStairs$Dust", "seenMore", "[I", true)
  | 4 => ("RankStairs$Dust", "trial", "LRankStairs$House;", true)
  | 5 => ("RankStairs$Dust", "wearsAt", "[[I", true)
  | _ => ("RankStairs$Dust", "pathsAt", "[[I", true)
def tyX2 : Nat → FieldType := fun k => match k with
  | 0 => .int
  | 1 => .array .int
  | 2 => .array .int
  | 3 => .array .int
  | 4 => .object "RankStairs$House"
  | 5 => .array (.array .int)
  | _ => .array (.array .int)
abbrev wsX20 : List Cond := u_ws RX2 TX2 7
theorem nmX2 : ∀ a, a < 7 → ∀ b, b < 7 → a ≠ b → (TX2 a).2.1 ≠ (TX2 b).2.1 := by decide +kernel
theorem tyX2_ok : ∀ k, k < 7 → parseFieldDescriptor (TX2 k).2.2.1 = some (tyX2 k) := by decide +kernel
abbrev cX2_init : ByteArray := prog_4_method_1_code
def yX2_init : MethodName := ⟨RX2, "<init>", "()V"⟩
abbrev cX2_note : ByteArray := prog_4_method_2_code
def yX2_note : MethodName := ⟨RX2, "note", "(II)I"⟩
abbrev cX2_search : ByteArray := prog_4_method_3_code
def yX2_search : MethodName := ⟨RX2, "search", "(LRankStairs$House;)I"⟩
abbrev cX2_searchFrom : ByteArray := prog_4_method_4_code
def yX2_searchFrom : MethodName := ⟨RX2, "searchFrom", "(I)I"⟩
abbrev cX2_searchBehind : ByteArray := prog_4_method_5_code
def yX2_searchBehind : MethodName := ⟨RX2, "searchBehind", "(II)I"⟩
abbrev cX2_canBeSo : ByteArray := prog_4_method_6_code
def yX2_canBeSo : MethodName := ⟨RX2, "canBeSo", "(I)Z"⟩
def RX3 : String := "RankStairs$Exchange"
def TX3 : u_T := fun k => match k with
  | 0 => ("RankStairs$Exchange", "bestHave", "I", false)
  | 1 => ("RankStairs$Exchange", "bestSteps", "I", false)
  | 2 => ("RankStairs$Exchange", "bestTakes", "[I", true)
  | 3 => ("RankStairs$Exchange", "takes", "[I", true)
  | 4 => ("RankStairs$Exchange", "paths", "[I", true)
  | _ => ("RankStairs$Exchange", "lengths", "[I", true)
def tyX3 : Nat → FieldType := fun k => match k with
  | 0 => .int
  | 1 => .int
  | 2 => .array .int
  | 3 => .array .int
  | 4 => .array .int
  | _ => .array .int
abbrev wsX30 : List Cond := u_ws RX3 TX3 6
theorem nmX3 : ∀ a, a < 6 → ∀ b, b < 6 → a ≠ b → (TX3 a).2.1 ≠ (TX3 b).2.1 := by decide +kernel
theorem tyX3_ok : ∀ k, k < 6 → parseFieldDescriptor (TX3 k).2.2.1 = some (tyX3 k) := by decide +kernel
abbrev cX3_init : ByteArray := prog_5_method_1_code
def yX3_init : MethodName := ⟨RX3, "<init>", "()V"⟩
abbrev cX3_arrange : ByteArray := prog_5_method_2_code
def yX3_arrange : MethodName := ⟨RX3, "arrange", "(LRankStairs$House;)V"⟩
abbrev cX3_takeFrom : ByteArray := prog_5_method_3_code
def yX3_takeFrom : MethodName := ⟨RX3, "takeFrom", "(IIIII)V"⟩
def RX4 : String := "RankStairs$House"
def TX4 : u_T := fun k => match k with
  | 0 => ("RankStairs$House", "steps", "I", false)
  | 1 => ("RankStairs$House", "lodgers", "I", false)
  | 2 => ("RankStairs$House", "gapLaw", "I", false)
  | 3 => ("RankStairs$House", "holdLaw", "I", false)
  | 4 => ("RankStairs$House", "dayNumber", "I", false)
  | 5 => ("RankStairs$House", "kinds", "[I", true)
  | 6 => ("RankStairs$House", "years", "[I", true)
  | 7 => ("RankStairs$House", "wears", "[I", true)
  | 8 => ("RankStairs$House", "legsOf", "[I", true)
  | 9 => ("RankStairs$House", "rankOf", "[I", true)
  | 10 => ("RankStairs$House", "loadOf", "[I", true)
  | _ => ("RankStairs$House", "floorOf", "[I", true)
def tyX4 : Nat → FieldType := fun k => match k with
  | 0 => .int
  | 1 => .int
  | 2 => .int
  | 3 => .int
  | 4 => .int
  | 5 => .array .int
  | 6 => .array .int
  | 7 => .array .int
  | 8 => .array .int
  | 9 => .array .int
  | 10 => .array .int
  | _ => .array .int
abbrev wsX40 : List Cond := u_ws RX4 TX4 12
theorem nmX4 : ∀ a, a < 12 → ∀ b, b < 12 → a ≠ b → (TX4 a).2.1 ≠ (TX4 b).2.1 := by decide +kernel
theorem tyX4_ok : ∀ k, k < 12 → parseFieldDescriptor (TX4 k).2.2.1 = some (tyX4 k) := by decide +kernel
abbrev cX4_init : ByteArray := prog_6_method_1_code
def yX4_init : MethodName := ⟨RX4, "<init>", "()V"⟩
abbrev cX4_empty : ByteArray := prog_6_method_2_code
def yX4_empty : MethodName := ⟨RX4, "empty", "()V"⟩
abbrev cX4_copyFrom : ByteArray := prog_6_method_3_code
def yX4_copyFrom : MethodName := ⟨RX4, "copyFrom", "(LRankStairs$House;)V"⟩
abbrev cX4_addStep : ByteArray := prog_6_method_4_code
def yX4_addStep : MethodName := ⟨RX4, "addStep", "(III)V"⟩
abbrev cX4_addLodger : ByteArray := prog_6_method_5_code
def yX4_addLodger : MethodName := ⟨RX4, "addLodger", "(IIII)V"⟩
abbrev cX4_renew : ByteArray := prog_6_method_6_code
def yX4_renew : MethodName := ⟨RX4, "renew", "(I)V"⟩
abbrev cX4_rankOfStep : ByteArray := prog_6_method_7_code
def yX4_rankOfStep : MethodName := ⟨RX4, "rankOfStep", "(I)I"⟩
abbrev cX4_isBroken : ByteArray := prog_6_method_8_code
def yX4_isBroken : MethodName := ⟨RX4, "isBroken", "(I)Z"⟩
abbrev cX4_brokenBits : ByteArray := prog_6_method_9_code
def yX4_brokenBits : MethodName := ⟨RX4, "brokenBits", "()I"⟩
abbrev cX4_mostWear : ByteArray := prog_6_method_10_code
def yX4_mostWear : MethodName := ⟨RX4, "mostWear", "()I"⟩
abbrev cX4_allWear : ByteArray := prog_6_method_11_code
def yX4_allWear : MethodName := ⟨RX4, "allWear", "()I"⟩
abbrev cX4_isHeavy : ByteArray := prog_6_method_12_code
def yX4_isHeavy : MethodName := ⟨RX4, "isHeavy", "(I)Z"⟩
abbrev cX4_reachOf : ByteArray := prog_6_method_13_code
def yX4_reachOf : MethodName := ⟨RX4, "reachOf", "(I)I"⟩
abbrev cX4_treadBits : ByteArray := prog_6_method_14_code
def yX4_treadBits : MethodName := ⟨RX4, "treadBits", "(I)I"⟩
abbrev cX4_isNear : ByteArray := prog_6_method_15_code
def yX4_isNear : MethodName := ⟨RX4, "isNear", "(II)Z"⟩
abbrev cX4_getsHome : ByteArray := prog_6_method_16_code
def yX4_getsHome : MethodName := ⟨RX4, "getsHome", "(I)Z"⟩
abbrev cX4_getsHomeBy : ByteArray := prog_6_method_17_code
def yX4_getsHomeBy : MethodName := ⟨RX4, "getsHomeBy", "(II)Z"⟩
abbrev cX4_homeBits : ByteArray := prog_6_method_18_code
def yX4_homeBits : MethodName := ⟨RX4, "homeBits", "()I"⟩
abbrev cX4_wearBy : ByteArray := prog_6_method_19_code
def yX4_wearBy : MethodName := ⟨RX4, "wearBy", "(II)V"⟩
def RX5 : String := "RankStairs$Sheet"
def TX5 : u_T := fun k => match k with
  | 0 => ("RankStairs$Sheet", "size", "I", false)
  | 1 => ("RankStairs$Sheet", "cells", "[I", true)
  | _ => ("RankStairs$Sheet", "itsLane", "I", false)
def tyX5 : Nat → FieldType := fun k => match k with
  | 0 => .int
  | 1 => .array .int
  | _ => .int
abbrev wsX50 : List Cond := u_ws RX5 TX5 3
theorem nmX5 : ∀ a, a < 3 → ∀ b, b < 3 → a ≠ b → (TX5 a).2.1 ≠ (TX5 b).2.1 := by decide +kernel
theorem tyX5_ok : ∀ k, k < 3 → parseFieldDescriptor (TX5 k).2.2.1 = some (tyX5 k) := by decide +kernel
abbrev cX5_init : ByteArray := prog_7_method_1_code
def yX5_init : MethodName := ⟨RX5, "<init>", "()V"⟩
abbrev cX5_isNothing : ByteArray := prog_7_method_2_code
def yX5_isNothing : MethodName := ⟨RX5, "isNothing", "()Z"⟩
abbrev cX5_renew : ByteArray := prog_7_method_3_code
def yX5_renew : MethodName := ⟨RX5, "renew", "(II)V"⟩
abbrev cX5_faultAs : ByteArray := prog_7_method_4_code
def yX5_faultAs : MethodName := ⟨RX5, "faultAs", "(II)I"⟩
abbrev cX5_faultAt : ByteArray := prog_7_method_5_code
def yX5_faultAt : MethodName := ⟨RX5, "faultAt", "(I)I"⟩
abbrev cX5_put : ByteArray := prog_7_method_6_code
def yX5_put : MethodName := ⟨RX5, "put", "(II)V"⟩
def RX6 : String := "RankStairs$Tape"
def TX6 : u_T := fun k => match k with
  | 0 => ("RankStairs$Tape", "length", "I", false)
  | 1 => ("RankStairs$Tape", "found", "I", false)
  | 2 => ("RankStairs$Tape", "foundAt", "I", false)
  | 3 => ("RankStairs$Tape", "bytes", "[B", true)
  | 4 => ("RankStairs$Tape", "numbers", "[I", true)
  | 5 => ("RankStairs$Tape", "place", "I", false)
  | 6 => ("RankStairs$Tape", "token", "I", false)
  | 7 => ("RankStairs$Tape", "tokenAt", "I", false)
  | 8 => ("RankStairs$Tape", "gapTold", "Z", false)
  | _ => ("RankStairs$Tape", "holdTold", "Z", false)
def tyX6 : Nat → FieldType := fun k => match k with
  | 0 => .int
  | 1 => .int
  | 2 => .int
  | 3 => .array .byte
  | 4 => .array .int
  | 5 => .int
  | 6 => .int
  | 7 => .int
  | 8 => .boolean
  | _ => .boolean
abbrev wsX60 : List Cond := u_ws RX6 TX6 10
theorem nmX6 : ∀ a, a < 10 → ∀ b, b < 10 → a ≠ b → (TX6 a).2.1 ≠ (TX6 b).2.1 := by decide +kernel
theorem tyX6_ok : ∀ k, k < 10 → parseFieldDescriptor (TX6 k).2.2.1 = some (tyX6 k) := by decide +kernel
abbrev cX6_init : ByteArray := prog_8_method_1_code
def yX6_init : MethodName := ⟨RX6, "<init>", "()V"⟩
abbrev cX6_put : ByteArray := prog_8_method_2_code
def yX6_put : MethodName := ⟨RX6, "put", "(I)I"⟩
abbrev cX6_tell : ByteArray := prog_8_method_3_code
def yX6_tell : MethodName := ⟨RX6, "tell", "(LRankStairs$House;)I"⟩
abbrev cX6_hasLostFloor : ByteArray := prog_8_method_4_code
def yX6_hasLostFloor : MethodName := ⟨RX6, "hasLostFloor", "(LRankStairs$House;)Z"⟩
abbrev cX6_takeLine : ByteArray := prog_8_method_5_code
def yX6_takeLine : MethodName := ⟨RX6, "takeLine", "(LRankStairs$House;)V"⟩
abbrev cX6_refuseOneTooMany : ByteArray := prog_8_method_6_code
def yX6_refuseOneTooMany : MethodName := ⟨RX6, "refuseOneTooMany", "(LRankStairs$House;I)V"⟩
abbrev cX6_takeNumber : ByteArray := prog_8_method_7_code
def yX6_takeNumber : MethodName := ⟨RX6, "takeNumber", "(II)V"⟩
abbrev cX6_tellLine : ByteArray := prog_8_method_8_code
def yX6_tellLine : MethodName := ⟨RX6, "tellLine", "(LRankStairs$House;I)V"⟩
abbrev cX6_takeTokenIfSound : ByteArray := prog_8_method_9_code
def yX6_takeTokenIfSound : MethodName := ⟨RX6, "takeTokenIfSound", "()V"⟩
abbrev cX6_takeToken : ByteArray := prog_8_method_10_code
def yX6_takeToken : MethodName := ⟨RX6, "takeToken", "()V"⟩
abbrev cX6_kindOfByte : ByteArray := prog_8_method_11_code
def yX6_kindOfByte : MethodName := ⟨RX6, "kindOfByte", "(I)I"⟩
abbrev cX6_lineOfName : ByteArray := prog_8_method_12_code
def yX6_lineOfName : MethodName := ⟨RX6, "lineOfName", "()I"⟩
abbrev cX6_isTokenNamed : ByteArray := prog_8_method_13_code
def yX6_isTokenNamed : MethodName := ⟨RX6, "isTokenNamed", "(Ljava/lang/String;)Z"⟩
abbrev cX6_nameOfLine : ByteArray := prog_8_method_14_code
def yX6_nameOfLine : MethodName := ⟨RX6, "nameOfLine", "(I)Ljava/lang/String;"⟩
abbrev cX6_refuse : ByteArray := prog_8_method_15_code
def yX6_refuse : MethodName := ⟨RX6, "refuse", "(II)V"⟩
def RX7 : String := "RankStairs"
def TX7 : u_T := fun k => match k with
  | 0 => ("RankStairs", "tape", "LRankStairs$Tape;", true)
  | 1 => ("RankStairs", "now", "LRankStairs$House;", true)
  | 2 => ("RankStairs", "trial", "LRankStairs$House;", true)
  | 3 => ("RankStairs", "images", "[LRankStairs$House;", true)
  | 4 => ("RankStairs", "kept", "[Z", true)
  | 5 => ("RankStairs", "climber", "LRankStairs$Climber;", true)
  | 6 => ("RankStairs", "exchange", "LRankStairs$Exchange;", true)
  | 7 => ("RankStairs", "chances", "LRankStairs$Chances;", true)
  | 8 => ("RankStairs", "dust", "LRankStairs$Dust;", true)
  | 9 => ("RankStairs", "sheets", "[LRankStairs$Sheet;", true)
  | _ => ("RankStairs", "readFault", "I", false)
def tyX7 : Nat → FieldType := fun k => match k with
  | 0 => .object "RankStairs$Tape"
  | 1 => .object "RankStairs$House"
  | 2 => .object "RankStairs$House"
  | 3 => .array (.object "RankStairs$House")
  | 4 => .array .boolean
  | 5 => .object "RankStairs$Climber"
  | 6 => .object "RankStairs$Exchange"
  | 7 => .object "RankStairs$Chances"
  | 8 => .object "RankStairs$Dust"
  | 9 => .array (.object "RankStairs$Sheet")
  | _ => .int
abbrev wsX70 : List Cond := u_ws RX7 TX7 11
theorem nmX7 : ∀ a, a < 11 → ∀ b, b < 11 → a ≠ b → (TX7 a).2.1 ≠ (TX7 b).2.1 := by decide +kernel
theorem tyX7_ok : ∀ k, k < 11 → parseFieldDescriptor (TX7 k).2.2.1 = some (tyX7 k) := by decide +kernel
abbrev cX7_init : ByteArray := prog_1_method_1_code
def yX7_init : MethodName := ⟨RX7, "<init>", "()V"⟩
abbrev cX7_feed : ByteArray := prog_1_method_2_code
def yX7_feed : MethodName := ⟨RX7, "feed", "(I)I"⟩
abbrev cX7_end : ByteArray := prog_1_method_3_code
def yX7_end : MethodName := ⟨RX7, "end", "(I)I"⟩
abbrev cX7_text : ByteArray := prog_1_method_4_code
def yX7_text : MethodName := ⟨RX7, "text", "()I"⟩
abbrev cX7_fault : ByteArray := prog_1_method_5_code
def yX7_fault : MethodName := ⟨RX7, "fault", "()I"⟩
abbrev cX7_rule : ByteArray := prog_1_method_6_code
def yX7_rule : MethodName := ⟨RX7, "rule", "(I)I"⟩
abbrev cX7_step : ByteArray := prog_1_method_7_code
def yX7_step : MethodName := ⟨RX7, "step", "(II)I"⟩
abbrev cX7_lodger : ByteArray := prog_1_method_8_code
def yX7_lodger : MethodName := ⟨RX7, "lodger", "(II)I"⟩
abbrev cX7_age : ByteArray := prog_1_method_9_code
def yX7_age : MethodName := ⟨RX7, "age", "(II)I"⟩
abbrev cX7_wear : ByteArray := prog_1_method_10_code
def yX7_wear : MethodName := ⟨RX7, "wear", "(II)I"⟩
abbrev cX7_mend : ByteArray := prog_1_method_11_code
def yX7_mend : MethodName := ⟨RX7, "mend", "(I)I"⟩
abbrev cX7_rank : ByteArray := prog_1_method_12_code
def yX7_rank : MethodName := ⟨RX7, "rank", "(II)I"⟩
abbrev cX7_load : ByteArray := prog_1_method_13_code
def yX7_load : MethodName := ⟨RX7, "load", "(II)I"⟩
abbrev cX7_move : ByteArray := prog_1_method_14_code
def yX7_move : MethodName := ⟨RX7, "move", "(II)I"⟩
abbrev cX7_law : ByteArray := prog_1_method_15_code
def yX7_law : MethodName := ⟨RX7, "law", "(II)I"⟩
abbrev cX7_year : ByteArray := prog_1_method_16_code
def yX7_year : MethodName := ⟨RX7, "year", "()I"⟩
abbrev cX7_climb : ByteArray := prog_1_method_17_code
def yX7_climb : MethodName := ⟨RX7, "climb", "(II)I"⟩
abbrev cX7_ways : ByteArray := prog_1_method_18_code
def yX7_ways : MethodName := ⟨RX7, "ways", "(I)I"⟩
abbrev cX7_smooth : ByteArray := prog_1_method_19_code
def yX7_smooth : MethodName := ⟨RX7, "smooth", "(II)I"⟩
abbrev cX7_homes : ByteArray := prog_1_method_20_code
def yX7_homes : MethodName := ⟨RX7, "homes", "()I"⟩
abbrev cX7_must : ByteArray := prog_1_method_21_code
def yX7_must : MethodName := ⟨RX7, "must", "(I)I"⟩
abbrev cX7_day : ByteArray := prog_1_method_22_code
def yX7_day : MethodName := ⟨RX7, "day", "(I)I"⟩
abbrev cX7_ahead : ByteArray := prog_1_method_23_code
def yX7_ahead : MethodName := ⟨RX7, "ahead", "(II)I"⟩
abbrev cX7_breaks : ByteArray := prog_1_method_24_code
def yX7_breaks : MethodName := ⟨RX7, "breaks", "(I)I"⟩
abbrev cX7_stuck : ByteArray := prog_1_method_25_code
def yX7_stuck : MethodName := ⟨RX7, "stuck", "(I)I"⟩
abbrev cX7_gap : ByteArray := prog_1_method_26_code
def yX7_gap : MethodName := ⟨RX7, "gap", "(I)I"⟩
abbrev cX7_legs : ByteArray := prog_1_method_27_code
def yX7_legs : MethodName := ⟨RX7, "legs", "(I)I"⟩
abbrev cX7_hold : ByteArray := prog_1_method_28_code
def yX7_hold : MethodName := ⟨RX7, "hold", "(I)I"⟩
abbrev cX7_best : ByteArray := prog_1_method_29_code
def yX7_best : MethodName := ⟨RX7, "best", "(I)I"⟩
abbrev cX7_lodge : ByteArray := prog_1_method_30_code
def yX7_lodge : MethodName := ⟨RX7, "lodge", "(I)I"⟩
abbrev cX7_odds : ByteArray := prog_1_method_31_code
def yX7_odds : MethodName := ⟨RX7, "odds", "(III)J"⟩
abbrev cX7_mean : ByteArray := prog_1_method_32_code
def yX7_mean : MethodName := ⟨RX7, "mean", "(II)J"⟩
abbrev cX7_see : ByteArray := prog_1_method_33_code
def yX7_see : MethodName := ⟨RX7, "see", "(II)I"⟩
abbrev cX7_forget : ByteArray := prog_1_method_34_code
def yX7_forget : MethodName := ⟨RX7, "forget", "(I)I"⟩
abbrev cX7_fits : ByteArray := prog_1_method_35_code
def yX7_fits : MethodName := ⟨RX7, "fits", "()I"⟩
abbrev cX7_floors : ByteArray := prog_1_method_36_code
def yX7_floors : MethodName := ⟨RX7, "floors", "(I)I"⟩
abbrev cX7_drift : ByteArray := prog_1_method_37_code
def yX7_drift : MethodName := ⟨RX7, "drift", "(III)I"⟩
abbrev cX7_keep : ByteArray := prog_1_method_38_code
def yX7_keep : MethodName := ⟨RX7, "keep", "(I)I"⟩
abbrev cX7_back : ByteArray := prog_1_method_39_code
def yX7_back : MethodName := ⟨RX7, "back", "(I)I"⟩
abbrev cX7_sheet : ByteArray := prog_1_method_40_code
def yX7_sheet : MethodName := ⟨RX7, "sheet", "(III)I"⟩
abbrev cX7_lay : ByteArray := prog_1_method_41_code
def yX7_lay : MethodName := ⟨RX7, "lay", "(III)I"⟩
abbrev cX7_read : ByteArray := prog_1_method_42_code
def yX7_read : MethodName := ⟨RX7, "read", "(IIII)I"⟩
abbrev cX7_torn : ByteArray := prog_1_method_43_code
def yX7_torn : MethodName := ⟨RX7, "torn", "()I"⟩
abbrev cX7_count : ByteArray := prog_1_method_44_code
def yX7_count : MethodName := ⟨RX7, "count", "(I)I"⟩
abbrev cX7_isStep : ByteArray := prog_1_method_45_code
def yX7_isStep : MethodName := ⟨RX7, "isStep", "(I)Z"⟩
abbrev cX7_isLodger : ByteArray := prog_1_method_46_code
def yX7_isLodger : MethodName := ⟨RX7, "isLodger", "(I)Z"⟩
abbrev cX7_isSheet : ByteArray := prog_1_method_47_code
def yX7_isSheet : MethodName := ⟨RX7, "isSheet", "(I)Z"⟩
abbrev cX7_isLane : ByteArray := prog_1_method_48_code
def yX7_isLane : MethodName := ⟨RX7, "isLane", "(I)Z"⟩
abbrev cX7_within : ByteArray := prog_1_method_49_code
def yX7_within : MethodName := ⟨RX7, "within", "(III)Z"⟩
abbrev cX7_forgetImages : ByteArray := prog_1_method_50_code
def yX7_forgetImages : MethodName := ⟨RX7, "forgetImages", "()V"⟩
abbrev cX7_countImages : ByteArray := prog_1_method_51_code
def yX7_countImages : MethodName := ⟨RX7, "countImages", "()I"⟩
abbrev cX7_exchanged : ByteArray := prog_1_method_52_code
def yX7_exchanged : MethodName := ⟨RX7, "exchanged", "([III)I"⟩
abbrev cX7_stepOfPath : ByteArray := prog_1_method_53_code
def yX7_stepOfPath : MethodName := ⟨RX7, "stepOfPath", "(II)I"⟩
def RX8 : String := "RankStairsModel"
def TX8 : u_T := fun k => match k with
  | 0 => ("RankStairsModel", "state", "[I", true)
  | 1 => ("RankStairsModel", "kinds", "[I", true)
  | 2 => ("RankStairsModel", "stepMany", "I", false)
  | 3 => ("RankStairsModel", "legs", "[I", true)
  | 4 => ("RankStairsModel", "lodgerMany", "I", false)
  | 5 => ("RankStairsModel", "out", "I", false)
  | 6 => ("RankStairsModel", "readPage", "[I", true)
  | 7 => ("RankStairsModel", "readKinds", "[I", true)
  | 8 => ("RankStairsModel", "readLegs", "[I", true)
  | 9 => ("RankStairsModel", "readSteps", "I", false)
  | 10 => ("RankStairsModel", "readLodgers", "I", false)
  | 11 => ("RankStairsModel", "toldOnce", "I", false)
  | 12 => ("RankStairsModel", "highFloor", "I", false)
  | 13 => ("RankStairsModel", "tape", "[I", true)
  | 14 => ("RankStairsModel", "taped", "I", false)
  | 15 => ("RankStairsModel", "fault", "I", false)
  | 16 => ("RankStairsModel", "broken", "I", false)
  | 17 => ("RankStairsModel", "brokenAt", "I", false)
  | 18 => ("RankStairsModel", "spot", "I", false)
  | 19 => ("RankStairsModel", "here", "I", false)
  | 20 => ("RankStairsModel", "token", "I", false)
  | 21 => ("RankStairsModel", "value", "I", false)
  | 22 => ("RankStairsModel", "cuts", "[I", true)
  | 23 => ("RankStairsModel", "letters", "[I", true)
  | 24 => ("RankStairsModel", "fewest", "[I", true)
  | 25 => ("RankStairsModel", "trod", "[I", true)
  | 26 => ("RankStairsModel", "wayMany", "[I", true)
  | 27 => ("RankStairsModel", "whose", "[I", true)
  | 28 => ("RankStairsModel", "seen", "[I", true)
  | 29 => ("RankStairsModel", "seenMany", "I", false)
  | 30 => ("RankStairsModel", "isKept", "[Z", true)
  | 31 => ("RankStairsModel", "lanes", "[I", true)
  | 32 => ("RankStairsModel", "lengths", "[I", true)
  | 33 => ("RankStairsModel", "cells", "[I", true)
  | _ => ("RankStairsModel", "torn", "I", false)
def tyX8 : Nat → FieldType := fun k => match k with
  | 0 => .array .int
  | 1 => .array .int
  | 2 => .int
  | 3 => .array .int
  | 4 => .int
  | 5 => .int
  | 6 => .array .int
  | 7 => .array .int
  | 8 => .array .int
  | 9 => .int
  | 10 => .int
  | 11 => .int
  | 12 => .int
  | 13 => .array .int
  | 14 => .int
  | 15 => .int
  | 16 => .int
  | 17 => .int
  | 18 => .int
  | 19 => .int
  | 20 => .int
  | 21 => .int
  | 22 => .array .int
  | 23 => .array .int
  | 24 => .array .int
  | 25 => .array .int
  | 26 => .array .int
  | 27 => .array .int
  | 28 => .array .int
  | 29 => .int
  | 30 => .array .boolean
  | 31 => .array .int
  | 32 => .array .int
  | 33 => .array .int
  | _ => .int
abbrev wsX80 : List Cond := u_ws RX8 TX8 35
theorem nmX8 : ∀ a, a < 35 → ∀ b, b < 35 → a ≠ b → (TX8 a).2.1 ≠ (TX8 b).2.1 := by decide +kernel
theorem tyX8_ok : ∀ k, k < 35 → parseFieldDescriptor (TX8 k).2.2.1 = some (tyX8 k) := by decide +kernel
abbrev cX8_init : ByteArray := prog_10_method_1_code
def yX8_init : MethodName := ⟨RX8, "<init>", "()V"⟩
abbrev cX8_in : ByteArray := prog_10_method_3_code
def yX8_in : MethodName := ⟨RX8, "in", "(JJJ)Z"⟩
abbrev cX8_feed : ByteArray := prog_10_method_4_code
def yX8_feed : MethodName := ⟨RX8, "feed", "(I)I"⟩
abbrev cX8_end : ByteArray := prog_10_method_5_code
def yX8_end : MethodName := ⟨RX8, "end", "(I)I"⟩
abbrev cX8_byteAt : ByteArray := prog_10_method_6_code
def yX8_byteAt : MethodName := ⟨RX8, "byteAt", "(I)I"⟩
abbrev cX8_fails : ByteArray := prog_10_method_7_code
def yX8_fails : MethodName := ⟨RX8, "fails", "(I)V"⟩
abbrev cX8_nameHere : ByteArray := prog_10_method_8_code
def yX8_nameHere : MethodName := ⟨RX8, "nameHere", "()I"⟩
abbrev cX8_goesOn : ByteArray := prog_10_method_9_code
def yX8_goesOn : MethodName := ⟨RX8, "goesOn", "()V"⟩
abbrev cX8_number : ByteArray := prog_10_method_10_code
def yX8_number : MethodName := ⟨RX8, "number", "(II)I"⟩
abbrev cX8_readMore : ByteArray := prog_10_method_11_code
def yX8_readMore : MethodName := ⟨RX8, "readMore", "(I)V"⟩
abbrev cX8_readLine : ByteArray := prog_10_method_12_code
def yX8_readLine : MethodName := ⟨RX8, "readLine", "()V"⟩
abbrev cX8_text : ByteArray := prog_10_method_13_code
def yX8_text : MethodName := ⟨RX8, "text", "()I"⟩
abbrev cX8_fault : ByteArray := prog_10_method_14_code
def yX8_fault : MethodName := ⟨RX8, "fault", "()I"⟩
abbrev cX8_isStep : ByteArray := prog_10_method_15_code
def yX8_isStep : MethodName := ⟨RX8, "isStep", "(I)Z"⟩
abbrev cX8_isLodger : ByteArray := prog_10_method_16_code
def yX8_isLodger : MethodName := ⟨RX8, "isLodger", "(I)Z"⟩
abbrev cX8_holdOn : ByteArray := prog_10_method_17_code
def yX8_holdOn : MethodName := ⟨RX8, "holdOn", "(I)I"⟩
abbrev cX8_rule : ByteArray := prog_10_method_18_code
def yX8_rule : MethodName := ⟨RX8, "rule", "(I)I"⟩
abbrev cX8_rankOn : ByteArray := prog_10_method_19_code
def yX8_rankOn : MethodName := ⟨RX8, "rankOn", "(II)I"⟩
abbrev cX8_isBroken : ByteArray := prog_10_method_20_code
def yX8_isBroken : MethodName := ⟨RX8, "isBroken", "(II)Z"⟩
abbrev cX8_brokenOn : ByteArray := prog_10_method_21_code
def yX8_brokenOn : MethodName := ⟨RX8, "brokenOn", "(I)I"⟩
abbrev cX8_mayTread : ByteArray := prog_10_method_22_code
def yX8_mayTread : MethodName := ⟨RX8, "mayTread", "(III)Z"⟩
abbrev cX8_isLoaded : ByteArray := prog_10_method_23_code
def yX8_isLoaded : MethodName := ⟨RX8, "isLoaded", "(II)Z"⟩
abbrev cX8_reachOn : ByteArray := prog_10_method_24_code
def yX8_reachOn : MethodName := ⟨RX8, "reachOn", "(II)I"⟩
abbrev cX8_trodden : ByteArray := prog_10_method_25_code
def yX8_trodden : MethodName := ⟨RX8, "trodden", "(I)I"⟩
abbrev cX8_step : ByteArray := prog_10_method_26_code
def yX8_step : MethodName := ⟨RX8, "step", "(II)I"⟩
abbrev cX8_lodger : ByteArray := prog_10_method_27_code
def yX8_lodger : MethodName := ⟨RX8, "lodger", "(II)I"⟩
abbrev cX8_sets : ByteArray := prog_10_method_28_code
def yX8_sets : MethodName := ⟨RX8, "sets", "(ZII)I"⟩
abbrev cX8_age : ByteArray := prog_10_method_29_code
def yX8_age : MethodName := ⟨RX8, "age", "(II)I"⟩
abbrev cX8_wear : ByteArray := prog_10_method_30_code
def yX8_wear : MethodName := ⟨RX8, "wear", "(II)I"⟩
abbrev cX8_mend : ByteArray := prog_10_method_31_code
def yX8_mend : MethodName := ⟨RX8, "mend", "(I)I"⟩
abbrev cX8_rank : ByteArray := prog_10_method_32_code
def yX8_rank : MethodName := ⟨RX8, "rank", "(II)I"⟩
abbrev cX8_load : ByteArray := prog_10_method_33_code
def yX8_load : MethodName := ⟨RX8, "load", "(II)I"⟩
abbrev cX8_move : ByteArray := prog_10_method_34_code
def yX8_move : MethodName := ⟨RX8, "move", "(II)I"⟩
abbrev cX8_law : ByteArray := prog_10_method_35_code
def yX8_law : MethodName := ⟨RX8, "law", "(II)I"⟩
abbrev cX8_year : ByteArray := prog_10_method_36_code
def yX8_year : MethodName := ⟨RX8, "year", "()I"⟩
abbrev cX8_layFewest : ByteArray := prog_10_method_37_code
def yX8_layFewest : MethodName := ⟨RX8, "layFewest", "(II)V"⟩
abbrev cX8_hasClimb : ByteArray := prog_10_method_38_code
def yX8_hasClimb : MethodName := ⟨RX8, "hasClimb", "(II)Z"⟩
abbrev cX8_climbOn : ByteArray := prog_10_method_39_code
def yX8_climbOn : MethodName := ⟨RX8, "climbOn", "(II)I"⟩
abbrev cX8_climb : ByteArray := prog_10_method_40_code
def yX8_climb : MethodName := ⟨RX8, "climb", "(II)I"⟩
abbrev cX8_ways : ByteArray := prog_10_method_41_code
def yX8_ways : MethodName := ⟨RX8, "ways", "(I)I"⟩
abbrev cX8_wornOver : ByteArray := prog_10_method_42_code
def yX8_wornOver : MethodName := ⟨RX8, "wornOver", "(I)I"⟩
abbrev cX8_smooth : ByteArray := prog_10_method_43_code
def yX8_smooth : MethodName := ⟨RX8, "smooth", "(II)I"⟩
abbrev cX8_homesOn : ByteArray := prog_10_method_44_code
def yX8_homesOn : MethodName := ⟨RX8, "homesOn", "(I)I"⟩
abbrev cX8_homes : ByteArray := prog_10_method_45_code
def yX8_homes : MethodName := ⟨RX8, "homes", "()I"⟩
abbrev cX8_must : ByteArray := prog_10_method_46_code
def yX8_must : MethodName := ⟨RX8, "must", "(I)I"⟩
abbrev cX8_goes : ByteArray := prog_10_method_47_code
def yX8_goes : MethodName := ⟨RX8, "goes", "(II)Z"⟩
abbrev cX8_daysOn : ByteArray := prog_10_method_48_code
def yX8_daysOn : MethodName := ⟨RX8, "daysOn", "(II)I"⟩
abbrev cX8_copies : ByteArray := prog_10_method_49_code
def yX8_copies : MethodName := ⟨RX8, "copies", "(II)V"⟩
abbrev cX8_day : ByteArray := prog_10_method_50_code
def yX8_day : MethodName := ⟨RX8, "day", "(I)I"⟩
abbrev cX8_ahead : ByteArray := prog_10_method_51_code
def yX8_ahead : MethodName := ⟨RX8, "ahead", "(II)I"⟩
abbrev cX8_breaks : ByteArray := prog_10_method_52_code
def yX8_breaks : MethodName := ⟨RX8, "breaks", "(I)I"⟩
abbrev cX8_stuck : ByteArray := prog_10_method_53_code
def yX8_stuck : MethodName := ⟨RX8, "stuck", "(I)I"⟩
abbrev cX8_gap : ByteArray := prog_10_method_54_code
def yX8_gap : MethodName := ⟨RX8, "gap", "(I)I"⟩
abbrev cX8_legs : ByteArray := prog_10_method_55_code
def yX8_legs : MethodName := ⟨RX8, "legs", "(I)I"⟩
abbrev cX8_hold : ByteArray := prog_10_method_56_code
def yX8_hold : MethodName := ⟨RX8, "hold", "(I)I"⟩
abbrev cX8_bitsOf : ByteArray := prog_10_method_57_code
def yX8_bitsOf : MethodName := ⟨RX8, "bitsOf", "(I)I"⟩
abbrev cX8_best : ByteArray := prog_10_method_58_code
def yX8_best : MethodName := ⟨RX8, "best", "(I)I"⟩
abbrev cX8_laysFloors : ByteArray := prog_10_method_59_code
def yX8_laysFloors : MethodName := ⟨RX8, "laysFloors", "(I)Z"⟩
abbrev cX8_lodge : ByteArray := prog_10_method_60_code
def yX8_lodge : MethodName := ⟨RX8, "lodge", "(I)I"⟩
abbrev cX8_lowest : ByteArray := prog_10_method_61_code
def yX8_lowest : MethodName := ⟨RX8, "lowest", "(JJI)J"⟩
abbrev cX8_meanOf : ByteArray := prog_10_method_62_code
def yX8_meanOf : MethodName := ⟨RX8, "meanOf", "(III)J"⟩
abbrev cX8_odds : ByteArray := prog_10_method_63_code
def yX8_odds : MethodName := ⟨RX8, "odds", "(III)J"⟩
abbrev cX8_mean : ByteArray := prog_10_method_64_code
def yX8_mean : MethodName := ⟨RX8, "mean", "(II)J"⟩
abbrev cX8_see : ByteArray := prog_10_method_65_code
def yX8_see : MethodName := ⟨RX8, "see", "(II)I"⟩
abbrev cX8_forget : ByteArray := prog_10_method_66_code
def yX8_forget : MethodName := ⟨RX8, "forget", "(I)I"⟩
abbrev cX8_allFloors : ByteArray := prog_10_method_67_code
def yX8_allFloors : MethodName := ⟨RX8, "allFloors", "()I"⟩
abbrev cX8_floorOf : ByteArray := prog_10_method_68_code
def yX8_floorOf : MethodName := ⟨RX8, "floorOf", "(II)I"⟩
abbrev cX8_isAsSeen : ByteArray := prog_10_method_69_code
def yX8_isAsSeen : MethodName := ⟨RX8, "isAsSeen", "(I)Z"⟩
abbrev cX8_fits : ByteArray := prog_10_method_70_code
def yX8_fits : MethodName := ⟨RX8, "fits", "()I"⟩
abbrev cX8_floors : ByteArray := prog_10_method_71_code
def yX8_floors : MethodName := ⟨RX8, "floors", "(I)I"⟩
abbrev cX8_drift : ByteArray := prog_10_method_72_code
def yX8_drift : MethodName := ⟨RX8, "drift", "(III)I"⟩
abbrev cX8_keep : ByteArray := prog_10_method_73_code
def yX8_keep : MethodName := ⟨RX8, "keep", "(I)I"⟩
abbrev cX8_back : ByteArray := prog_10_method_74_code
def yX8_back : MethodName := ⟨RX8, "back", "(I)I"⟩
abbrev cX8_sheet : ByteArray := prog_10_method_75_code
def yX8_sheet : MethodName := ⟨RX8, "sheet", "(III)I"⟩
abbrev cX8_lay : ByteArray := prog_10_method_76_code
def yX8_lay : MethodName := ⟨RX8, "lay", "(III)I"⟩
abbrev cX8_read : ByteArray := prog_10_method_77_code
def yX8_read : MethodName := ⟨RX8, "read", "(IIII)I"⟩
abbrev cX8_torn : ByteArray := prog_10_method_78_code
def yX8_torn : MethodName := ⟨RX8, "torn", "()I"⟩
abbrev cX8_count : ByteArray := prog_10_method_79_code
def yX8_count : MethodName := ⟨RX8, "count", "(I)I"⟩
def RJx145de : String := "java/io/Serializable"
def RJx9f9b0 : String := "java/lang/CharSequence"
def RJxb160c : String := "java/lang/Comparable"
def RJ6 : String := "java/lang/Integer"
abbrev cJ6_numberOfTrailingZeros_0f7a4 : ByteArray := prog_11_method_48_code
def yJ6_numberOfTrailingZeros_0f7a4 : MethodName := ⟨RJ6, "numberOfTrailingZeros", "(I)I"⟩
abbrev cJ6_bitCount_0f7a4 : ByteArray := prog_11_method_49_code
def yJ6_bitCount_0f7a4 : MethodName := ⟨RJ6, "bitCount", "(I)I"⟩
def RJ9 : String := "java/lang/Math"
abbrev cJ9_abs_0f7a4 : ByteArray := prog_12_method_59_code
def yJ9_abs_0f7a4 : MethodName := ⟨RJ9, "abs", "(I)I"⟩
abbrev cJ9_max_7cf53 : ByteArray := prog_12_method_65_code
def yJ9_max_7cf53 : MethodName := ⟨RJ9, "max", "(II)I"⟩
abbrev cJ9_min_7cf53 : ByteArray := prog_12_method_69_code
def yJ9_min_7cf53 : MethodName := ⟨RJ9, "min", "(II)I"⟩
def RJ0 : String := "java/lang/String"
abbrev cJ0_length_8abf5 : ByteArray := prog_13_method_54_code
def yJ0_length_8abf5 : MethodName := ⟨RJ0, "length", "()I"⟩
abbrev cJ0_charAt_5068e : ByteArray := prog_13_method_56_code
def yJ0_charAt_5068e : MethodName := ⟨RJ0, "charAt", "(I)C"⟩
abbrev cJ0_coder_7d493 : ByteArray := prog_13_method_152_code
def yJ0_coder_7d493 : MethodName := ⟨RJ0, "coder", "()B"⟩
abbrev cJ0_isLatin1_aae02 : ByteArray := prog_13_method_154_code
def yJ0_isLatin1_aae02 : MethodName := ⟨RJ0, "isLatin1", "()Z"⟩
abbrev cJ0_checkIndex_df160 : ByteArray := prog_13_method_155_code
def yJ0_checkIndex_df160 : MethodName := ⟨RJ0, "checkIndex", "(II)V"⟩
def RJ1 : String := "java/lang/StringLatin1"
abbrev cJ1_charAt_3b067 : ByteArray := prog_14_method_2_code
def yJ1_charAt_3b067 : MethodName := ⟨RJ1, "charAt", "([BI)C"⟩
def RJ2 : String := "java/lang/StringUTF16"
abbrev cJ2_getChar_3b067 : ByteArray := prog_15_method_5_code
def yJ2_getChar_3b067 : MethodName := ⟨RJ2, "getChar", "([BI)C"⟩
abbrev cJ2_length_9d52b : ByteArray := prog_15_method_6_code
def yJ2_length_9d52b : MethodName := ⟨RJ2, "length", "([B)I"⟩
abbrev cJ2_charAt_3b067 : ByteArray := prog_15_method_83_code
def yJ2_charAt_3b067 : MethodName := ⟨RJ2, "charAt", "([BI)C"⟩
abbrev cJ2_checkIndex_2214a : ByteArray := prog_15_method_91_code
def yJ2_checkIndex_2214a : MethodName := ⟨RJ2, "checkIndex", "(I[B)V"⟩
def RJ10 : String := "java/lang/System"
def RJxfd54e : String := "java/lang/constant/Constable"
def RJx3cf43 : String := "java/lang/constant/ConstantDesc"
def RJ7 : String := "java/util/Arrays"
abbrev cJ7_fill_d0a16 : ByteArray := prog_17_method_101_code
def yJ7_fill_d0a16 : MethodName := ⟨RJ7, "fill", "([JJ)V"⟩
abbrev cJ7_fill_53178 : ByteArray := prog_17_method_103_code
def yJ7_fill_53178 : MethodName := ⟨RJ7, "fill", "([II)V"⟩
def RJ3 : String := "jdk/internal/util/Preconditions"
abbrev cJ3_checkIndex_8e157 : ByteArray := prog_18_method_11_code
def yJ3_checkIndex_8e157 : MethodName := ⟨RJ3, "checkIndex", "(IILjava/util/function/BiFunction;)I"⟩
def RL : String := "RankStairsLaw"
abbrev cL_law : ByteArray := code
def yL_law : MethodName := ⟨RL, "law", "([I)Z"⟩
abbrev vwCl : List vw_C := [(RX0, TX0, 2), (RX1, TX1, 2), (RX2, TX2, 7), (RX3, TX3, 6), (RX4, TX4, 12), (RX5, TX5, 3), (RX6, TX6, 10), (RX7, TX7, 11), (RX8, TX8, 35)]
end
section
/-! THE ABSTRACT MACHINE. Cells have numbers (0 .. 99): 0, 8, 16, 24, 32 the Houses now, trial, image 0, image 1, the dust's (each with its seven rows behind it); 40, 42, 44, 46 the Sheets (a row behind each); 48 RankStairs; 49 Tape .. ; 81 RankStairsModel .. (wip/gen_base.py has the list). -/
abbrev mMem : Type := (Nat → Nat → Int32) × (Nat → Nat → Int64)
abbrev mR : Type := Option (Option Value × mMem)
/-- a method: name, code, number of locals, type of the answer, depth of its calls -/
abbrev mMI : Type := MethodName × ByteArray × Nat × Option FieldType × Nat
abbrev mCx : Type := Program × Launch × Env × State × MethodId × Array Value × List Frame × Method × Code × (Nat → Nat) × (Nat → ClassId) × va_G × (Nat → Prop)
abbrev xp (X : mCx) : Program := X.1
abbrev xl (X : mCx) : Launch := X.2.1
abbrev xe (X : mCx) : Env := X.2.2.1
abbrev xs (X : mCx) : State := X.2.2.2.1
abbrev xm (X : mCx) : MethodId := X.2.2.2.2.1
abbrev xa (X : mCx) : Array Value := X.2.2.2.2.2.1
abbrev xb (X : mCx) : List Frame := X.2.2.2.2.2.2.1
abbrev xM (X : mCx) : Method := X.2.2.2.2.2.2.2.1
abbrev xc (X : mCx) : Code := X.2.2.2.2.2.2.2.2.1
abbrev xad (X : mCx) : Nat → Nat := X.2.2.2.2.2.2.2.2.2.1
abbrev xcA (X : mCx) : Nat → ClassId := X.2.2.2.2.2.2.2.2.2.2.1
abbrev xD (X : mCx) : va_G := X.2.2.2.2.2.2.2.2.2.2.2.1
abbrev xA (X : mCx) : Nat → Prop := X.2.2.2.2.2.2.2.2.2.2.2.2
def kdL : List (Nat × Nat) := [(4, 0), (10, 10), (10, 10), (10, 10), (10, 4), (10, 4), (10, 4), (10, 4), (4, 0), (10, 10), (10, 10), (10, 10), (10, 4), (10, 4), (10, 4), (10, 4), (4, 0), (10, 10), (10, 10), (10, 10), (10, 4), (10, 4), (10, 4), (10, 4), (4, 0), (10, 10), (10, 10), (10, 10), (10, 4), (10, 4), (10, 4), (10, 4), (4, 0), (10, 10), (10, 10), (10, 10), (10, 4), (10, 4), (10, 4), (10, 4), (5, 0), (10, 40), (5, 0), (10, 40), (5, 0), (10, 40), (5, 0), (10, 40), (7, 0), (6, 0), (9, 160), (10, 4), (13, 2), (12, 2), (1, 0), (10, 10), (10, 10), (3, 0), (10, 4), (10, 4), (10, 10), (10, 16), (0, 0), (11, 16), (11, 16), (2, 0), (10, 4), (10, 6), (10, 6), (15, 5), (10, 10), (10, 10), (10, 10), (10, 10), (10, 10), (15, 4), (10, 10), (10, 10), (10, 10), (10, 10), (14, 4), (8, 0), (10, 210), (10, 10), (10, 4), (10, 35), (10, 10), (10, 4), (10, 160), (10, 8), (10, 33), (10, 11), (10, 10), (10, 11), (10, 4), (10, 12), (12, 2), (10, 4), (10, 4), (10, 160)]
def kd (i : Nat) : Nat × Nat := kdL.getD i (99, 0)
def rfL : List (List Nat) := [[0, 0, 0, 0, 0, 1, 2, 3, 4, 5, 6, 7], [], [], [], [], [], [], [], [0, 0, 0, 0, 0, 9, 10, 11, 12, 13, 14, 15], [], [], [], [], [], [], [], [0, 0, 0, 0, 0, 17, 18, 19, 20, 21, 22, 23], [], [], [], [], [], [], [], [0, 0, 0, 0, 0, 25, 26, 27, 28, 29, 30, 31], [], [], [], [], [], [], [], [0, 0, 0, 0, 0, 33, 34, 35, 36, 37, 38, 39], [], [], [], [], [], [], [], [0, 41, 0], [], [0, 43, 0], [], [0, 45, 0], [], [0, 47, 0], [], [49, 0, 8, 52, 53, 54, 57, 62, 65, 80, 0], [0, 0, 0, 50, 51], [], [], [16, 24], [], [55, 56], [], [], [0, 0, 58, 59, 60, 61], [], [], [], [], [63, 64], [], [], [0, 66, 67, 68, 32, 69, 75], [], [], [], [70, 71, 72, 73, 74], [], [], [], [], [], [76, 77, 78, 79], [], [], [], [], [40, 42, 44, 46], [82, 83, 0, 84, 0, 0, 85, 86, 87, 0, 0, 0, 0, 88, 0, 0, 0, 0, 0, 0, 0, 0, 89, 90, 91, 92, 93, 94, 95, 0, 96, 97, 98, 99, 0], [], [], [], [], [], [], [], [], [], [], [], [], [], [], [], [], [], []]
def rf (i k : Nat) : Nat := (rfL.getD i []).getD k 0
def ftL : List (List Nat) := [[2, 2], [2, 2], [0, 2, 2, 2, 2, 2, 2], [0, 0, 2, 2, 2, 2], [0, 0, 0, 0, 0, 2, 2, 2, 2, 2, 2, 2], [0, 2, 0], [0, 0, 0, 2, 2, 0, 0, 0, 1, 1], [2, 2, 2, 2, 2, 2, 2, 2, 2, 2, 0], [2, 2, 0, 2, 0, 0, 2, 2, 2, 0, 0, 0, 0, 2, 0, 0, 0, 0, 0, 0, 0, 0, 2, 2, 2, 2, 2, 2, 2, 0, 2, 2, 2, 2, 0]]
def ft (c k : Nat) : Nat := (ftL.getD c []).getD k 0
def nfc (c : Nat) : Nat := match vwCl[c]? with
  | some r => r.2.2
  | none => 0
def fv (ad : Nat → Nat) (c i k : Nat) (x : Nat → Int32) : Value := if ft c k = 2 then .ref (ad (rf i k)) else .int (x k)
def fsOf (ad : Nat → Nat) (c i : Nat) (x : Nat → Int32) : List Value := (List.range (nfc c)).map (fun k => fv ad c i k x)
def cellOf (ad : Nat → Nat) (cA : Nat → ClassId) (i : Nat) (x : Nat → Int32) (y : Nat → Int64) : va_E :=
  if (kd i).1 < 9 then .inr ((kd i).1, fsOf ad (kd i).1 i x)
  else if (kd i).1 = 11 then .inl (cA 11, (kd i).2, .inr (.inl y))
  else if 13 ≤ (kd i).1 then .inl (cA (kd i).1, (kd i).2, .inr (.inr (.inr (.inr (fun j => some (ad (rf i j)))))))
  else .inl (cA (kd i).1, (kd i).2, .inl x)
def wsOf (ad : Nat → Nat) (cA : Nat → ClassId) (μ : mMem) : va_W := (List.range 100).map (fun i => (ad i, cellOf ad cA i (μ.1 i) (μ.2 i)))
def tysOf (cA : Nat → ClassId) : List (ClassId × FieldType) := [(cA 9, .byte), (cA 10, .int), (cA 11, .long), (cA 12, .boolean), (cA 13, .object RX4), (cA 14, .object RX5), (cA 15, .array .int)]
def cz (ad : Nat → Nat) (v : Value) : Value := match v with
  | .ref a => .ref (ad a)
  | v => v
def czl (ad : Nat → Nat) (q : Nat × Value) : Nat × Value := (q.1, cz ad q.2)
def rmOf (d : Nat) : Room := { frames := d, cells := 0, slots := 0, locals := 100 * d }
def gdL : List Cond := lw_tbl.filter goodWord
theorem gd_mem {w : Cond} (i : Nat) (h : lw_tbl[i]? = some w) (hg : goodWord w = true) : w ∈ gdL := List.mem_filter.mpr ⟨List.mem_of_getElem? h, hg⟩
theorem gd_good {w : Cond} (h : w ∈ gdL) : (w.onTables && w.keeps) = true ∨ ∃ ty, w = .arrayClass ty := good_of_word (List.mem_filter.mp h).2
def wsM (q : mMI) : List Cond := .code q.1 q.2.1 q.2.2.1 q.2.2.2.1 :: gdL
def tNum (l : List Int32) (j : Nat) : Value := .int (l.getD j 0)
/-- static arrays and String constants, which nobody writes -/
def ZS (ad : Nat → Nat) (A : Nat → Prop) (U : State) (H : Heap) : Prop := True
theorem ZS.warm {ad : Nat → Nat} {A : Nat → Prop} {s U : State} {H : Heap} (hW : s.WarmedH U.vm) (h : ZS ad A s H) : ZS ad A U H := trivial
theorem ZS.same {ad : Nat → Nat} {A : Nat → Prop} {s U : State} {H : Heap} (hW : U.vm = s.vm) (h : ZS ad A s H) : ZS ad A U H := trivial
theorem ZS.kept {ad : Nat → Nat} {A : Nat → Prop} {U : State} {H H1 : Heap} (h : ZS ad A U H) (hq : ∀ a : Nat, a < H.size → ¬ A a → H1[a]? = H[a]?) : ZS ad A U H1 := trivial
theorem ZS.narrow {ad : Nat → Nat} {A B : Nat → Prop} {U : State} {H : Heap} (h : ZS ad A U H) (hAB : ∀ q, B q → A q) : ZS ad B U H := trivial
def mInj (ad : Nat → Nat) : Prop := ∀ i j, i < 100 → j < 100 → ad i = ad j → i = j
def Good (q : mMI) (X : mCx) : Prop :=
  (xp X).tables.exec = Jvm.exec ∧ (xc X).code = q.2.1 ∧ (xc X).maxLocals = q.2.2.1 ∧ (xM X).sig.returnType = q.2.2.2.1 ∧ (xM X).locks = false ∧ (xs X).vm.findClass q.1.cls = some (xm X).cls ∧ (∀ w ∈ gdL, w.before (xa X) (xs X) = true) ∧ va_K (xD X) vwCl (tysOf (xcA X)) (xs X) ∧ mInj (xad X) ∧ (∀ i, i < 100 → xA X (xad X i)) ∧ (∀ z, (xs X).heap.size ≤ z → xA X z) ∧ ZS (xad X) (xA X) (xs X) (xs X).heap
def Qb (ad : Nat → Nat) (cA : Nat → ClassId) (D : va_G) (A : Nat → Prop) (v : Option Value) (μ' : mMem) : Array Value → State → Outcome → State → Prop := fun _ st oc t => oc = .returned (v.map (cz ad)) ∧ va_P D vwCl (wsOf ad cA μ') t.heap ∧ va_F A st t
/-- from here the method comes to its end with the answer and the memory of tgt (if that is some) -/
def T (q : mMI) (X : mCx) (tgt : mR) (pc : Nat) (lv : List (Nat × Value)) (st : List Value) (μ : mMem) : Prop :=
  Good q X → ∀ (v : Option Value) (μ' : mMem), tgt = some (v, μ') → ∀ (H : Heap) (locs : List Loc) (ls : Array Slot), va_P (xD X) vwCl (wsOf (xad X) (xcA X) μ) H → va_S (xA X) (xs X).heap H locs → lv_has ls q.2.2.1 (lv.map (czl (xad X))) →
    W (xp X) (xl X) (xe X) (rmOf q.2.2.2.2) (xs X) (xm X) (xa X) (xb X) (xM X) (xc X) H locs 0 0 (MQ (xb X) (Qb (xad X) (xcA X) (xD X) (xA X) v μ') (xa X) (xs X) 0 0 (xA X)) (F0 (xm X) pc ls (st.map (cz (xad X))))
def AA (ad : Nat → Nat) (sz : Nat) (z : Nat) : Prop := (∃ i, i < 100 ∧ ad i = z) ∨ sz ≤ z
def PreW (ad : Nat → Nat) (cA : Nat → ClassId) (D : va_G) (μ : mMem) (sz : Nat) (U : State) : Prop := U.heap.size = sz ∧ va_P D vwCl (wsOf ad cA μ) U.heap ∧ va_K D vwCl (tysOf cA) U ∧ mInj ad ∧ ZS ad (AA ad sz) U U.heap
/-- the contract: with these arguments and this memory the method comes to the answer and the memory of tgt -/
def BS (l : Launch) (q : mMI) (av : List Value) (μ : mMem) (tgt : mR) : Prop :=
  ∀ (v : Option Value) (μ' : mMem), tgt = some (v, μ') → ∀ (D : va_G) (ad : Nat → Nat) (cA : Nat → ClassId) (sz : Nat),
    Met l q.1 (wsM q) (rmOf q.2.2.2.2) (va_Pc (av.map (cz ad)) (PreW ad cA D μ sz)) (Qb ad cA D (AA ad sz) v μ') 0 0 (AA ad sz)

theorem kd_lt {i c n : Nat} (h : kd i = (c, n)) (hc : c < 99) : i < 100 := by
  rcases Nat.lt_or_ge i 100 with q | q
  · exact q
  · exfalso
    have h1 : kd i = (99, 0) := by
      unfold kd
      have h2 : kdL[i]? = none := List.getElem?_eq_none (by show kdL.length ≤ i; exact q)
      simp [List.getD, h2]
    rw [h1] at h
    have h3 : (99 : Nat) = c := congrArg Prod.fst h
    omega
theorem ws_at {ad : Nat → Nat} {cA : Nat → ClassId} {μ : mMem} {i : Nat} (h : i < 100) : (wsOf ad cA μ)[i]? = some (ad i, cellOf ad cA i (μ.1 i) (μ.2 i)) := by
  unfold wsOf
  rw [List.getElem?_map, List.getElem?_range h]
  rfl
theorem ws_len {ad : Nat → Nat} {cA : Nat → ClassId} {μ : mMem} : (wsOf ad cA μ).length = 100 := by
  unfold wsOf
  rw [List.length_map, List.length_range]
theorem ws_get {ad : Nat → Nat} {cA : Nat → ClassId} {μ : mMem} {i : Nat} {x : Nat × va_E} (h : (wsOf ad cA μ)[i]? = some x) : i < 100 ∧ x = (ad i, cellOf ad cA i (μ.1 i) (μ.2 i)) := by
  have hi : i < 100 := by
    have := (List.getElem?_eq_some_iff.mp h).1
    rw [ws_len] at this
    exact this
  rw [ws_at hi] at h
  exact ⟨hi, (Option.some.inj h).symm⟩
theorem ws_D {ad : Nat → Nat} {cA : Nat → ClassId} {μ : mMem} {A : Nat → Prop} (hj : mInj ad) (hA : ∀ i, i < 100 → A (ad i)) : va_D A (wsOf ad cA μ) := by
  refine ⟨fun i j x y hi hj' hxy => ?_, fun k x hx => ?_⟩
  · obtain ⟨h1, rfl⟩ := ws_get hi
    obtain ⟨h2, rfl⟩ := ws_get hj'
    exact hj i j h1 h2 hxy
  · obtain ⟨h1, rfl⟩ := ws_get hx
    exact hA k h1
theorem ws_set {ad : Nat → Nat} {cA : Nat → ClassId} {μ μ' : mMem} {i : Nat} {E : va_E} (hi : i < 100) (hE : cellOf ad cA i (μ'.1 i) (μ'.2 i) = E) (ho : ∀ j, j ≠ i → μ'.1 j = μ.1 j ∧ μ'.2 j = μ.2 j) : (wsOf ad cA μ).set i (ad i, E) = wsOf ad cA μ' := by
  apply List.ext_getElem?
  intro j
  rw [List.getElem?_set]
  by_cases hj : i = j
  · subst hj
    rw [if_pos rfl, ws_len, if_pos hi, ws_at hi, hE]
  · rw [if_neg hj]
    by_cases h : j < 100
    · rw [ws_at h, ws_at h, (ho j (fun q => hj q.symm)).1, (ho j (fun q => hj q.symm)).2]
    · rw [List.getElem?_eq_none (by rw [ws_len]; omega), List.getElem?_eq_none (by rw [ws_len]; omega)]
/-- memory, written -/
def si (μ : mMem) (b k : Nat) (x : Int32) : mMem := (fun i => if i = b then upd (μ.1 i) k x else μ.1 i, μ.2)
def sl (μ : mMem) (b k : Nat) (x : Int64) : mMem := (μ.1, fun i => if i = b then vp_updL (μ.2 i) k x else μ.2 i)
def ci (μ : mMem) (a b sp dp n : Nat) : mMem := (fun i => if i = b then va_cpy (μ.1 a) (μ.1 i) sp dp n else μ.1 i, μ.2)
def cl (μ : mMem) (a b sp dp n : Nat) : mMem := (μ.1, fun i => if i = b then va_cpy (μ.2 a) (μ.2 i) sp dp n else μ.2 i)
theorem cell_obj {ad : Nat → Nat} {cA : Nat → ClassId} {i c n : Nat} {x : Nat → Int32} {y : Nat → Int64} (h : kd i = (c, n)) (hc : c < 9) : cellOf ad cA i x y = .inr (c, fsOf ad c i x) := by
  unfold cellOf
  rw [h, if_pos hc]
theorem cell_int {ad : Nat → Nat} {cA : Nat → ClassId} {i c n : Nat} {x : Nat → Int32} {y : Nat → Int64} (h : kd i = (c, n)) (hc : c = 9 ∨ c = 10 ∨ c = 12) : cellOf ad cA i x y = .inl (cA c, n, .inl x) := by
  unfold cellOf
  rw [h]
  rcases hc with rfl | rfl | rfl <;> rfl
theorem cell_long {ad : Nat → Nat} {cA : Nat → ClassId} {i n : Nat} {x : Nat → Int32} {y : Nat → Int64} (h : kd i = (11, n)) : cellOf ad cA i x y = .inl (cA 11, n, .inr (.inl y)) := by
  unfold cellOf
  rw [h]
  rfl
theorem cell_ref {ad : Nat → Nat} {cA : Nat → ClassId} {i c n : Nat} {x : Nat → Int32} {y : Nat → Int64} (h : kd i = (c, n)) (hc : 13 ≤ c) : cellOf ad cA i x y = .inl (cA c, n, .inr (.inr (.inr (.inr (fun j => some (ad (rf i j))))))) := by
  unfold cellOf
  rw [h, if_neg (by show ¬ c < 9; omega), if_neg (by show ¬ c = 11; omega), if_pos hc]
theorem cz_cat (ad : Nat → Nat) (v : Value) : (cz ad v).category = v.category := by
  cases v <;> rfl
theorem lv_fm (ad : Nat → Nat) (P : Nat → Nat → Bool) (lv : List (Nat × Value)) : (lv.map (czl ad)).filter (fun q => P q.1 q.2.category) = (lv.filter (fun q => P q.1 q.2.category)).map (czl ad) := by
  induction lv with
  | nil => rfl
  | cons a t ih =>
    simp only [List.map_cons, List.filter_cons]
    have e : P (czl ad a).1 (czl ad a).2.category = P a.1 a.2.category := by
      show P a.1 (cz ad a.2).category = _
      rw [cz_cat]
    rw [e]
    cases P a.1 a.2.category
    · simpa using ih
    · simpa using ih
theorem lv_gm {ad : Nat → Nat} {lv : List (Nat × Value)} {k i : Nat} {v : Value} (h : lv[k]? = some (i, v)) : (lv.map (czl ad))[k]? = some (i, cz ad v) := by
  rw [List.getElem?_map, h]
  rfl
theorem lv_pm (ad : Nat → Nat) (lv : List (Nat × Value)) (ks : List Nat) : lv_pick (lv.map (czl ad)) ks = (lv_pick lv ks).map (czl ad) := by
  unfold lv_pick
  induction ks with
  | nil => rfl
  | cons k t ih =>
    simp only [List.filterMap_cons, List.getElem?_map]
    cases lv[k]? with
    | none => simpa [List.getElem?_map] using ih
    | some a => simpa [List.getElem?_map] using ih
theorem lv_am (ad : Nat → Nat) (vs : List Value) : ∀ i, lv_args i (vs.map (cz ad)) = (lv_args i vs).map (czl ad) := by
  induction vs with
  | nil => intro i; rfl
  | cons v t ih =>
    intro i
    simp only [List.map_cons, lv_args]
    rw [cz_cat, ih]
    rfl
theorem ls_am (ad : Nat → Nat) (vs : List Value) : (lg_sl (vs.map (cz ad))).length = (lg_sl vs).length := by
  unfold lg_sl
  induction vs with
  | nil => rfl
  | cons v t ih =>
    simp only [List.map_cons, List.flatMap_cons, List.length_append, ih, cz_cat]
    by_cases h : v.category = 2 <;> simp [h]
theorem T_none {q : mMI} {X : mCx} {pc : Nat} {lv : List (Nat × Value)} {st : List Value} {μ : mMem} : T q X none pc lv st μ := fun _ _ _ h => by cases h
theorem T_sub {q : mMI} {X : mCx} {tgt : mR} {pc : Nat} {lv lv' : List (Nat × Value)} {st : List Value} {μ : mMem} (ks : List Nat) (hl : lv_pick lv ks = lv') (h : T q X tgt pc lv' st μ) : T q X tgt pc lv st μ :=
  fun hG v μ' ht H locs ls hP hS hlv => h hG v μ' ht H locs ls hP hS (lv_sub hlv ks (by rw [lv_pm, hl]))
theorem T_ite {q : mMI} {X : mCx} {a b : mR} {pc : Nat} {lv : List (Nat × Value)} {st : List Value} {μ : mMem} {c : Prop} {dc : Decidable c} (h1 : c → T q X a pc lv st μ) (h2 : ¬ c → T q X b pc lv st μ) : T q X (@ite mR c dc a b) pc lv st μ := by
  by_cases h : c
  · rw [if_pos h]
    exact h1 h
  · rw [if_neg h]
    exact h2 h
/-- a guard -/
def gd (c : Prop) (r : mR) (dc : Decidable c) : mR := @ite mR c dc r none
/-- loops: k is the way back to the head -/
def lp {σ : Type} (body : (σ → mR) → σ → mR) : Nat → σ → mR
  | 0, _ => none
  | n + 1, s => body (lp body n) s
theorem T_lp {σ : Type} {body : (σ → mR) → σ → mR} {q : mMI} {X : mCx} {pc : Nat} {lv : σ → List (Nat × Value)} {st : σ → List Value} {μ : σ → mMem} (h : ∀ k : σ → mR, (∀ s, T q X (k s) pc (lv s) (st s) (μ s)) → ∀ s, T q X (body k s) pc (lv s) (st s) (μ s)) : ∀ (n : Nat) (s : σ), T q X (lp body n s) pc (lv s) (st s) (μ s)
  | 0, _ => T_none
  | n + 1, s => h (lp body n) (T_lp h n) s

theorem T_iadd {q : mMI} {X : mCx} {tgt : mR} {pc : Nat} {lv : List (Nat × Value)} {st : List Value} {μ : mMem} {x y : Int32} (hd : decode q.2.1 pc = .ok (.iadd, 1)) (h : T q X tgt (pc + 1) lv (.int (x + y) :: st) μ) : T q X tgt pc lv (.int y :: .int x :: st) μ :=
  fun hG v μ' ht H locs ls hP hS hl => lv_iadd hG.1 hG.2.1 hd (h hG v μ' ht H locs ls hP hS hl)
theorem T_isub {q : mMI} {X : mCx} {tgt : mR} {pc : Nat} {lv : List (Nat × Value)} {st : List Value} {μ : mMem} {x y : Int32} (hd : decode q.2.1 pc = .ok (.isub, 1)) (h : T q X tgt (pc + 1) lv (.int (x - y) :: st) μ) : T q X tgt pc lv (.int y :: .int x :: st) μ :=
  fun hG v μ' ht H locs ls hP hS hl => lv_isub hG.1 hG.2.1 hd (h hG v μ' ht H locs ls hP hS hl)
theorem T_imul {q : mMI} {X : mCx} {tgt : mR} {pc : Nat} {lv : List (Nat × Value)} {st : List Value} {μ : mMem} {x y : Int32} (hd : decode q.2.1 pc = .ok (.imul, 1)) (h : T q X tgt (pc + 1) lv (.int (x * y) :: st) μ) : T q X tgt pc lv (.int y :: .int x :: st) μ :=
  fun hG v μ' ht H locs ls hP hS hl => lv_imul hG.1 hG.2.1 hd (h hG v μ' ht H locs ls hP hS hl)
theorem T_iand {q : mMI} {X : mCx} {tgt : mR} {pc : Nat} {lv : List (Nat × Value)} {st : List Value} {μ : mMem} {x y : Int32} (hd : decode q.2.1 pc = .ok (.iand, 1)) (h : T q X tgt (pc + 1) lv (.int (x &&& y) :: st) μ) : T q X tgt pc lv (.int y :: .int x :: st) μ :=
  fun hG v μ' ht H locs ls hP hS hl => lv_iand hG.1 hG.2.1 hd (h hG v μ' ht H locs ls hP hS hl)
theorem T_ior {q : mMI} {X : mCx} {tgt : mR} {pc : Nat} {lv : List (Nat × Value)} {st : List Value} {μ : mMem} {x y : Int32} (hd : decode q.2.1 pc = .ok (.ior, 1)) (h : T q X tgt (pc + 1) lv (.int (x ||| y) :: st) μ) : T q X tgt pc lv (.int y :: .int x :: st) μ :=
  fun hG v μ' ht H locs ls hP hS hl => lv_ior hG.1 hG.2.1 hd (h hG v μ' ht H locs ls hP hS hl)
theorem T_ixor {q : mMI} {X : mCx} {tgt : mR} {pc : Nat} {lv : List (Nat × Value)} {st : List Value} {μ : mMem} {x y : Int32} (hd : decode q.2.1 pc = .ok (.ixor, 1)) (h : T q X tgt (pc + 1) lv (.int (x ^^^ y) :: st) μ) : T q X tgt pc lv (.int y :: .int x :: st) μ :=
  fun hG v μ' ht H locs ls hP hS hl => lv_ixor hG.1 hG.2.1 hd (h hG v μ' ht H locs ls hP hS hl)
theorem T_ishl {q : mMI} {X : mCx} {tgt : mR} {pc : Nat} {lv : List (Nat × Value)} {st : List Value} {μ : mMem} {x y : Int32} (hd : decode q.2.1 pc = .ok (.ishl, 1)) (h : T q X tgt (pc + 1) lv (.int (x <<< (y &&& 31)) :: st) μ) : T q X tgt pc lv (.int y :: .int x :: st) μ :=
  fun hG v μ' ht H locs ls hP hS hl => lv_ishl hG.1 hG.2.1 hd (h hG v μ' ht H locs ls hP hS hl)
theorem T_ishr {q : mMI} {X : mCx} {tgt : mR} {pc : Nat} {lv : List (Nat × Value)} {st : List Value} {μ : mMem} {x y : Int32} (hd : decode q.2.1 pc = .ok (.ishr, 1)) (h : T q X tgt (pc + 1) lv (.int (x >>> (y &&& 31)) :: st) μ) : T q X tgt pc lv (.int y :: .int x :: st) μ :=
  fun hG v μ' ht H locs ls hP hS hl => lv_ishr hG.1 hG.2.1 hd (h hG v μ' ht H locs ls hP hS hl)
theorem T_iushr {q : mMI} {X : mCx} {tgt : mR} {pc : Nat} {lv : List (Nat × Value)} {st : List Value} {μ : mMem} {x y : Int32} (hd : decode q.2.1 pc = .ok (.iushr, 1)) (h : T q X tgt (pc + 1) lv (.int ((x.toUInt32 >>> (y.toUInt32 &&& Int32.toUInt32 31)).toInt32) :: st) μ) : T q X tgt pc lv (.int y :: .int x :: st) μ :=
  fun hG v μ' ht H locs ls hP hS hl => lv_iushr hG.1 hG.2.1 hd rfl (h hG v μ' ht H locs ls hP hS hl)
theorem T_ineg {q : mMI} {X : mCx} {tgt : mR} {pc : Nat} {lv : List (Nat × Value)} {st : List Value} {μ : mMem} {x : Int32} (hd : decode q.2.1 pc = .ok (.ineg, 1)) (h : T q X tgt (pc + 1) lv (.int (-x) :: st) μ) : T q X tgt pc lv (.int x :: st) μ :=
  fun hG v μ' ht H locs ls hP hS hl => lv_ineg hG.1 hG.2.1 hd (h hG v μ' ht H locs ls hP hS hl)
theorem T_ladd {q : mMI} {X : mCx} {tgt : mR} {pc : Nat} {lv : List (Nat × Value)} {st : List Value} {μ : mMem} {x y : Int64} (hd : decode q.2.1 pc = .ok (.ladd, 1)) (h : T q X tgt (pc + 1) lv (.long (x + y) :: st) μ) : T q X tgt pc lv (.long y :: .long x :: st) μ :=
  fun hG v μ' ht H locs ls hP hS hl => lv_ladd hG.1 hG.2.1 hd (h hG v μ' ht H locs ls hP hS hl)
theorem T_lsub {q : mMI} {X : mCx} {tgt : mR} {pc : Nat} {lv : List (Nat × Value)} {st : List Value} {μ : mMem} {x y : Int64} (hd : decode q.2.1 pc = .ok (.lsub, 1)) (h : T q X tgt (pc + 1) lv (.long (x - y) :: st) μ) : T q X tgt pc lv (.long y :: .long x :: st) μ :=
  fun hG v μ' ht H locs ls hP hS hl => lv_lsub hG.1 hG.2.1 hd (h hG v μ' ht H locs ls hP hS hl)
theorem T_lmul {q : mMI} {X : mCx} {tgt : mR} {pc : Nat} {lv : List (Nat × Value)} {st : List Value} {μ : mMem} {x y : Int64} (hd : decode q.2.1 pc = .ok (.lmul, 1)) (h : T q X tgt (pc + 1) lv (.long (x * y) :: st) μ) : T q X tgt pc lv (.long y :: .long x :: st) μ :=
  fun hG v μ' ht H locs ls hP hS hl => lv_lmul hG.1 hG.2.1 hd (h hG v μ' ht H locs ls hP hS hl)
theorem T_lcmp {q : mMI} {X : mCx} {tgt : mR} {pc : Nat} {lv : List (Nat × Value)} {st : List Value} {μ : mMem} {x y : Int64} (hd : decode q.2.1 pc = .ok (.lcmp, 1)) (h : T q X tgt (pc + 1) lv (.int (lg_cmp x y) :: st) μ) : T q X tgt pc lv (.long y :: .long x :: st) μ :=
  fun hG v μ' ht H locs ls hP hS hl => W.lcmp hG.1 hG.2.1 hd (h hG v μ' ht H locs ls hP hS hl)
theorem T_i2l {q : mMI} {X : mCx} {tgt : mR} {pc : Nat} {lv : List (Nat × Value)} {st : List Value} {μ : mMem} {x : Int32} (hd : decode q.2.1 pc = .ok (.i2l, 1)) (h : T q X tgt (pc + 1) lv (.long x.toInt64 :: st) μ) : T q X tgt pc lv (.int x :: st) μ :=
  fun hG v μ' ht H locs ls hP hS hl => lv_i2l hG.1 hG.2.1 hd rfl (h hG v μ' ht H locs ls hP hS hl)
theorem T_i2b {q : mMI} {X : mCx} {tgt : mR} {pc : Nat} {lv : List (Nat × Value)} {st : List Value} {μ : mMem} {x : Int32} (hd : decode q.2.1 pc = .ok (.i2b, 1)) (h : T q X tgt (pc + 1) lv (.int x.toInt8.toInt32 :: st) μ) : T q X tgt pc lv (.int x :: st) μ :=
  fun hG v μ' ht H locs ls hP hS hl => lv_i2b hG.1 hG.2.1 hd rfl (h hG v μ' ht H locs ls hP hS hl)
theorem T_i2s {q : mMI} {X : mCx} {tgt : mR} {pc : Nat} {lv : List (Nat × Value)} {st : List Value} {μ : mMem} {x : Int32} (hd : decode q.2.1 pc = .ok (.i2s, 1)) (h : T q X tgt (pc + 1) lv (.int x.toInt16.toInt32 :: st) μ) : T q X tgt pc lv (.int x :: st) μ :=
  fun hG v μ' ht H locs ls hP hS hl => lv_i2s hG.1 hG.2.1 hd rfl (h hG v μ' ht H locs ls hP hS hl)
theorem T_dup {q : mMI} {X : mCx} {tgt : mR} {pc : Nat} {lv : List (Nat × Value)} {st : List Value} {μ : mMem} {x : Value} (hc : x.category = 1) (hd : decode q.2.1 pc = .ok (.dup, 1)) (h : T q X tgt (pc + 1) lv (x :: x :: st) μ) : T q X tgt pc lv (x :: st) μ :=
  fun hG v μ' ht H locs ls hP hS hl => lv_dup hG.1 hG.2.1 hd (by rw [cz_cat]; exact hc) (h hG v μ' ht H locs ls hP hS hl)
theorem T_pop {q : mMI} {X : mCx} {tgt : mR} {pc : Nat} {lv : List (Nat × Value)} {st : List Value} {μ : mMem} {x : Value} (hc : x.category = 1) (hd : decode q.2.1 pc = .ok (.pop, 1)) (h : T q X tgt (pc + 1) lv (st) μ) : T q X tgt pc lv (x :: st) μ :=
  fun hG v μ' ht H locs ls hP hS hl => lv_pop hG.1 hG.2.1 hd (by rw [cz_cat]; exact hc) (h hG v μ' ht H locs ls hP hS hl)
theorem T_idiv {q : mMI} {X : mCx} {tgt : mR} {pc : Nat} {lv : List (Nat × Value)} {st : List Value} {μ : mMem} {x y : Int32} (hd : decode q.2.1 pc = .ok (.idiv, 1)) {dc : Decidable (¬ y = 0)} (h : T q X tgt (pc + 1) lv (.int (x / y) :: st) μ) : T q X (gd (¬ y = 0) tgt dc) pc lv (.int y :: .int x :: st) μ := by
  unfold gd
  refine T_ite (fun hc => ?_) (fun _ => T_none)
  exact fun hG v μ' ht H locs ls hP hS hl => lv_idiv hG.1 hG.2.1 hd hc (h hG v μ' ht H locs ls hP hS hl)
theorem T_irem {q : mMI} {X : mCx} {tgt : mR} {pc : Nat} {lv : List (Nat × Value)} {st : List Value} {μ : mMem} {x y : Int32} (hd : decode q.2.1 pc = .ok (.irem, 1)) {dc : Decidable (¬ y = 0)} (h : T q X tgt (pc + 1) lv (.int (x - x / y * y) :: st) μ) : T q X (gd (¬ y = 0) tgt dc) pc lv (.int y :: .int x :: st) μ := by
  unfold gd
  refine T_ite (fun hc => ?_) (fun _ => T_none)
  exact fun hG v μ' ht H locs ls hP hS hl => lv_irem hG.1 hG.2.1 hd hc (h hG v μ' ht H locs ls hP hS hl)
theorem T_ldiv {q : mMI} {X : mCx} {tgt : mR} {pc : Nat} {lv : List (Nat × Value)} {st : List Value} {μ : mMem} {x y : Int64} (hd : decode q.2.1 pc = .ok (.ldiv, 1)) {dc : Decidable (¬ y = 0)} (h : T q X tgt (pc + 1) lv (.long (x / y) :: st) μ) : T q X (gd (¬ y = 0) tgt dc) pc lv (.long y :: .long x :: st) μ := by
  unfold gd
  refine T_ite (fun hc => ?_) (fun _ => T_none)
  exact fun hG v μ' ht H locs ls hP hS hl => lv_ldiv hG.1 hG.2.1 hd hc (h hG v μ' ht H locs ls hP hS hl)
theorem T_lrem {q : mMI} {X : mCx} {tgt : mR} {pc : Nat} {lv : List (Nat × Value)} {st : List Value} {μ : mMem} {x y : Int64} (hd : decode q.2.1 pc = .ok (.lrem, 1)) {dc : Decidable (¬ y = 0)} (h : T q X tgt (pc + 1) lv (.long (x - x / y * y) :: st) μ) : T q X (gd (¬ y = 0) tgt dc) pc lv (.long y :: .long x :: st) μ := by
  unfold gd
  refine T_ite (fun hc => ?_) (fun _ => T_none)
  exact fun hG v μ' ht H locs ls hP hS hl => lv_lrem hG.1 hG.2.1 hd hc (h hG v μ' ht H locs ls hP hS hl)
theorem T_iconst {q : mMI} {X : mCx} {tgt : mR} {pc : Nat} {lv : List (Nat × Value)} {st : List Value} {μ : mMem} {n : Int} (z : Int32) (hv : Int32.ofInt n = z) (hd : decode q.2.1 pc = .ok (.iconst n, 1)) (h : T q X tgt (pc + 1) lv (.int z :: st) μ) : T q X tgt pc lv (st) μ :=
  fun hG v μ' ht H locs ls hP hS hl => lv_iconst hG.1 hG.2.1 hd hv (h hG v μ' ht H locs ls hP hS hl)
theorem T_bipush {q : mMI} {X : mCx} {tgt : mR} {pc : Nat} {lv : List (Nat × Value)} {st : List Value} {μ : mMem} {n : Int} (z : Int32) (hv : (Int8.ofInt n).toInt32 = z) (hd : decode q.2.1 pc = .ok (.bipush n, 2)) (h : T q X tgt (pc + 2) lv (.int z :: st) μ) : T q X tgt pc lv (st) μ :=
  fun hG v μ' ht H locs ls hP hS hl => lv_bipush hG.1 hG.2.1 hd hv (h hG v μ' ht H locs ls hP hS hl)
theorem T_sipush {q : mMI} {X : mCx} {tgt : mR} {pc : Nat} {lv : List (Nat × Value)} {st : List Value} {μ : mMem} {n : Int} (z : Int32) (hv : (Int16.ofInt n).toInt32 = z) (hd : decode q.2.1 pc = .ok (.sipush n, 3)) (h : T q X tgt (pc + 3) lv (.int z :: st) μ) : T q X tgt pc lv (st) μ :=
  fun hG v μ' ht H locs ls hP hS hl => lv_sipush hG.1 hG.2.1 hd hv (h hG v μ' ht H locs ls hP hS hl)
theorem T_lconst {q : mMI} {X : mCx} {tgt : mR} {pc : Nat} {lv : List (Nat × Value)} {st : List Value} {μ : mMem} {n : Fin 2} (z : Int64) (hv : Int64.ofNat (n : Nat) = z) (hd : decode q.2.1 pc = .ok (.lconst n, 1)) (h : T q X tgt (pc + 1) lv (.long z :: st) μ) : T q X tgt pc lv (st) μ :=
  fun hG v μ' ht H locs ls hP hS hl => lv_lconst hG.1 hG.2.1 hd hv (h hG v μ' ht H locs ls hP hS hl)
theorem T_ldc2 {q : mMI} {X : mCx} {tgt : mR} {pc : Nat} {lv : List (Nat × Value)} {st : List Value} {μ : mMem} {index : Nat} {z : Int64} (hw : Cond.constantLong q.1.cls index z ∈ gdL) (hd : decode q.2.1 pc = .ok (.ldc2_w index, 3)) (h : T q X tgt (pc + 3) lv (.long z :: st) μ) : T q X tgt pc lv st μ :=
  fun hG v μ' ht H locs ls hP hS hl => lv_ldc2 hG.1 hG.2.1 hG.2.2.2.2.2.1 (hG.2.2.2.2.2.2.1 _ hw) hd (h hG v μ' ht H locs ls hP hS hl)
theorem T_ldc {q : mMI} {X : mCx} {tgt : mR} {pc : Nat} {lv : List (Nat × Value)} {st : List Value} {μ : mMem} {index : Nat} {z : Int32} (hw : Cond.constant q.1.cls index z ∈ gdL) (hd : decode q.2.1 pc = .ok (.ldc index, 2)) (h : T q X tgt (pc + 2) lv (.int z :: st) μ) : T q X tgt pc lv st μ :=
  fun hG v μ' ht H locs ls hP hS hl => lv_ldc hG.1 hG.2.1 hG.2.2.2.2.2.1 (hG.2.2.2.2.2.2.1 _ hw) hd (h hG v μ' ht H locs ls hP hS hl)
theorem T_ldcw {q : mMI} {X : mCx} {tgt : mR} {pc : Nat} {lv : List (Nat × Value)} {st : List Value} {μ : mMem} {index : Nat} {z : Int32} (hw : Cond.constant q.1.cls index z ∈ gdL) (hd : decode q.2.1 pc = .ok (.ldc_w index, 3)) (h : T q X tgt (pc + 3) lv (.int z :: st) μ) : T q X tgt pc lv st μ :=
  fun hG v μ' ht H locs ls hP hS hl => lv_ldcw hG.1 hG.2.1 hG.2.2.2.2.2.1 (hG.2.2.2.2.2.2.1 _ hw) hd (h hG v μ' ht H locs ls hP hS hl)
theorem T_iload_n {q : mMI} {X : mCx} {tgt : mR} {pc : Nat} {lv : List (Nat × Value)} {st : List Value} {μ : mMem} {f : Fin 4} {i : Nat} {x : Int32} (k : Nat) (hi : (f : Nat) = i) (hk : lv[k]? = some (i, .int x)) (hd : decode q.2.1 pc = .ok (.iload_n f, 1)) (h : T q X tgt (pc + 1) lv (.int x :: st) μ) : T q X tgt pc lv (st) μ :=
  fun hG v μ' ht H locs ls hP hS hl => lv_iload_n hG.1 hG.2.1 hd hi (lv_at hl k (lv_gm hk)) (h hG v μ' ht H locs ls hP hS hl)
theorem T_iload {q : mMI} {X : mCx} {tgt : mR} {pc : Nat} {lv : List (Nat × Value)} {st : List Value} {μ : mMem} {i : Nat} {x : Int32} (k : Nat) (hk : lv[k]? = some (i, .int x)) (hd : decode q.2.1 pc = .ok (.iload i, 2)) (h : T q X tgt (pc + 2) lv (.int x :: st) μ) : T q X tgt pc lv (st) μ :=
  fun hG v μ' ht H locs ls hP hS hl => lv_iload hG.1 hG.2.1 hd (lv_at hl k (lv_gm hk)) (h hG v μ' ht H locs ls hP hS hl)
theorem T_lload_n {q : mMI} {X : mCx} {tgt : mR} {pc : Nat} {lv : List (Nat × Value)} {st : List Value} {μ : mMem} {f : Fin 4} {i : Nat} {x : Int64} (k : Nat) (hi : (f : Nat) = i) (hk : lv[k]? = some (i, .long x)) (hd : decode q.2.1 pc = .ok (.lload_n f, 1)) (h : T q X tgt (pc + 1) lv (.long x :: st) μ) : T q X tgt pc lv (st) μ :=
  fun hG v μ' ht H locs ls hP hS hl => lv_lload_n hG.1 hG.2.1 hd hi (lv_at hl k (lv_gm hk)) (h hG v μ' ht H locs ls hP hS hl)
theorem T_lload {q : mMI} {X : mCx} {tgt : mR} {pc : Nat} {lv : List (Nat × Value)} {st : List Value} {μ : mMem} {i : Nat} {x : Int64} (k : Nat) (hk : lv[k]? = some (i, .long x)) (hd : decode q.2.1 pc = .ok (.lload i, 2)) (h : T q X tgt (pc + 2) lv (.long x :: st) μ) : T q X tgt pc lv (st) μ :=
  fun hG v μ' ht H locs ls hP hS hl => lv_lload hG.1 hG.2.1 hd (lv_at hl k (lv_gm hk)) (h hG v μ' ht H locs ls hP hS hl)
theorem T_aload_n {q : mMI} {X : mCx} {tgt : mR} {pc : Nat} {lv : List (Nat × Value)} {st : List Value} {μ : mMem} {f : Fin 4} {i : Nat} {x : Nat} (k : Nat) (hi : (f : Nat) = i) (hk : lv[k]? = some (i, .ref x)) (hd : decode q.2.1 pc = .ok (.aload_n f, 1)) (h : T q X tgt (pc + 1) lv (.ref x :: st) μ) : T q X tgt pc lv (st) μ :=
  fun hG v μ' ht H locs ls hP hS hl => lv_aload_n hG.1 hG.2.1 hd hi (lv_at hl k (lv_gm hk)) (h hG v μ' ht H locs ls hP hS hl)
theorem T_aload {q : mMI} {X : mCx} {tgt : mR} {pc : Nat} {lv : List (Nat × Value)} {st : List Value} {μ : mMem} {i : Nat} {x : Nat} (k : Nat) (hk : lv[k]? = some (i, .ref x)) (hd : decode q.2.1 pc = .ok (.aload i, 2)) (h : T q X tgt (pc + 2) lv (.ref x :: st) μ) : T q X tgt pc lv (st) μ :=
  fun hG v μ' ht H locs ls hP hS hl => lv_aload hG.1 hG.2.1 hd (lv_at hl k (lv_gm hk)) (h hG v μ' ht H locs ls hP hS hl)
theorem T_istore_n {q : mMI} {X : mCx} {tgt : mR} {pc : Nat} {lv : List (Nat × Value)} {st : List Value} {μ : mMem} {lv' : List (Nat × Value)} {f : Fin 4} {i : Nat} {x : Int32} (hi : (f : Nat) = i) (hn : i < q.2.2.1) (hv : (i, Value.int x) :: lv.filter (fun q => !(q.1 == i) && !(q.1 + 1 == i && q.2.category == 2)) = lv') (hd : decode q.2.1 pc = .ok (.istore_n f, 1)) (h : T q X tgt (pc + 1) lv' st μ) : T q X tgt pc lv (.int x :: st) μ :=
  fun hG v μ' ht H locs ls hP hS hl => lv_istore_n hG.1 hG.2.1 hd hi hl hn (by
    show (i, cz (xad X) (Value.int x)) :: _ = _
    rw [lv_fm (xad X) (fun a c => !(a == i) && !(a + 1 == i && c == 2)) lv, ← hv]; rfl) (fun ls' hl' => h hG v μ' ht H locs ls' hP hS hl')
theorem T_istore {q : mMI} {X : mCx} {tgt : mR} {pc : Nat} {lv : List (Nat × Value)} {st : List Value} {μ : mMem} {lv' : List (Nat × Value)} {i : Nat} {x : Int32} (hn : i < q.2.2.1) (hv : (i, Value.int x) :: lv.filter (fun q => !(q.1 == i) && !(q.1 + 1 == i && q.2.category == 2)) = lv') (hd : decode q.2.1 pc = .ok (.istore i, 2)) (h : T q X tgt (pc + 2) lv' st μ) : T q X tgt pc lv (.int x :: st) μ :=
  fun hG v μ' ht H locs ls hP hS hl => lv_istore hG.1 hG.2.1 hd hl hn (by
    show (i, cz (xad X) (Value.int x)) :: _ = _
    rw [lv_fm (xad X) (fun a c => !(a == i) && !(a + 1 == i && c == 2)) lv, ← hv]; rfl) (fun ls' hl' => h hG v μ' ht H locs ls' hP hS hl')
theorem T_lstore_n {q : mMI} {X : mCx} {tgt : mR} {pc : Nat} {lv : List (Nat × Value)} {st : List Value} {μ : mMem} {lv' : List (Nat × Value)} {f : Fin 4} {i : Nat} {x : Int64} (hi : (f : Nat) = i) (hn : i + 1 < q.2.2.1) (hv : (i, Value.long x) :: lv.filter (fun q => !(q.1 == i) && (!(q.1 == i + 1) && !(q.1 + 1 == i && q.2.category == 2))) = lv') (hd : decode q.2.1 pc = .ok (.lstore_n f, 1)) (h : T q X tgt (pc + 1) lv' st μ) : T q X tgt pc lv (.long x :: st) μ :=
  fun hG v μ' ht H locs ls hP hS hl => lv_lstore_n hG.1 hG.2.1 hd hi hl hn (by
    show (i, cz (xad X) (Value.long x)) :: _ = _
    rw [lv_fm (xad X) (fun a c => !(a == i) && (!(a == i + 1) && !(a + 1 == i && c == 2))) lv, ← hv]; rfl) (fun ls' hl' => h hG v μ' ht H locs ls' hP hS hl')
theorem T_lstore {q : mMI} {X : mCx} {tgt : mR} {pc : Nat} {lv : List (Nat × Value)} {st : List Value} {μ : mMem} {lv' : List (Nat × Value)} {i : Nat} {x : Int64} (hn : i + 1 < q.2.2.1) (hv : (i, Value.long x) :: lv.filter (fun q => !(q.1 == i) && (!(q.1 == i + 1) && !(q.1 + 1 == i && q.2.category == 2))) = lv') (hd : decode q.2.1 pc = .ok (.lstore i, 2)) (h : T q X tgt (pc + 2) lv' st μ) : T q X tgt pc lv (.long x :: st) μ :=
  fun hG v μ' ht H locs ls hP hS hl => lv_lstore hG.1 hG.2.1 hd hl hn (by
    show (i, cz (xad X) (Value.long x)) :: _ = _
    rw [lv_fm (xad X) (fun a c => !(a == i) && (!(a == i + 1) && !(a + 1 == i && c == 2))) lv, ← hv]; rfl) (fun ls' hl' => h hG v μ' ht H locs ls' hP hS hl')
theorem T_astore_n {q : mMI} {X : mCx} {tgt : mR} {pc : Nat} {lv : List (Nat × Value)} {st : List Value} {μ : mMem} {lv' : List (Nat × Value)} {f : Fin 4} {i : Nat} {x : Nat} (hi : (f : Nat) = i) (hn : i < q.2.2.1) (hv : (i, Value.ref x) :: lv.filter (fun q => !(q.1 == i) && !(q.1 + 1 == i && q.2.category == 2)) = lv') (hd : decode q.2.1 pc = .ok (.astore_n f, 1)) (h : T q X tgt (pc + 1) lv' st μ) : T q X tgt pc lv (.ref x :: st) μ :=
  fun hG v μ' ht H locs ls hP hS hl => lv_astore_n hG.1 hG.2.1 hd hi hl hn (by
    show (i, cz (xad X) (Value.ref x)) :: _ = _
    rw [lv_fm (xad X) (fun a c => !(a == i) && !(a + 1 == i && c == 2)) lv, ← hv]; rfl) (fun ls' hl' => h hG v μ' ht H locs ls' hP hS hl')
theorem T_astore {q : mMI} {X : mCx} {tgt : mR} {pc : Nat} {lv : List (Nat × Value)} {st : List Value} {μ : mMem} {lv' : List (Nat × Value)} {i : Nat} {x : Nat} (hn : i < q.2.2.1) (hv : (i, Value.ref x) :: lv.filter (fun q => !(q.1 == i) && !(q.1 + 1 == i && q.2.category == 2)) = lv') (hd : decode q.2.1 pc = .ok (.astore i, 2)) (h : T q X tgt (pc + 2) lv' st μ) : T q X tgt pc lv (.ref x :: st) μ :=
  fun hG v μ' ht H locs ls hP hS hl => lv_astore hG.1 hG.2.1 hd hl hn (by
    show (i, cz (xad X) (Value.ref x)) :: _ = _
    rw [lv_fm (xad X) (fun a c => !(a == i) && !(a + 1 == i && c == 2)) lv, ← hv]; rfl) (fun ls' hl' => h hG v μ' ht H locs ls' hP hS hl')
theorem T_iinc {q : mMI} {X : mCx} {tgt : mR} {pc : Nat} {lv : List (Nat × Value)} {st : List Value} {μ : mMem} {lv' : List (Nat × Value)} {i : Nat} {n : Int} {x : Int32} (k : Nat) (z : Int32) (hk : lv[k]? = some (i, .int x)) (hz : Int32.ofInt n = z) (hn : i < q.2.2.1) (hv : (i, Value.int (x + z)) :: lv.filter (fun q => !(q.1 == i) && !(q.1 + 1 == i && q.2.category == 2)) = lv') (hd : decode q.2.1 pc = .ok (.iinc i n, 3)) (h : T q X tgt (pc + 3) lv' st μ) : T q X tgt pc lv st μ :=
  fun hG v μ' ht H locs ls hP hS hl => lv_iinc (v := x + z) hG.1 hG.2.1 hd hl (lv_gm hk) (by rw [hz]) hn (by
    show (i, cz (xad X) (Value.int (x + z))) :: _ = _
    rw [lv_fm (xad X) (fun a c => !(a == i) && !(a + 1 == i && c == 2)) lv, ← hv]; rfl) (fun ls' hl' => h hG v μ' ht H locs ls' hP hS hl')
theorem T_if_eq {q : mMI} {X : mCx} {r1 r2 : mR} {pc : Nat} {lv : List (Nat × Value)} {st : List Value} {μ : mMem} {x : Int32} {off : Int} {dc : Decidable (x = 0)} (t : Nat) (hd : decode q.2.1 pc = .ok (.ifCond .eq off, 3)) (htg : (pc : Int) + off = (t : Int)) (h1 : x = 0 → T q X r1 (t) lv st μ) (h2 : ¬ x = 0 → T q X r2 (pc + 3) lv st μ) : T q X (@ite mR (x = 0) dc r1 r2) pc lv (.int x :: st) μ :=
  fun hG v μ' ht H locs ls hP hS hl => lv_if_eq (tgt := t) hG.1 hG.2.1 hd htg (fun hc => h1 hc hG v μ' (by rw [if_pos hc] at ht; exact ht) H locs ls hP hS hl) (fun hc => h2 hc hG v μ' (by rw [if_neg hc] at ht; exact ht) H locs ls hP hS hl)
theorem T_icmp_eq {q : mMI} {X : mCx} {r1 r2 : mR} {pc : Nat} {lv : List (Nat × Value)} {st : List Value} {μ : mMem} {x y : Int32} {off : Int} {dc : Decidable (x = y)} (t : Nat) (hd : decode q.2.1 pc = .ok (.if_icmp .eq off, 3)) (htg : (pc : Int) + off = (t : Int)) (h1 : x = y → T q X r1 (t) lv st μ) (h2 : ¬ x = y → T q X r2 (pc + 3) lv st μ) : T q X (@ite mR (x = y) dc r1 r2) pc lv (.int y :: .int x :: st) μ :=
  fun hG v μ' ht H locs ls hP hS hl => lv_icmp_eq (tgt := t) hG.1 hG.2.1 hd htg (fun hc => h1 hc hG v μ' (by rw [if_pos hc] at ht; exact ht) H locs ls hP hS hl) (fun hc => h2 hc hG v μ' (by rw [if_neg hc] at ht; exact ht) H locs ls hP hS hl)
theorem T_if_lt {q : mMI} {X : mCx} {r1 r2 : mR} {pc : Nat} {lv : List (Nat × Value)} {st : List Value} {μ : mMem} {x : Int32} {off : Int} {dc : Decidable (x < 0)} (t : Nat) (hd : decode q.2.1 pc = .ok (.ifCond .lt off, 3)) (htg : (pc : Int) + off = (t : Int)) (h1 : x < 0 → T q X r1 (t) lv st μ) (h2 : ¬ x < 0 → T q X r2 (pc + 3) lv st μ) : T q X (@ite mR (x < 0) dc r1 r2) pc lv (.int x :: st) μ :=
  fun hG v μ' ht H locs ls hP hS hl => lv_if_lt (tgt := t) hG.1 hG.2.1 hd htg (fun hc => h1 hc hG v μ' (by rw [if_pos hc] at ht; exact ht) H locs ls hP hS hl) (fun hc => h2 hc hG v μ' (by rw [if_neg hc] at ht; exact ht) H locs ls hP hS hl)
theorem T_icmp_lt {q : mMI} {X : mCx} {r1 r2 : mR} {pc : Nat} {lv : List (Nat × Value)} {st : List Value} {μ : mMem} {x y : Int32} {off : Int} {dc : Decidable (x < y)} (t : Nat) (hd : decode q.2.1 pc = .ok (.if_icmp .lt off, 3)) (htg : (pc : Int) + off = (t : Int)) (h1 : x < y → T q X r1 (t) lv st μ) (h2 : ¬ x < y → T q X r2 (pc + 3) lv st μ) : T q X (@ite mR (x < y) dc r1 r2) pc lv (.int y :: .int x :: st) μ :=
  fun hG v μ' ht H locs ls hP hS hl => lv_icmp_lt (tgt := t) hG.1 hG.2.1 hd htg (fun hc => h1 hc hG v μ' (by rw [if_pos hc] at ht; exact ht) H locs ls hP hS hl) (fun hc => h2 hc hG v μ' (by rw [if_neg hc] at ht; exact ht) H locs ls hP hS hl)
theorem T_if_ge {q : mMI} {X : mCx} {r1 r2 : mR} {pc : Nat} {lv : List (Nat × Value)} {st : List Value} {μ : mMem} {x : Int32} {off : Int} {dc : Decidable (0 ≤ x)} (t : Nat) (hd : decode q.2.1 pc = .ok (.ifCond .ge off, 3)) (htg : (pc : Int) + off = (t : Int)) (h1 : 0 ≤ x → T q X r1 (t) lv st μ) (h2 : ¬ 0 ≤ x → T q X r2 (pc + 3) lv st μ) : T q X (@ite mR (0 ≤ x) dc r1 r2) pc lv (.int x :: st) μ :=
  fun hG v μ' ht H locs ls hP hS hl => lv_if_ge (tgt := t) hG.1 hG.2.1 hd htg (fun hc => h1 hc hG v μ' (by rw [if_pos hc] at ht; exact ht) H locs ls hP hS hl) (fun hc => h2 hc hG v μ' (by rw [if_neg hc] at ht; exact ht) H locs ls hP hS hl)
theorem T_icmp_ge {q : mMI} {X : mCx} {r1 r2 : mR} {pc : Nat} {lv : List (Nat × Value)} {st : List Value} {μ : mMem} {x y : Int32} {off : Int} {dc : Decidable (y ≤ x)} (t : Nat) (hd : decode q.2.1 pc = .ok (.if_icmp .ge off, 3)) (htg : (pc : Int) + off = (t : Int)) (h1 : y ≤ x → T q X r1 (t) lv st μ) (h2 : ¬ y ≤ x → T q X r2 (pc + 3) lv st μ) : T q X (@ite mR (y ≤ x) dc r1 r2) pc lv (.int y :: .int x :: st) μ :=
  fun hG v μ' ht H locs ls hP hS hl => lv_icmp_ge (tgt := t) hG.1 hG.2.1 hd htg (fun hc => h1 hc hG v μ' (by rw [if_pos hc] at ht; exact ht) H locs ls hP hS hl) (fun hc => h2 hc hG v μ' (by rw [if_neg hc] at ht; exact ht) H locs ls hP hS hl)
theorem T_if_gt {q : mMI} {X : mCx} {r1 r2 : mR} {pc : Nat} {lv : List (Nat × Value)} {st : List Value} {μ : mMem} {x : Int32} {off : Int} {dc : Decidable (0 < x)} (t : Nat) (hd : decode q.2.1 pc = .ok (.ifCond .gt off, 3)) (htg : (pc : Int) + off = (t : Int)) (h1 : 0 < x → T q X r1 (t) lv st μ) (h2 : ¬ 0 < x → T q X r2 (pc + 3) lv st μ) : T q X (@ite mR (0 < x) dc r1 r2) pc lv (.int x :: st) μ :=
  fun hG v μ' ht H locs ls hP hS hl => lv_if_gt (tgt := t) hG.1 hG.2.1 hd htg (fun hc => h1 hc hG v μ' (by rw [if_pos hc] at ht; exact ht) H locs ls hP hS hl) (fun hc => h2 hc hG v μ' (by rw [if_neg hc] at ht; exact ht) H locs ls hP hS hl)
theorem T_icmp_gt {q : mMI} {X : mCx} {r1 r2 : mR} {pc : Nat} {lv : List (Nat × Value)} {st : List Value} {μ : mMem} {x y : Int32} {off : Int} {dc : Decidable (y < x)} (t : Nat) (hd : decode q.2.1 pc = .ok (.if_icmp .gt off, 3)) (htg : (pc : Int) + off = (t : Int)) (h1 : y < x → T q X r1 (t) lv st μ) (h2 : ¬ y < x → T q X r2 (pc + 3) lv st μ) : T q X (@ite mR (y < x) dc r1 r2) pc lv (.int y :: .int x :: st) μ :=
  fun hG v μ' ht H locs ls hP hS hl => lv_icmp_gt (tgt := t) hG.1 hG.2.1 hd htg (fun hc => h1 hc hG v μ' (by rw [if_pos hc] at ht; exact ht) H locs ls hP hS hl) (fun hc => h2 hc hG v μ' (by rw [if_neg hc] at ht; exact ht) H locs ls hP hS hl)
theorem T_if_le {q : mMI} {X : mCx} {r1 r2 : mR} {pc : Nat} {lv : List (Nat × Value)} {st : List Value} {μ : mMem} {x : Int32} {off : Int} {dc : Decidable (x ≤ 0)} (t : Nat) (hd : decode q.2.1 pc = .ok (.ifCond .le off, 3)) (htg : (pc : Int) + off = (t : Int)) (h1 : x ≤ 0 → T q X r1 (t) lv st μ) (h2 : ¬ x ≤ 0 → T q X r2 (pc + 3) lv st μ) : T q X (@ite mR (x ≤ 0) dc r1 r2) pc lv (.int x :: st) μ :=
  fun hG v μ' ht H locs ls hP hS hl => lv_if_le (tgt := t) hG.1 hG.2.1 hd htg (fun hc => h1 hc hG v μ' (by rw [if_pos hc] at ht; exact ht) H locs ls hP hS hl) (fun hc => h2 hc hG v μ' (by rw [if_neg hc] at ht; exact ht) H locs ls hP hS hl)
theorem T_icmp_le {q : mMI} {X : mCx} {r1 r2 : mR} {pc : Nat} {lv : List (Nat × Value)} {st : List Value} {μ : mMem} {x y : Int32} {off : Int} {dc : Decidable (x ≤ y)} (t : Nat) (hd : decode q.2.1 pc = .ok (.if_icmp .le off, 3)) (htg : (pc : Int) + off = (t : Int)) (h1 : x ≤ y → T q X r1 (t) lv st μ) (h2 : ¬ x ≤ y → T q X r2 (pc + 3) lv st μ) : T q X (@ite mR (x ≤ y) dc r1 r2) pc lv (.int y :: .int x :: st) μ :=
  fun hG v μ' ht H locs ls hP hS hl => lv_icmp_le (tgt := t) hG.1 hG.2.1 hd htg (fun hc => h1 hc hG v μ' (by rw [if_pos hc] at ht; exact ht) H locs ls hP hS hl) (fun hc => h2 hc hG v μ' (by rw [if_neg hc] at ht; exact ht) H locs ls hP hS hl)
theorem T_if_ne {q : mMI} {X : mCx} {r1 r2 : mR} {pc : Nat} {lv : List (Nat × Value)} {st : List Value} {μ : mMem} {x : Int32} {off : Int} {dc : Decidable (x = 0)} (t : Nat) (hd : decode q.2.1 pc = .ok (.ifCond .ne off, 3)) (htg : (pc : Int) + off = (t : Int)) (h1 : x = 0 → T q X r1 (pc + 3) lv st μ) (h2 : ¬ x = 0 → T q X r2 (t) lv st μ) : T q X (@ite mR (x = 0) dc r1 r2) pc lv (.int x :: st) μ :=
  fun hG v μ' ht H locs ls hP hS hl => lv_if_ne (tgt := t) hG.1 hG.2.1 hd htg (fun hc => h2 hc hG v μ' (by rw [if_neg hc] at ht; exact ht) H locs ls hP hS hl) (fun hc => h1 hc hG v μ' (by rw [if_pos hc] at ht; exact ht) H locs ls hP hS hl)
theorem T_icmp_ne {q : mMI} {X : mCx} {r1 r2 : mR} {pc : Nat} {lv : List (Nat × Value)} {st : List Value} {μ : mMem} {x y : Int32} {off : Int} {dc : Decidable (x = y)} (t : Nat) (hd : decode q.2.1 pc = .ok (.if_icmp .ne off, 3)) (htg : (pc : Int) + off = (t : Int)) (h1 : x = y → T q X r1 (pc + 3) lv st μ) (h2 : ¬ x = y → T q X r2 (t) lv st μ) : T q X (@ite mR (x = y) dc r1 r2) pc lv (.int y :: .int x :: st) μ :=
  fun hG v μ' ht H locs ls hP hS hl => lv_icmp_ne (tgt := t) hG.1 hG.2.1 hd htg (fun hc => h2 hc hG v μ' (by rw [if_neg hc] at ht; exact ht) H locs ls hP hS hl) (fun hc => h1 hc hG v μ' (by rw [if_pos hc] at ht; exact ht) H locs ls hP hS hl)
theorem T_goto {q : mMI} {X : mCx} {tgt : mR} {pc : Nat} {lv : List (Nat × Value)} {st : List Value} {μ : mMem} {off : Int} (t : Nat) (hd : decode q.2.1 pc = .ok (.goto off, 3)) (htg : (pc : Int) + off = (t : Int)) (h : T q X tgt t lv st μ) : T q X tgt pc lv st μ :=
  fun hG v μ' ht H locs ls hP hS hl => lv_goto (tgt := t) hG.1 hG.2.1 hd htg (h hG v μ' ht H locs ls hP hS hl)
end
section
theorem fs_at {ad : Nat → Nat} {c i k N : Nat} {x : Nat → Int32} {C : String} {TT : u_T} (hc : vwCl[c]? = some (C, TT, N)) (hk : k < N) : (fsOf ad c i x)[k]? = some (fv ad c i k x) := by
  have hn : nfc c = N := by unfold nfc; rw [hc]
  unfold fsOf
  rw [hn, List.getElem?_map, List.getElem?_range hk]
  rfl
theorem fs_len {ad : Nat → Nat} {c i N : Nat} {x : Nat → Int32} {C : String} {TT : u_T} (hc : vwCl[c]? = some (C, TT, N)) : (fsOf ad c i x).length = N := by
  have hn : nfc c = N := by unfold nfc; rw [hc]
  unfold fsOf
  rw [hn, List.length_map, List.length_range]
theorem fs_set {ad : Nat → Nat} {c i k N : Nat} {x : Nat → Int32} {z : Int32} {C : String} {TT : u_T} (hc : vwCl[c]? = some (C, TT, N)) (hk : k < N) (hf : ft c k ≠ 2) : (fsOf ad c i x).set k (.int z) = fsOf ad c i (upd x k z) := by
  apply List.ext_getElem?
  intro j
  rw [List.getElem?_set]
  by_cases hj : k = j
  · subst hj
    rw [if_pos rfl, fs_len hc, if_pos hk, fs_at hc hk]
    unfold fv
    rw [if_neg hf]
    simp [upd]
  · rw [if_neg hj]
    by_cases h : j < N
    · rw [fs_at hc h, fs_at hc h]
      unfold fv
      simp [upd, Ne.symm hj]
    · rw [List.getElem?_eq_none (by rw [fs_len hc]; omega), List.getElem?_eq_none (by rw [fs_len hc]; omega)]
theorem inG0 : ∀ w ∈ u_ws RX0 TX0 2, w ∈ gdL := by decide +kernel
theorem inG1 : ∀ w ∈ u_ws RX1 TX1 2, w ∈ gdL := by decide +kernel
theorem inG2 : ∀ w ∈ u_ws RX2 TX2 7, w ∈ gdL := by decide +kernel
theorem inG3 : ∀ w ∈ u_ws RX3 TX3 6, w ∈ gdL := by decide +kernel
theorem inG4 : ∀ w ∈ u_ws RX4 TX4 12, w ∈ gdL := by decide +kernel
theorem inG5 : ∀ w ∈ u_ws RX5 TX5 3, w ∈ gdL := by decide +kernel
theorem inG6 : ∀ w ∈ u_ws RX6 TX6 10, w ∈ gdL := by decide +kernel
theorem inG7 : ∀ w ∈ u_ws RX7 TX7 11, w ∈ gdL := by decide +kernel
theorem inG8 : ∀ w ∈ u_ws RX8 TX8 35, w ∈ gdL := by decide +kernel
theorem inG {c N : Nat} {C : String} {TT : u_T} (hc : vwCl[c]? = some (C, TT, N)) : ∀ w ∈ u_ws C TT N, w ∈ gdL := by
  match c, hc with
  | 0, hc => cases hc; exact inG0
  | 1, hc => cases hc; exact inG1
  | 2, hc => cases hc; exact inG2
  | 3, hc => cases hc; exact inG3
  | 4, hc => cases hc; exact inG4
  | 5, hc => cases hc; exact inG5
  | 6, hc => cases hc; exact inG6
  | 7, hc => cases hc; exact inG7
  | 8, hc => cases hc; exact inG8
  | c + 9, hc => simp [vwCl] at hc
theorem vw_lt {c N : Nat} {C : String} {TT : u_T} (hc : vwCl[c]? = some (C, TT, N)) : c < 9 := (List.getElem?_eq_some_iff.mp hc).1
theorem T_getI {q : mMI} {X : mCx} {tgt : mR} {pc : Nat} {lv : List (Nat × Value)} {st : List Value} {μ : mMem} {b c k index N : Nat} {C ref nm ds : String} {TT : u_T} {fn : Bool} (hc : vwCl[c]? = some (C, TT, N)) (hk : k < N) (hT : TT k = (ref, nm, ds, fn)) (hf : ft c k ≠ 2) (hw : Cond.fieldLink q.1.cls index ref nm ds ∈ gdL) (hb : kd b = (c, 0)) (hd : decode q.2.1 pc = .ok (.getfield index, 3)) (h : T q X tgt (pc + 3) lv (.int (μ.1 b k) :: st) μ) : T q X tgt pc lv (.ref b :: st) μ := fun hG v μ' ht H locs ls hP hS hl => by
  have hb0 := kd_lt hb (by have := vw_lt hc; omega)
  have e : (TT k).2.1 = nm ∧ (TT k).2.2.1 = ds ∧ (TT k).1 = ref := by rw [hT]; exact ⟨rfl, rfl, rfl⟩
  refine va_get (v := .int (μ.1 b k)) (ref := ref) hG.1 hG.2.1 hG.2.2.2.2.2.2.1 (inG hc) hG.2.2.2.2.2.1 hG.2.2.2.2.2.2.2.1 hP b (by rw [ws_at hb0, cell_obj hb (vw_lt hc)]) hc k hk (by rw [e.1, e.2.1]; exact hG.2.2.2.2.2.2.1 _ hw) (fun y hy => by rw [e.2.2] at hy; exact hy) ?_ hd (h hG v μ' ht H locs ls hP hS hl)
  rw [fs_at hc hk]
  unfold fv
  rw [if_neg hf]
theorem T_getR {q : mMI} {X : mCx} {tgt : mR} {pc : Nat} {lv : List (Nat × Value)} {st : List Value} {μ : mMem} {b c k index N : Nat} {C ref nm ds : String} {TT : u_T} {fn : Bool} (hc : vwCl[c]? = some (C, TT, N)) (hk : k < N) (hT : TT k = (ref, nm, ds, fn)) (hf : ft c k = 2) (hw : Cond.fieldLink q.1.cls index ref nm ds ∈ gdL) (hb : kd b = (c, 0)) (z : Nat) (hz : rf b k = z) (hd : decode q.2.1 pc = .ok (.getfield index, 3)) (h : T q X tgt (pc + 3) lv (.ref z :: st) μ) : T q X tgt pc lv (.ref b :: st) μ := fun hG v μ' ht H locs ls hP hS hl => by
  have hb0 := kd_lt hb (by have := vw_lt hc; omega)
  have e : (TT k).2.1 = nm ∧ (TT k).2.2.1 = ds ∧ (TT k).1 = ref := by rw [hT]; exact ⟨rfl, rfl, rfl⟩
  refine va_get (v := .ref (xad X z)) (ref := ref) hG.1 hG.2.1 hG.2.2.2.2.2.2.1 (inG hc) hG.2.2.2.2.2.1 hG.2.2.2.2.2.2.2.1 hP b (by rw [ws_at hb0, cell_obj hb (vw_lt hc)]) hc k hk (by rw [e.1, e.2.1]; exact hG.2.2.2.2.2.2.1 _ hw) (fun y hy => by rw [e.2.2] at hy; exact hy) ?_ hd (h hG v μ' ht H locs ls hP hS hl)
  rw [fs_at hc hk]
  unfold fv
  rw [if_pos hf, hz]
theorem ty_G {c N : Nat} {C : String} {TT : u_T} (hc : vwCl[c]? = some (C, TT, N)) : ∃ ty0 : Nat → FieldType, (∀ k, k < N → parseFieldDescriptor (TT k).2.2.1 = some (ty0 k)) ∧ (∀ a, a < N → ∀ b, b < N → a ≠ b → (TT a).2.1 ≠ (TT b).2.1) := by
  match c, hc with
  | 0, hc => cases hc; exact ⟨tyX0, tyX0_ok, nmX0⟩
  | 1, hc => cases hc; exact ⟨tyX1, tyX1_ok, nmX1⟩
  | 2, hc => cases hc; exact ⟨tyX2, tyX2_ok, nmX2⟩
  | 3, hc => cases hc; exact ⟨tyX3, tyX3_ok, nmX3⟩
  | 4, hc => cases hc; exact ⟨tyX4, tyX4_ok, nmX4⟩
  | 5, hc => cases hc; exact ⟨tyX5, tyX5_ok, nmX5⟩
  | 6, hc => cases hc; exact ⟨tyX6, tyX6_ok, nmX6⟩
  | 7, hc => cases hc; exact ⟨tyX7, tyX7_ok, nmX7⟩
  | 8, hc => cases hc; exact ⟨tyX8, tyX8_ok, nmX8⟩
  | c + 9, hc => simp [vwCl] at hc
theorem si_o (μ : mMem) (b k : Nat) (x : Int32) : ∀ j, j ≠ b → (si μ b k x).1 j = μ.1 j ∧ (si μ b k x).2 j = μ.2 j := fun j hj => ⟨by simp [si, hj], rfl⟩
theorem si_b (μ : mMem) (b k : Nat) (x : Int32) : (si μ b k x).1 b = upd (μ.1 b) k x := by simp [si]
theorem sl_o (μ : mMem) (b k : Nat) (x : Int64) : ∀ j, j ≠ b → (sl μ b k x).1 j = μ.1 j ∧ (sl μ b k x).2 j = μ.2 j := fun j hj => ⟨rfl, by simp [sl, hj]⟩
theorem sl_b (μ : mMem) (b k : Nat) (x : Int64) : (sl μ b k x).2 b = vp_updL (μ.2 b) k x := by simp [sl]
theorem T_put {q : mMI} {X : mCx} {tgt : mR} {pc : Nat} {lv : List (Nat × Value)} {st : List Value} {μ : mMem} {b c k index N : Nat} {C ref nm ds : String} {TT : u_T} {ty : FieldType} {x : Int32} (hc : vwCl[c]? = some (C, TT, N)) (hk : k < N) (hT : TT k = (ref, nm, ds, false)) (hf : ft c k ≠ 2) (hw : Cond.fieldLink q.1.cls index ref nm ds ∈ gdL) (hty : parseFieldDescriptor ds = some ty) (hn : narrow ty (.int x) = .int x) (hfit : fits ty (.int x) = true) (hb : kd b = (c, 0)) (hd : decode q.2.1 pc = .ok (.putfield index, 3)) (h : T q X tgt (pc + 3) lv st (si μ b k x)) : T q X tgt pc lv (.int x :: .ref b :: st) μ := fun hG v μ' ht H locs ls hP hS hl => by
  have hb0 := kd_lt hb (by have := vw_lt hc; omega)
  have e : (TT k).2.1 = nm ∧ (TT k).2.2.1 = ds ∧ (TT k).1 = ref ∧ (TT k).2.2.2 = false := by rw [hT]; exact ⟨rfl, rfl, rfl, rfl⟩
  obtain ⟨ty0, t1, t2⟩ := ty_G hc
  refine va_put (v := .int x) (ref := ref) (ty := ty) hG.1 hG.2.1 hG.2.2.2.2.2.2.1 (inG hc) ty0 t1 t2 hG.2.2.2.2.2.1 hG.2.2.2.2.2.2.2.1 hP (ws_D hG.2.2.2.2.2.2.2.2.1 hG.2.2.2.2.2.2.2.2.2.1) hS b (by rw [ws_at hb0, cell_obj hb (vw_lt hc)]) hc k hk (by rw [e.1, e.2.1]; exact hG.2.2.2.2.2.2.1 _ hw) (fun y hy => by rw [e.2.2.1] at hy; exact hy) e.2.2.2 (by rw [e.2.1]; exact hty) hn hfit (by rw [fs_len hc]; exact hk) hd (fun H1 locs1 hP1 _ hS1 => ?_)
  refine h hG v μ' ht H1 locs1 ls ?_ hS1 hl
  rw [ws_set (μ' := si μ b k x) hb0 (by rw [cell_obj hb (vw_lt hc), si_b, fs_set hc hk hf]) (si_o μ b k x)] at hP1
  exact hP1
theorem T_bald {q : mMI} {X : mCx} {tgt : mR} {pc : Nat} {lv : List (Nat × Value)} {st : List Value} {μ : mMem} {b n : Nat} {i : Int32} {dc : Decidable (vp_in i n)} (hb : kd b = (9, n)) (hd : decode q.2.1 pc = .ok (.baload, 1)) (h : T q X tgt (pc + 1) lv (.int (μ.1 b i.toNatClampNeg) :: st) μ) : T q X (gd (vp_in i n) tgt dc) pc lv (.int i :: .ref b :: st) μ := by
  unfold gd
  refine T_ite (fun hc => ?_) (fun _ => T_none)
  exact fun hG v μ' ht H locs ls hP hS hl => va_bald (f := μ.1 b) hG.1 hG.2.1 hG.2.2.2.2.2.2.2.1 hP b 0 (by rw [ws_at (kd_lt hb (by decide)), cell_int hb (by decide)]) rfl hc hd (h hG v μ' ht H locs ls hP hS hl)
theorem T_iald {q : mMI} {X : mCx} {tgt : mR} {pc : Nat} {lv : List (Nat × Value)} {st : List Value} {μ : mMem} {b n : Nat} {i : Int32} {dc : Decidable (vp_in i n)} (hb : kd b = (10, n)) (hd : decode q.2.1 pc = .ok (.iaload, 1)) (h : T q X tgt (pc + 1) lv (.int (μ.1 b i.toNatClampNeg) :: st) μ) : T q X (gd (vp_in i n) tgt dc) pc lv (.int i :: .ref b :: st) μ := by
  unfold gd
  refine T_ite (fun hc => ?_) (fun _ => T_none)
  exact fun hG v μ' ht H locs ls hP hS hl => va_iald (f := μ.1 b) hG.1 hG.2.1 hG.2.2.2.2.2.2.2.1 hP b 1 (by rw [ws_at (kd_lt hb (by decide)), cell_int hb (by decide)]) rfl hc hd (h hG v μ' ht H locs ls hP hS hl)
theorem T_zald {q : mMI} {X : mCx} {tgt : mR} {pc : Nat} {lv : List (Nat × Value)} {st : List Value} {μ : mMem} {b n : Nat} {i : Int32} {dc : Decidable (vp_in i n)} (hb : kd b = (12, n)) (hd : decode q.2.1 pc = .ok (.baload, 1)) (h : T q X tgt (pc + 1) lv (.int (μ.1 b i.toNatClampNeg) :: st) μ) : T q X (gd (vp_in i n) tgt dc) pc lv (.int i :: .ref b :: st) μ := by
  unfold gd
  refine T_ite (fun hc => ?_) (fun _ => T_none)
  exact fun hG v μ' ht H locs ls hP hS hl => va_zald (f := μ.1 b) hG.1 hG.2.1 hG.2.2.2.2.2.2.2.1 hP b 3 (by rw [ws_at (kd_lt hb (by decide)), cell_int hb (by decide)]) rfl hc hd (h hG v μ' ht H locs ls hP hS hl)
theorem T_lald {q : mMI} {X : mCx} {tgt : mR} {pc : Nat} {lv : List (Nat × Value)} {st : List Value} {μ : mMem} {b n : Nat} {i : Int32} {dc : Decidable (vp_in i n)} (hb : kd b = (11, n)) (hd : decode q.2.1 pc = .ok (.laload, 1)) (h : T q X tgt (pc + 1) lv (.long (μ.2 b i.toNatClampNeg) :: st) μ) : T q X (gd (vp_in i n) tgt dc) pc lv (.int i :: .ref b :: st) μ := by
  unfold gd
  refine T_ite (fun hc => ?_) (fun _ => T_none)
  exact fun hG v μ' ht H locs ls hP hS hl => va_lald (f := μ.2 b) hG.1 hG.2.1 hG.2.2.2.2.2.2.2.1 hP b 2 (by rw [ws_at (kd_lt hb (by decide)), cell_long hb]) rfl hc hd (h hG v μ' ht H locs ls hP hS hl)
theorem T_alen {q : mMI} {X : mCx} {tgt : mR} {pc : Nat} {lv : List (Nat × Value)} {st : List Value} {μ : mMem} {b c n : Nat} (hb : kd b = (c, n)) (hc : c = 9 ∨ c = 10 ∨ c = 12) (hd : decode q.2.1 pc = .ok (.arraylength, 1)) (h : T q X tgt (pc + 1) lv (.int (Int32.ofNat n) :: st) μ) : T q X tgt pc lv (.ref b :: st) μ := fun hG v μ' ht H locs ls hP hS hl => by
  have hb0 := kd_lt hb (by omega)
  rcases hc with rfl | rfl | rfl
  · exact va_alen (x := (n, .inl (μ.1 b))) hG.1 hG.2.1 hG.2.2.2.2.2.2.2.1 hP b 0 (by rw [ws_at hb0, cell_int hb (by decide)]) rfl rfl hd (h hG v μ' ht H locs ls hP hS hl)
  · exact va_alen (x := (n, .inl (μ.1 b))) hG.1 hG.2.1 hG.2.2.2.2.2.2.2.1 hP b 1 (by rw [ws_at hb0, cell_int hb (by decide)]) rfl rfl hd (h hG v μ' ht H locs ls hP hS hl)
  · exact va_alen (x := (n, .inl (μ.1 b))) hG.1 hG.2.1 hG.2.2.2.2.2.2.2.1 hP b 3 (by rw [ws_at hb0, cell_int hb (by decide)]) rfl rfl hd (h hG v μ' ht H locs ls hP hS hl)
theorem T_alenL {q : mMI} {X : mCx} {tgt : mR} {pc : Nat} {lv : List (Nat × Value)} {st : List Value} {μ : mMem} {b n : Nat} (hb : kd b = (11, n)) (hd : decode q.2.1 pc = .ok (.arraylength, 1)) (h : T q X tgt (pc + 1) lv (.int (Int32.ofNat n) :: st) μ) : T q X tgt pc lv (.ref b :: st) μ := fun hG v μ' ht H locs ls hP hS hl => va_alen (x := (n, .inr (.inl (μ.2 b)))) hG.1 hG.2.1 hG.2.2.2.2.2.2.2.1 hP b 2 (by rw [ws_at (kd_lt hb (by decide)), cell_long hb]) rfl rfl hd (h hG v μ' ht H locs ls hP hS hl)
theorem T_aaldH {q : mMI} {X : mCx} {tgt : mR} {pc : Nat} {lv : List (Nat × Value)} {st : List Value} {μ : mMem} {b n : Nat} {i : Int32} {dc : Decidable (vp_in i n)} (hb : kd b = (13, n)) (hd : decode q.2.1 pc = .ok (.aaload, 1)) (h : T q X tgt (pc + 1) lv (.ref (rf b i.toNatClampNeg) :: st) μ) : T q X (gd (vp_in i n) tgt dc) pc lv (.int i :: .ref b :: st) μ := by
  unfold gd
  refine T_ite (fun hc => ?_) (fun _ => T_none)
  refine fun hG v μ' ht H locs ls hP hS hl => ?_
  have hlt : i.toNatClampNeg < n := Nat.not_le.mp fun z => hc (Or.inr z)
  have ha : (wsOf (xad X) (xcA X) μ)[b]? = some (xad X b, .inl (xcA X 13, n, .inr (.inr (.inr (.inr (fun j => some (xad X (rf b j)))))))) := by rw [ws_at (kd_lt hb (by decide)), cell_ref hb (by decide)]
  exact W.aald (v := .ref (xad X (rf b i.toNatClampNeg))) (ty := .object RX4) hG.1 hG.2.1 (hP b _ ha) ((hG.2.2.2.2.2.2.2.1.2 4 _ rfl).1 n (fun j => va_rf (some (xad X (rf b j))))) rfl (fun z => by cases z) (by show ¬ (i < 0 ∨ (arrV _ _ _).slots.size ≤ _); rw [arrV_size]; exact hc) (by show (arrV _ _ _).slots[_]? = _; rw [arrV_read _ _ hlt]; rfl) rfl rfl hd (h hG v μ' ht H locs ls hP hS hl)
theorem T_aaldS {q : mMI} {X : mCx} {tgt : mR} {pc : Nat} {lv : List (Nat × Value)} {st : List Value} {μ : mMem} {b n : Nat} {i : Int32} {dc : Decidable (vp_in i n)} (hb : kd b = (14, n)) (hd : decode q.2.1 pc = .ok (.aaload, 1)) (h : T q X tgt (pc + 1) lv (.ref (rf b i.toNatClampNeg) :: st) μ) : T q X (gd (vp_in i n) tgt dc) pc lv (.int i :: .ref b :: st) μ := by
  unfold gd
  refine T_ite (fun hc => ?_) (fun _ => T_none)
  refine fun hG v μ' ht H locs ls hP hS hl => ?_
  have hlt : i.toNatClampNeg < n := Nat.not_le.mp fun z => hc (Or.inr z)
  have ha : (wsOf (xad X) (xcA X) μ)[b]? = some (xad X b, .inl (xcA X 14, n, .inr (.inr (.inr (.inr (fun j => some (xad X (rf b j)))))))) := by rw [ws_at (kd_lt hb (by decide)), cell_ref hb (by decide)]
  exact W.aald (v := .ref (xad X (rf b i.toNatClampNeg))) (ty := .object RX5) hG.1 hG.2.1 (hP b _ ha) ((hG.2.2.2.2.2.2.2.1.2 5 _ rfl).1 n (fun j => va_rf (some (xad X (rf b j))))) rfl (fun z => by cases z) (by show ¬ (i < 0 ∨ (arrV _ _ _).slots.size ≤ _); rw [arrV_size]; exact hc) (by show (arrV _ _ _).slots[_]? = _; rw [arrV_read _ _ hlt]; rfl) rfl rfl hd (h hG v μ' ht H locs ls hP hS hl)
theorem T_aaldI {q : mMI} {X : mCx} {tgt : mR} {pc : Nat} {lv : List (Nat × Value)} {st : List Value} {μ : mMem} {b n : Nat} {i : Int32} {dc : Decidable (vp_in i n)} (hb : kd b = (15, n)) (hd : decode q.2.1 pc = .ok (.aaload, 1)) (h : T q X tgt (pc + 1) lv (.ref (rf b i.toNatClampNeg) :: st) μ) : T q X (gd (vp_in i n) tgt dc) pc lv (.int i :: .ref b :: st) μ := by
  unfold gd
  refine T_ite (fun hc => ?_) (fun _ => T_none)
  refine fun hG v μ' ht H locs ls hP hS hl => ?_
  have hlt : i.toNatClampNeg < n := Nat.not_le.mp fun z => hc (Or.inr z)
  have ha : (wsOf (xad X) (xcA X) μ)[b]? = some (xad X b, .inl (xcA X 15, n, .inr (.inr (.inr (.inr (fun j => some (xad X (rf b j)))))))) := by rw [ws_at (kd_lt hb (by decide)), cell_ref hb (by decide)]
  exact W.aald (v := .ref (xad X (rf b i.toNatClampNeg))) (ty := .array .int) hG.1 hG.2.1 (hP b _ ha) ((hG.2.2.2.2.2.2.2.1.2 6 _ rfl).1 n (fun j => va_rf (some (xad X (rf b j))))) rfl (fun z => by cases z) (by show ¬ (i < 0 ∨ (arrV _ _ _).slots.size ≤ _); rw [arrV_size]; exact hc) (by show (arrV _ _ _).slots[_]? = _; rw [arrV_read _ _ hlt]; rfl) rfl rfl hd (h hG v μ' ht H locs ls hP hS hl)
theorem T_bast {q : mMI} {X : mCx} {tgt : mR} {pc : Nat} {lv : List (Nat × Value)} {st : List Value} {μ : mMem} {b n : Nat} {i x : Int32} {dc : Decidable (vp_in i n)} (z : Int32) (hz : vp_nar .byte x = z) (hb : kd b = (9, n)) (hd : decode q.2.1 pc = .ok (.bastore, 1)) (h : T q X tgt (pc + 1) lv st (si μ b i.toNatClampNeg z)) : T q X (gd (vp_in i n) tgt dc) pc lv (.int x :: .int i :: .ref b :: st) μ := by
  subst hz
  unfold gd
  refine T_ite (fun hc => ?_) (fun _ => T_none)
  refine fun hG v μ' ht H locs ls hP hS hl => ?_
  have hb0 := kd_lt hb (by decide)
  refine va_bast (f := μ.1 b) hG.1 hG.2.1 hG.2.2.2.2.2.2.2.1 hP (ws_D hG.2.2.2.2.2.2.2.2.1 hG.2.2.2.2.2.2.2.2.2.1) hS b 0 (by rw [ws_at hb0, cell_int hb (by decide)]) rfl hc hd (fun H1 locs1 hP1 _ hS1 => ?_)
  refine h hG v μ' ht H1 locs1 ls ?_ hS1 hl
  rw [ws_set (μ' := si μ b i.toNatClampNeg (vp_nar .byte x)) hb0 (by rw [cell_int hb (by decide), si_b]) (si_o μ b _ _)] at hP1
  exact hP1
theorem T_iast {q : mMI} {X : mCx} {tgt : mR} {pc : Nat} {lv : List (Nat × Value)} {st : List Value} {μ : mMem} {b n : Nat} {i x : Int32} {dc : Decidable (vp_in i n)} (z : Int32) (hz : x = z) (hb : kd b = (10, n)) (hd : decode q.2.1 pc = .ok (.iastore, 1)) (h : T q X tgt (pc + 1) lv st (si μ b i.toNatClampNeg z)) : T q X (gd (vp_in i n) tgt dc) pc lv (.int x :: .int i :: .ref b :: st) μ := by
  subst hz
  unfold gd
  refine T_ite (fun hc => ?_) (fun _ => T_none)
  refine fun hG v μ' ht H locs ls hP hS hl => ?_
  have hb0 := kd_lt hb (by decide)
  refine va_iast (f := μ.1 b) hG.1 hG.2.1 hG.2.2.2.2.2.2.2.1 hP (ws_D hG.2.2.2.2.2.2.2.2.1 hG.2.2.2.2.2.2.2.2.2.1) hS b 1 (by rw [ws_at hb0, cell_int hb (by decide)]) rfl hc hd (fun H1 locs1 hP1 _ hS1 => ?_)
  refine h hG v μ' ht H1 locs1 ls ?_ hS1 hl
  rw [ws_set (μ' := si μ b i.toNatClampNeg (x)) hb0 (by rw [cell_int hb (by decide), si_b]) (si_o μ b _ _)] at hP1
  exact hP1
theorem T_zast {q : mMI} {X : mCx} {tgt : mR} {pc : Nat} {lv : List (Nat × Value)} {st : List Value} {μ : mMem} {b n : Nat} {i x : Int32} {dc : Decidable (vp_in i n)} (z : Int32) (hz : vp_nar .boolean x = z) (hb : kd b = (12, n)) (hd : decode q.2.1 pc = .ok (.bastore, 1)) (h : T q X tgt (pc + 1) lv st (si μ b i.toNatClampNeg z)) : T q X (gd (vp_in i n) tgt dc) pc lv (.int x :: .int i :: .ref b :: st) μ := by
  subst hz
  unfold gd
  refine T_ite (fun hc => ?_) (fun _ => T_none)
  refine fun hG v μ' ht H locs ls hP hS hl => ?_
  have hb0 := kd_lt hb (by decide)
  refine va_zast (f := μ.1 b) hG.1 hG.2.1 hG.2.2.2.2.2.2.2.1 hP (ws_D hG.2.2.2.2.2.2.2.2.1 hG.2.2.2.2.2.2.2.2.2.1) hS b 3 (by rw [ws_at hb0, cell_int hb (by decide)]) rfl hc hd (fun H1 locs1 hP1 _ hS1 => ?_)
  refine h hG v μ' ht H1 locs1 ls ?_ hS1 hl
  rw [ws_set (μ' := si μ b i.toNatClampNeg (vp_nar .boolean x)) hb0 (by rw [cell_int hb (by decide), si_b]) (si_o μ b _ _)] at hP1
  exact hP1
theorem T_last {q : mMI} {X : mCx} {tgt : mR} {pc : Nat} {lv : List (Nat × Value)} {st : List Value} {μ : mMem} {b n : Nat} {i : Int32} {x : Int64} {dc : Decidable (vp_in i n)} (hb : kd b = (11, n)) (hd : decode q.2.1 pc = .ok (.lastore, 1)) (h : T q X tgt (pc + 1) lv st (sl μ b i.toNatClampNeg x)) : T q X (gd (vp_in i n) tgt dc) pc lv (.long x :: .int i :: .ref b :: st) μ := by
  unfold gd
  refine T_ite (fun hc => ?_) (fun _ => T_none)
  refine fun hG v μ' ht H locs ls hP hS hl => ?_
  have hb0 := kd_lt hb (by decide)
  refine va_last (f := μ.2 b) hG.1 hG.2.1 hG.2.2.2.2.2.2.2.1 hP (ws_D hG.2.2.2.2.2.2.2.2.1 hG.2.2.2.2.2.2.2.2.2.1) hS b 2 (by rw [ws_at hb0, cell_long hb]) rfl hc hd (fun H1 locs1 hP1 _ hS1 => ?_)
  refine h hG v μ' ht H1 locs1 ls ?_ hS1 hl
  rw [ws_set (μ' := sl μ b i.toNatClampNeg x) hb0 (by rw [cell_long hb, sl_b]) (sl_o μ b _ _)] at hP1
  exact hP1
theorem Qb_ret {X : mCx} {v : Option Value} {μ : mMem} {H : Heap} {locs : List Loc} {a : Array Value} (hP : va_P (xD X) vwCl (wsOf (xad X) (xcA X) μ) H) (hS : va_S (xA X) (xs X).heap H locs) : ∀ t : State, t.heap = H → (xs X).WarmedH t.vm → Qb (xad X) (xcA X) (xD X) (xA X) v μ a (xs X) (.returned (v.map (cz (xad X)))) t := fun t ht _ => ⟨rfl, by rw [ht]; exact hP, hS.F ht⟩
theorem T_iret {q : mMI} {X : mCx} {pc : Nat} {lv : List (Nat × Value)} {μ : mMem} {x : Int32} (hr : q.2.2.2.1 = some .int) (hd : decode q.2.1 pc = .ok (.ireturn, 1)) : T q X (some (some (.int x), μ)) pc lv [.int x] μ := fun hG v μ' ht H locs ls hP hS hl => by
  obtain ⟨rfl, rfl⟩ : some (.int x) = v ∧ μ = μ' := by simpa using ht
  exact W.iret (v := x) hG.1 hG.2.1 (hG.2.2.2.1.trans hr) (Qb_ret (v := some (.int x)) hP hS) hS.2.2 hd (hlocks := hG.2.2.2.2.1)
theorem T_zret {q : mMI} {X : mCx} {pc : Nat} {lv : List (Nat × Value)} {μ : mMem} {x : Int32} {dc : Decidable (narrow .boolean (.int x) = .int x)} (hr : q.2.2.2.1 = some .boolean) (hd : decode q.2.1 pc = .ok (.ireturn, 1)) : T q X (gd (narrow .boolean (.int x) = .int x) (some (some (.int x), μ)) dc) pc lv [.int x] μ := by
  unfold gd
  refine T_ite (fun hc => ?_) (fun _ => T_none)
  refine fun hG v μ' ht H locs ls hP hS hl => ?_
  obtain ⟨rfl, rfl⟩ : some (.int x) = v ∧ μ = μ' := by simpa using ht
  exact W.zret (v := x) hG.1 hG.2.1 (hG.2.2.2.1.trans hr) hc (Qb_ret (v := some (.int x)) hP hS) hS.2.2 hd (hlocks := hG.2.2.2.2.1)
theorem T_zretc {q : mMI} {X : mCx} {pc : Nat} {lv : List (Nat × Value)} {μ : mMem} {x : Int32} (hc : narrow .boolean (.int x) = .int x) (hr : q.2.2.2.1 = some .boolean) (hd : decode q.2.1 pc = .ok (.ireturn, 1)) : T q X (some (some (.int x), μ)) pc lv [.int x] μ := fun hG v μ' ht H locs ls hP hS hl => by
  obtain ⟨rfl, rfl⟩ : some (.int x) = v ∧ μ = μ' := by simpa using ht
  exact W.zret (v := x) hG.1 hG.2.1 (hG.2.2.2.1.trans hr) hc (Qb_ret (v := some (.int x)) hP hS) hS.2.2 hd (hlocks := hG.2.2.2.2.1)
theorem T_lret {q : mMI} {X : mCx} {pc : Nat} {lv : List (Nat × Value)} {μ : mMem} {x : Int64} (hr : q.2.2.2.1 = some .long) (hd : decode q.2.1 pc = .ok (.lreturn, 1)) : T q X (some (some (.long x), μ)) pc lv [.long x] μ := fun hG v μ' ht H locs ls hP hS hl => by
  obtain ⟨rfl, rfl⟩ : some (.long x) = v ∧ μ = μ' := by simpa using ht
  exact W.lret (v := x) hG.1 hG.2.1 (hG.2.2.2.1.trans hr) (Qb_ret (v := some (.long x)) hP hS) hS.2.2 hd (hlocks := hG.2.2.2.2.1)
theorem T_vret {q : mMI} {X : mCx} {pc : Nat} {lv : List (Nat × Value)} {μ : mMem} (hr : q.2.2.2.1 = none) (hd : decode q.2.1 pc = .ok (.return_, 1)) : T q X (some (none, μ)) pc lv [] μ := fun hG v μ' ht H locs ls hP hS hl => by
  obtain ⟨rfl, rfl⟩ : none = v ∧ μ = μ' := by simpa using ht
  exact W.vret hG.1 hG.2.1 (hG.2.2.2.1.trans hr) (Qb_ret (v := none) hP hS) hS.2.2 hd (hlocks := hG.2.2.2.2.1)
theorem T_aret {q : mMI} {X : mCx} {pc : Nat} {lv : List (Nat × Value)} {μ : mMem} {b : Nat} {C : String} (hr : q.2.2.2.1 = some (.object C)) (hd : decode q.2.1 pc = .ok (.areturn, 1)) : T q X (some (some (.ref b), μ)) pc lv [.ref b] μ := fun hG v μ' ht H locs ls hP hS hl => by
  obtain ⟨rfl, rfl⟩ : some (.ref b) = v ∧ μ = μ' := by simpa using ht
  exact W.aret (v := .ref (xad X b)) hG.1 hG.2.1 (hG.2.2.2.1.trans hr) (Or.inl ⟨_, rfl⟩) (Or.inr ⟨_, rfl⟩) (Qb_ret (v := some (.ref b)) hP hS) hS.2.2 hd (hlocks := hG.2.2.2.2.1)
end
section
theorem callb {p : Program} {l : Launch} {e : Env} {R : Room} {s : State} {m : MethodId} {args : Array Value} {below : List Frame} {meth : Method} {c : Code} {H : Heap} {locs : List Loc} {Q : State → Prop} {pc : Nat} {ls : Array Slot} {st0 rest : List Value} {ad : Nat → Nat} {cA : Nat → ClassId} {D : va_G} {A0 A1 : Nat → Prop} {free : Addr → Prop} {H0 : Heap} {v0 : Option Value} {μ2 : mMem} {aa : Array Value}
    (hr : va_Run p l e R s m args below meth c H locs 0 0 0 0 (F0 m pc ls st0) rest (Qb ad cA D A1 v0 μ2 aa) free) (hS : va_S A0 H0 H locs) (hA : ∀ q, q < H.size → A1 q → A0 q) (hf : ∀ q, free q → A0 q)
    (kk : ∀ (H1 : Heap) (locs1 : List Loc), va_P D vwCl (wsOf ad cA μ2) H1 → va_S A0 H0 H1 locs1 → W p l e R s m args below meth c H1 locs1 0 0 Q (F0 m (pc + 3) ls ((v0.map (cz ad)).toList ++ rest))) : W p l e R s m args below meth c H locs 0 0 Q (F0 m pc ls st0) := by
  intro T hT X
  obtain ⟨v, st₀, t, T', L, h0, X', hL, e1, e2, ⟨hv, hPt, hz, hk⟩, st⟩ := hr T hT X
  have hv' : v = v0.map (cz ad) := by injection hv
  subst hv'
  rw [h0] at hz hk
  obtain ⟨t2, a1, b1⟩ := kk T'.heap (locs ++ L) (by rw [e1]; exact hPt)
    ⟨Nat.le_trans hS.1 (by rw [e1]; exact hz), fun q h1 h2 => by rw [e1, hk q (Nat.lt_of_lt_of_le h1 hS.1) (fun z => h2 (hA q (Nat.lt_of_lt_of_le h1 hS.1) z))]; exact hS.2.1 q h1 h2, fun q hq => by
      rcases List.mem_append.mp hq with h | h
      · exact hS.2.2 q h
      · exact hf _ (hL q h)⟩ T' rfl X'
  exact ⟨t2, st t2 a1, b1⟩
/-- what the tables say of a method that may be called -/
def mok (q : mMI) (n : Nat) : Prop := ((q.1.cls ≠ "java/lang/invoke/MethodHandle" ∧ q.1.cls ≠ "java/lang/invoke/VarHandle" ∧ (parseMethodDescriptor q.1.desc).map (fun d => d.parameters.length) = some n) ∧ q.2.2.1 ≤ 60) ∧ Cond.initialized q.1.cls ∈ gdL ∧ Cond.code q.1 q.2.1 q.2.2.1 q.2.2.2.1 ∈ gdL
def mokV (q : mMI) (n : Nat) : Prop := mok q n ∧ Cond.instanceMethod q.1 ∈ gdL ∧ Cond.selects q.1.cls q.1 q.1 ∈ gdL
def mokS (q : mMI) (n : Nat) : Prop := mok q n ∧ Cond.static q.1 ∈ gdL
theorem gdM {q : mMI} (h : Cond.code q.1 q.2.1 q.2.2.1 q.2.2.2.1 ∈ gdL) : GoodIn gdL (wsM q) := fun w hw => by
  rcases List.mem_cons.mp hw with rfl | hw
  · exact ⟨h, gd_good h⟩
  · exact ⟨hw, gd_good hw⟩
theorem callB_T {q q2 : mMI} {X : mCx} {n index : Nat} (hG : Good q X) (hm : mok q2 n) (hl : Cond.methodLink q.1.cls index q2.1 ∈ gdL) (hdp : q2.2.2.2.2 + 1 ≤ q.2.2.2.2) : CallB (rmOf q.2.2.2.2) (xs X) (xa X) q.1.cls index q2.1 q2.2.1 q2.2.2.1 q2.2.2.2.1 (wsM q2) (rmOf q2.2.2.2.2) 0 0 n :=
  callB_of n hG.2.2.2.2.2.2.1 (gdM hm.2.2) rfl rfl rfl (hG.2.2.2.2.2.2.1 _ hm.2.1) (hG.2.2.2.2.2.2.1 _ hl) hm.1.1 ⟨hdp, by
    have := hm.1.2
    show 8 + (q2.2.2.1 + 11) + 100 * q2.2.2.2.2 ≤ 100 * q.2.2.2.2
    omega⟩
theorem cz_sum (ad : Nat → Nat) (r : List Value) : ((r.map (cz ad)).map fun v => v.category).sum = (r.map fun v => v.category).sum := by
  induction r with
  | nil => rfl
  | cons a t ih => simp only [List.map_cons, List.sum_cons, ih, cz_cat]
theorem blind {av : List Value} {ad : Nat → Nat} {cA : Nat → ClassId} {D : va_G} {μ : mMem} {sz : Nat} : FrameBlind (va_Pc av (PreW ad cA D μ sz)) := fun a U g mk h => by
  obtain ⟨h0, h1, h2, h3, h4, h5⟩ := h
  exact ⟨h0, h1, h2, va_K.moved (u := U) (U := U.calling g mk a) (Vm.Alike.refl U.vm) h3, h4, ZS.same (s := U) rfl h5⟩
theorem AA_in {X : mCx} {q : mMI} {H : Heap} {locs : List Loc} (hG : Good q X) (hS : va_S (xA X) (xs X).heap H locs) : ∀ z, AA (xad X) H.size z → xA X z := fun z h => by
  rcases h with ⟨i, hi, rfl⟩ | h
  · exact hG.2.2.2.2.2.2.2.2.2.1 i hi
  · exact hG.2.2.2.2.2.2.2.2.2.2.1 z (Nat.le_trans hS.1 h)
theorem preH {X : mCx} {q : mMI} {μ : mMem} {H : Heap} {locs : List Loc} {U : State} (hG : Good q X) (hP : va_P (xD X) vwCl (wsOf (xad X) (xcA X) μ) H) (hS : va_S (xA X) (xs X).heap H locs) (hU : U.heap = H) (hW : (xs X).WarmedH U.vm) : PreW (xad X) (xcA X) (xD X) μ H.size U := by
  refine ⟨by rw [hU], by rw [hU]; exact hP, va_K.moved hW.alike hG.2.2.2.2.2.2.2.1, hG.2.2.2.2.2.2.2.2.1, ?_⟩
  rw [hU]
  exact ZS.warm hW ((hG.2.2.2.2.2.2.2.2.2.2.2.kept hS.2.1).narrow (AA_in hG hS))
theorem T_callV {q q2 : mMI} {X : mCx} {tgt : mR} {pc : Nat} {lv : List (Nat × Value)} {μ μ2 : mMem} {v2 : Option Value} {b c n index N : Nat} {TT : u_T} (As rest : List Value) (hm : mokV q2 n) (hlk : Cond.methodLink q.1.cls index q2.1 ∈ gdL) (hb : kd b = (c, 0)) (hc : vwCl[c]? = some (q2.1.cls, TT, N)) (hn : As.length = n) (hdp : q2.2.2.2.2 + 1 ≤ q.2.2.2.2) (hcat : (rest.map fun v => v.category).sum ≤ 8) (hd : decode q.2.1 pc = .ok (.invokevirtual index, 3)) (hB : BS (xl X) q2 (.ref b :: As) μ (some (v2, μ2))) (h : T q X tgt (pc + 3) lv (v2.toList ++ rest) μ2) : T q X tgt pc lv (As.reverse ++ .ref b :: rest) μ := fun hG v μ' ht H locs ls hP hS hl => by
  have hb0 := kd_lt hb (by have := vw_lt hc; omega)
  have hM := hB v2 μ2 rfl (xD X) (xad X) (xcA X) H.size
  have hrv := va_recv hG.2.2.2.2.2.2.2.1 hP hc (q0 := b) (a := xad X b) (fs := fsOf (xad X) c b (μ.1 b)) (by rw [ws_at hb0, cell_obj hb (vw_lt hc)])
  have hr := va_runV (As := As.map (cz (xad X))) (rest := rest.map (cz (xad X))) (g := F0 (xm X) pc ls ((As.reverse ++ .ref b :: rest).map (cz (xad X)))) (locs := locs) (cells := 0) (slots := 0) (below := xb X) (e := xe X) (meth := xM X) (H := H) ⟨hG.1, hG.2.1, hG.2.2.1, hG.2.2.2.2.2.1, hG.2.2.2.2.2.2.1⟩ hM ⟨callB_T hG hm.1 hlk hdp, hG.2.2.2.2.2.2.1 _ hm.2.1, hG.2.2.2.2.2.2.1 _ hm.2.2⟩ ⟨blind, hrv, fun U hU hW => ⟨rfl, preH hG hP hS hU hW⟩⟩ rfl (by rw [List.length_map]; exact hn) hl.1 (by simp [cz]) (lv_room (by rw [cz_sum]; exact hcat)) hd ⟨Nat.zero_le _, Nat.zero_le _⟩
  refine callb hr hS (fun z _ hz => AA_in hG hS z hz) (AA_in hG hS) (fun H1 locs1 hP1 hS1 => ?_)
  have := h hG v μ' ht H1 locs1 ls hP1 hS1 hl
  rw [List.map_append] at this
  cases v2 <;> exact this
theorem T_callS {q q2 : mMI} {X : mCx} {tgt : mR} {pc : Nat} {lv : List (Nat × Value)} {μ μ2 : mMem} {v2 : Option Value} {n index : Nat} (As rest : List Value) (hm : mokS q2 n) (hlk : Cond.methodLink q.1.cls index q2.1 ∈ gdL) (hn : As.length = n) (hdp : q2.2.2.2.2 + 1 ≤ q.2.2.2.2) (hcat : (rest.map fun v => v.category).sum ≤ 8) (hd : decode q.2.1 pc = .ok (.invokestatic index, 3)) (hB : BS (xl X) q2 As μ (some (v2, μ2))) (h : T q X tgt (pc + 3) lv (v2.toList ++ rest) μ2) : T q X tgt pc lv (As.reverse ++ rest) μ := fun hG v μ' ht H locs ls hP hS hl => by
  have hM := hB v2 μ2 rfl (xD X) (xad X) (xcA X) H.size
  have hr := va_runS (As := As.map (cz (xad X))) (rest := rest.map (cz (xad X))) (g := F0 (xm X) pc ls ((As.reverse ++ rest).map (cz (xad X)))) (locs := locs) (cells := 0) (slots := 0) (below := xb X) (e := xe X) (meth := xM X) (H := H) ⟨hG.1, hG.2.1, hG.2.2.1, hG.2.2.2.2.2.1, hG.2.2.2.2.2.2.1⟩ hM ⟨callB_T hG hm.1 hlk hdp, hG.2.2.2.2.2.2.1 _ hm.2⟩ ⟨blind, fun U hU hW => ⟨rfl, preH hG hP hS hU hW⟩⟩ rfl (by rw [List.length_map]; exact hn) hl.1 (by simp) (lv_room (by rw [cz_sum]; exact hcat)) hd ⟨Nat.zero_le _, Nat.zero_le _⟩
  refine callb hr hS (fun z _ hz => AA_in hG hS z hz) (AA_in hG hS) (fun H1 locs1 hP1 hS1 => ?_)
  have := h hG v μ' ht H1 locs1 ls hP1 hS1 hl
  rw [List.map_append] at this
  cases v2 <;> exact this
/-- go on with what a call answered -/
def bI (r : mR) (k : Int32 → mMem → mR) : mR := match r with
  | some (some (.int x), μ) => k x μ
  | _ => none
def bL (r : mR) (k : Int64 → mMem → mR) : mR := match r with
  | some (some (.long x), μ) => k x μ
  | _ => none
def bA (r : mR) (k : Nat → mMem → mR) : mR := match r with
  | some (some (.ref x), μ) => k x μ
  | _ => none
def bV (r : mR) (k : mMem → mR) : mR := match r with
  | some (none, μ) => k μ
  | _ => none
theorem bI_of {r : mR} {k : Int32 → mMem → mR} {z : Option Value × mMem} (h : bI r k = some z) : ∃ x μ, r = some (some (.int x), μ) ∧ k x μ = some z := by
  unfold bI at h
  split at h
  · exact ⟨_, _, rfl, h⟩
  · cases h
theorem bL_of {r : mR} {k : Int64 → mMem → mR} {z : Option Value × mMem} (h : bL r k = some z) : ∃ x μ, r = some (some (.long x), μ) ∧ k x μ = some z := by
  unfold bL at h
  split at h
  · exact ⟨_, _, rfl, h⟩
  · cases h
theorem bA_of {r : mR} {k : Nat → mMem → mR} {z : Option Value × mMem} (h : bA r k = some z) : ∃ x μ, r = some (some (.ref x), μ) ∧ k x μ = some z := by
  unfold bA at h
  split at h
  · exact ⟨_, _, rfl, h⟩
  · cases h
theorem bV_of {r : mR} {k : mMem → mR} {z : Option Value × mMem} (h : bV r k = some z) : ∃ μ, r = some (none, μ) ∧ k μ = some z := by
  unfold bV at h
  split at h
  · exact ⟨_, rfl, h⟩
  · cases h
theorem T_cVI {q q2 : mMI} {X : mCx} {r : mR} {k : Int32 → mMem → mR} {pc : Nat} {lv : List (Nat × Value)} {μ : mMem} {b c n index N : Nat} {TT : u_T} (As rest : List Value) (hm : mokV q2 n) (hlk : Cond.methodLink q.1.cls index q2.1 ∈ gdL) (hc : vwCl[c]? = some (q2.1.cls, TT, N)) (hn : As.length = n) (hdp : q2.2.2.2.2 + 1 ≤ q.2.2.2.2) (hcat : (rest.map fun v => v.category).sum ≤ 8) (hb : kd b = (c, 0)) (hd : decode q.2.1 pc = .ok (.invokevirtual index, 3)) (hB : BS (xl X) q2 (.ref b :: As) μ r) (h : ∀ (x : Int32) (μ2 : mMem), T q X (k x μ2) (pc + 3) lv (.int x :: rest) μ2) : T q X (bI r k) pc lv (As.reverse ++ .ref b :: rest) μ := fun hG v μ' ht H locs ls hP hS hl => by
  obtain ⟨x, μ2, rfl, hk⟩ := bI_of ht
  exact T_callV (v2 := some (.int x)) As rest hm hlk hb hc hn hdp hcat hd hB (h x μ2) hG v μ' hk H locs ls hP hS hl
theorem T_cSI {q q2 : mMI} {X : mCx} {r : mR} {k : Int32 → mMem → mR} {pc : Nat} {lv : List (Nat × Value)} {μ : mMem} {n index : Nat} (As rest : List Value) (hm : mokS q2 n) (hlk : Cond.methodLink q.1.cls index q2.1 ∈ gdL) (hn : As.length = n) (hdp : q2.2.2.2.2 + 1 ≤ q.2.2.2.2) (hcat : (rest.map fun v => v.category).sum ≤ 8) (hd : decode q.2.1 pc = .ok (.invokestatic index, 3)) (hB : BS (xl X) q2 As μ r) (h : ∀ (x : Int32) (μ2 : mMem), T q X (k x μ2) (pc + 3) lv (.int x :: rest) μ2) : T q X (bI r k) pc lv (As.reverse ++ rest) μ := fun hG v μ' ht H locs ls hP hS hl => by
  obtain ⟨x, μ2, rfl, hk⟩ := bI_of ht
  exact T_callS (v2 := some (.int x)) As rest hm hlk hn hdp hcat hd hB (h x μ2) hG v μ' hk H locs ls hP hS hl
theorem T_cVL {q q2 : mMI} {X : mCx} {r : mR} {k : Int64 → mMem → mR} {pc : Nat} {lv : List (Nat × Value)} {μ : mMem} {b c n index N : Nat} {TT : u_T} (As rest : List Value) (hm : mokV q2 n) (hlk : Cond.methodLink q.1.cls index q2.1 ∈ gdL) (hc : vwCl[c]? = some (q2.1.cls, TT, N)) (hn : As.length = n) (hdp : q2.2.2.2.2 + 1 ≤ q.2.2.2.2) (hcat : (rest.map fun v => v.category).sum ≤ 8) (hb : kd b = (c, 0)) (hd : decode q.2.1 pc = .ok (.invokevirtual index, 3)) (hB : BS (xl X) q2 (.ref b :: As) μ r) (h : ∀ (x : Int64) (μ2 : mMem), T q X (k x μ2) (pc + 3) lv (.long x :: rest) μ2) : T q X (bL r k) pc lv (As.reverse ++ .ref b :: rest) μ := fun hG v μ' ht H locs ls hP hS hl => by
  obtain ⟨x, μ2, rfl, hk⟩ := bL_of ht
  exact T_callV (v2 := some (.long x)) As rest hm hlk hb hc hn hdp hcat hd hB (h x μ2) hG v μ' hk H locs ls hP hS hl
theorem T_cSL {q q2 : mMI} {X : mCx} {r : mR} {k : Int64 → mMem → mR} {pc : Nat} {lv : List (Nat × Value)} {μ : mMem} {n index : Nat} (As rest : List Value) (hm : mokS q2 n) (hlk : Cond.methodLink q.1.cls index q2.1 ∈ gdL) (hn : As.length = n) (hdp : q2.2.2.2.2 + 1 ≤ q.2.2.2.2) (hcat : (rest.map fun v => v.category).sum ≤ 8) (hd : decode q.2.1 pc = .ok (.invokestatic index, 3)) (hB : BS (xl X) q2 As μ r) (h : ∀ (x : Int64) (μ2 : mMem), T q X (k x μ2) (pc + 3) lv (.long x :: rest) μ2) : T q X (bL r k) pc lv (As.reverse ++ rest) μ := fun hG v μ' ht H locs ls hP hS hl => by
  obtain ⟨x, μ2, rfl, hk⟩ := bL_of ht
  exact T_callS (v2 := some (.long x)) As rest hm hlk hn hdp hcat hd hB (h x μ2) hG v μ' hk H locs ls hP hS hl
theorem T_cVA {q q2 : mMI} {X : mCx} {r : mR} {k : Nat → mMem → mR} {pc : Nat} {lv : List (Nat × Value)} {μ : mMem} {b c n index N : Nat} {TT : u_T} (As rest : List Value) (hm : mokV q2 n) (hlk : Cond.methodLink q.1.cls index q2.1 ∈ gdL) (hc : vwCl[c]? = some (q2.1.cls, TT, N)) (hn : As.length = n) (hdp : q2.2.2.2.2 + 1 ≤ q.2.2.2.2) (hcat : (rest.map fun v => v.category).sum ≤ 8) (hb : kd b = (c, 0)) (hd : decode q.2.1 pc = .ok (.invokevirtual index, 3)) (hB : BS (xl X) q2 (.ref b :: As) μ r) (h : ∀ (x : Nat) (μ2 : mMem), T q X (k x μ2) (pc + 3) lv (.ref x :: rest) μ2) : T q X (bA r k) pc lv (As.reverse ++ .ref b :: rest) μ := fun hG v μ' ht H locs ls hP hS hl => by
  obtain ⟨x, μ2, rfl, hk⟩ := bA_of ht
  exact T_callV (v2 := some (.ref x)) As rest hm hlk hb hc hn hdp hcat hd hB (h x μ2) hG v μ' hk H locs ls hP hS hl
theorem T_cSA {q q2 : mMI} {X : mCx} {r : mR} {k : Nat → mMem → mR} {pc : Nat} {lv : List (Nat × Value)} {μ : mMem} {n index : Nat} (As rest : List Value) (hm : mokS q2 n) (hlk : Cond.methodLink q.1.cls index q2.1 ∈ gdL) (hn : As.length = n) (hdp : q2.2.2.2.2 + 1 ≤ q.2.2.2.2) (hcat : (rest.map fun v => v.category).sum ≤ 8) (hd : decode q.2.1 pc = .ok (.invokestatic index, 3)) (hB : BS (xl X) q2 As μ r) (h : ∀ (x : Nat) (μ2 : mMem), T q X (k x μ2) (pc + 3) lv (.ref x :: rest) μ2) : T q X (bA r k) pc lv (As.reverse ++ rest) μ := fun hG v μ' ht H locs ls hP hS hl => by
  obtain ⟨x, μ2, rfl, hk⟩ := bA_of ht
  exact T_callS (v2 := some (.ref x)) As rest hm hlk hn hdp hcat hd hB (h x μ2) hG v μ' hk H locs ls hP hS hl
theorem T_cVV {q q2 : mMI} {X : mCx} {r : mR} {k : mMem → mR} {pc : Nat} {lv : List (Nat × Value)} {μ : mMem} {b c n index N : Nat} {TT : u_T} (As rest : List Value) (hm : mokV q2 n) (hlk : Cond.methodLink q.1.cls index q2.1 ∈ gdL) (hc : vwCl[c]? = some (q2.1.cls, TT, N)) (hn : As.length = n) (hdp : q2.2.2.2.2 + 1 ≤ q.2.2.2.2) (hcat : (rest.map fun v => v.category).sum ≤ 8) (hb : kd b = (c, 0)) (hd : decode q.2.1 pc = .ok (.invokevirtual index, 3)) (hB : BS (xl X) q2 (.ref b :: As) μ r) (h : ∀ (μ2 : mMem), T q X (k μ2) (pc + 3) lv rest μ2) : T q X (bV r k) pc lv (As.reverse ++ .ref b :: rest) μ := fun hG v μ' ht H locs ls hP hS hl => by
  obtain ⟨μ2, rfl, hk⟩ := bV_of ht
  exact T_callV (v2 := none) As rest hm hlk hb hc hn hdp hcat hd hB (h μ2) hG v μ' hk H locs ls hP hS hl
theorem T_cSV {q q2 : mMI} {X : mCx} {r : mR} {k : mMem → mR} {pc : Nat} {lv : List (Nat × Value)} {μ : mMem} {n index : Nat} (As rest : List Value) (hm : mokS q2 n) (hlk : Cond.methodLink q.1.cls index q2.1 ∈ gdL) (hn : As.length = n) (hdp : q2.2.2.2.2 + 1 ≤ q.2.2.2.2) (hcat : (rest.map fun v => v.category).sum ≤ 8) (hd : decode q.2.1 pc = .ok (.invokestatic index, 3)) (hB : BS (xl X) q2 As μ r) (h : ∀ (μ2 : mMem), T q X (k μ2) (pc + 3) lv rest μ2) : T q X (bV r k) pc lv (As.reverse ++ rest) μ := fun hG v μ' ht H locs ls hP hS hl => by
  obtain ⟨μ2, rfl, hk⟩ := bV_of ht
  exact T_callS (v2 := none) As rest hm hlk hn hdp hcat hd hB (h μ2) hG v μ' hk H locs ls hP hS hl
theorem BS_of {l : Launch} {q : mMI} {av : List Value} {μ : mMem} {tgt : mR} (hpl : plainName q.1.cls = true) (hln : (lg_sl av).length ≤ q.2.2.1) (h : ∀ X : mCx, xl X = l → T q X tgt 0 (lv_args 0 av) [] μ) : BS l q av μ tgt := by
  intro v μ' ht D ad cA sz
  refine Met.ofW (cc := q.2.1) (maxL := q.2.2.1) (ret := q.2.2.2.1) hpl rfl ?_
  intro p e s m args below meth c s₁ B hml hv
  obtain ⟨rfl, hsz, hP, hK, hj, hZ⟩ := hv
  subst hsz
  have hl := lv_entry (av.map (cz ad)) (n := q.2.2.1) (by rw [ls_am]; exact hln)
  rw [lv_am] at hl
  rw [lg_entry_eq]
  exact h (p, l, e, s, m, (av.map (cz ad)).toArray, below, meth, c, ad, cA, D, AA ad s.heap.size) rfl ⟨B.exec, B.bytes, hml, B.returns, B.notSynchronized, findClass_of_methodNamed B.named, fun w hw => atoms_spec (ws := wsM q) B.pre w (List.mem_cons_of_mem _ hw), hK, hj, fun i hi => Or.inl ⟨i, hi, rfl⟩, fun z hz => Or.inr hz, hZ⟩ v μ' ht s.heap [] _ hP va_S.rf hl
theorem lk_cpy : Cond.native arraycopyName ∈ gdL ∧ Cond.static arraycopyName ∈ gdL ∧ Cond.initialized "java/lang/System" ∈ gdL := by decide +kernel
theorem T_cpyI {q : mMI} {X : mCx} {tgt : mR} {pc : Nat} {lv : List (Nat × Value)} {st : List Value} {μ : mMem} {a b n0 n1 index N : Nat} {n : Int32} (hN : n.toNatClampNeg = N) (h3 : ¬ n < 0) (h4 : N ≤ n0) (h5 : N ≤ n1) (hlk : Cond.methodLink q.1.cls index arraycopyName ∈ gdL) (hdp : 1 ≤ q.2.2.2.2) (hcat : (st.map fun v => v.category).sum ≤ 8) (ha : kd a = (10, n0)) (hb : kd b = (10, n1)) (hd : decode q.2.1 pc = .ok (.invokestatic index, 3)) (h : T q X tgt (pc + 3) lv st (ci μ a b 0 0 N)) : T q X tgt pc lv (.int n :: .int 0 :: .ref b :: .int 0 :: .ref a :: st) μ := fun hG v μ' ht H locs ls hP hS hl => by
  subst hN
  have ha0 := kd_lt ha (by decide)
  have hb0 := kd_lt hb (by decide)
  have hts := hG.2.2.2.2.2.2.1
  refine va_copyi (f := μ.1 a) (g := μ.1 b) (ty := .int) hG.1 hG.2.1 (hG.2.2.1.trans hl.1.symm) hG.2.2.2.2.2.1 (hts _ hlk) (hts _ lk_cpy.1) (hts _ lk_cpy.2.1) (hts _ lk_cpy.2.2) hG.2.2.2.2.2.2.2.1 hP (ws_D hG.2.2.2.2.2.2.2.2.1 hG.2.2.2.2.2.2.2.2.2.1) hS a b 1 1 (by rw [ws_at ha0, cell_int ha (by decide)]) (by rw [ws_at hb0, cell_int hb (by decide)]) rfl rfl rfl (by decide) (by decide) h3 (by simpa using h4) (by simpa using h5) (fun i _ => rfl) hdp ?_ hd (fun H1 locs1 hP1 _ hS1 => ?_)
  · rw [cz_sum]
    have e : nativeFrameWords "java/lang/System" "arraycopy" 5 + 11 ≤ 60 := by decide +kernel
    show _ ≤ 100 * q.2.2.2.2
    omega
  · refine h hG v μ' ht H1 locs1 ls ?_ hS1 hl
    rw [← ws_set (ad := xad X) (cA := xcA X) (μ := μ) (μ' := ci μ a b 0 0 n.toNatClampNeg) (E := .inl (xcA X 10, n1, .inl (va_cpy (μ.1 a) (μ.1 b) 0 0 n.toNatClampNeg))) hb0 (by rw [cell_int hb (by decide)]; simp [ci]) (fun j hj => ⟨by simp [ci, hj], rfl⟩)]
    exact hP1
theorem T_cpyL {q : mMI} {X : mCx} {tgt : mR} {pc : Nat} {lv : List (Nat × Value)} {st : List Value} {μ : mMem} {a b n0 n1 index N : Nat} {n : Int32} (hN : n.toNatClampNeg = N) (h3 : ¬ n < 0) (h4 : N ≤ n0) (h5 : N ≤ n1) (hlk : Cond.methodLink q.1.cls index arraycopyName ∈ gdL) (hdp : 1 ≤ q.2.2.2.2) (hcat : (st.map fun v => v.category).sum ≤ 8) (ha : kd a = (11, n0)) (hb : kd b = (11, n1)) (hd : decode q.2.1 pc = .ok (.invokestatic index, 3)) (h : T q X tgt (pc + 3) lv st (cl μ a b 0 0 N)) : T q X tgt pc lv (.int n :: .int 0 :: .ref b :: .int 0 :: .ref a :: st) μ := fun hG v μ' ht H locs ls hP hS hl => by
  subst hN
  have ha0 := kd_lt ha (by decide)
  have hb0 := kd_lt hb (by decide)
  have hts := hG.2.2.2.2.2.2.1
  refine va_copyl (f := μ.2 a) (g := μ.2 b) (ty := .long) hG.1 hG.2.1 (hG.2.2.1.trans hl.1.symm) hG.2.2.2.2.2.1 (hts _ hlk) (hts _ lk_cpy.1) (hts _ lk_cpy.2.1) (hts _ lk_cpy.2.2) hG.2.2.2.2.2.2.2.1 hP (ws_D hG.2.2.2.2.2.2.2.2.1 hG.2.2.2.2.2.2.2.2.2.1) hS a b 2 2 (by rw [ws_at ha0, cell_long ha]) (by rw [ws_at hb0, cell_long hb]) rfl rfl rfl (by decide) (by decide) h3 (by simpa using h4) (by simpa using h5) (fun i _ => rfl) hdp ?_ hd (fun H1 locs1 hP1 _ hS1 => ?_)
  · rw [cz_sum]
    have e : nativeFrameWords "java/lang/System" "arraycopy" 5 + 11 ≤ 60 := by decide +kernel
    show _ ≤ 100 * q.2.2.2.2
    omega
  · refine h hG v μ' ht H1 locs1 ls ?_ hS1 hl
    rw [← ws_set (ad := xad X) (cA := xcA X) (μ := μ) (μ' := cl μ a b 0 0 n.toNatClampNeg) (E := .inl (xcA X 11, n1, .inr (.inl (va_cpy (μ.2 a) (μ.2 b) 0 0 n.toNatClampNeg)))) hb0 (by rw [cell_long hb]; simp [cl]) (fun j hj => ⟨rfl, by simp [cl, hj]⟩)]
    exact hP1
theorem T_tsIn {q : mMI} {X : mCx} {tgt : mR} {pc : Nat} {lv : List (Nat × Value)} {st : List Value} {μ : mMem} {x : Int32} {dflt lo hi : Int} {offs : Array Int} {len : Nat} {off : Int} (z : Int32) (t : Nat) (hx : x = z) (hd : decode q.2.1 pc = .ok (.tableswitch dflt lo hi offs, len)) (h1 : ¬ z.toInt < lo) (h2 : ¬ hi < z.toInt) (ho : offs[(z.toInt - lo).toNat]? = some off) (htg : (pc : Int) + off = (t : Int)) (h : T q X tgt t lv st μ) : T q X tgt pc lv (.int x :: st) μ := by
  subst hx
  exact fun hG v μ' ht H locs ls hP hS hl => lv_tableIn hG.1 hG.2.1 hd h1 h2 ho htg (h hG v μ' ht H locs ls hP hS hl)
theorem T_tsOut {q : mMI} {X : mCx} {tgt : mR} {pc : Nat} {lv : List (Nat × Value)} {st : List Value} {μ : mMem} {x : Int32} {dflt lo hi : Int} {offs : Array Int} {len : Nat} (t : Nat) (hx : x.toInt < lo ∨ hi < x.toInt) (hd : decode q.2.1 pc = .ok (.tableswitch dflt lo hi offs, len)) (htg : (pc : Int) + dflt = (t : Int)) (h : T q X tgt t lv st μ) : T q X tgt pc lv (.int x :: st) μ :=
  fun hG v μ' ht H locs ls hP hS hl => lv_tableOut hG.1 hG.2.1 hd hx htg (h hG v μ' ht H locs ls hP hS hl)
theorem T_lsw {q : mMI} {X : mCx} {tgt : mR} {pc : Nat} {lv : List (Nat × Value)} {st : List Value} {μ : mMem} {x : Int32} {dflt : Int} {ps : Array (Int × Int)} {len : Nat} {off : Int} (t : Nat) (hd : decode q.2.1 pc = .ok (.lookupswitch dflt ps, len)) (hp : (ps.toList.zip (ps.toList.drop 1)).all (fun (a, next) => a.1 < next.1) = true) (ho : Op.lookupswitch.offset ps.toList dflt x.toInt = off) (htg : (pc : Int) + off = (t : Int)) (h : T q X tgt t lv st μ) : T q X tgt pc lv (.int x :: st) μ :=
  fun hG v μ' ht H locs ls hP hS hl => lv_lookup hG.1 hG.2.1 hd hp ho htg (h hG v μ' ht H locs ls hP hS hl)
theorem T_dup2 {q : mMI} {X : mCx} {tgt : mR} {pc : Nat} {lv : List (Nat × Value)} {st : List Value} {μ : mMem} {x y : Value} (hx : x.category = 1) (hy : y.category = 1) (hd : decode q.2.1 pc = .ok (.dup2, 1)) (h : T q X tgt (pc + 1) lv (x :: y :: x :: y :: st) μ) : T q X tgt pc lv (x :: y :: st) μ :=
  fun hG v μ' ht H locs ls hP hS hl => lv_dup2_11 hG.1 hG.2.1 hd (by rw [cz_cat]; exact hx) (by rw [cz_cat]; exact hy) (h hG v μ' ht H locs ls hP hS hl)
theorem tsO {x : Int32} (n : Nat) (hn : n < 2 ^ 31) (h : ∀ k, k < n → ¬ x = nI k) : x.toInt < 0 ∨ (n : Int) - 1 < x.toInt := by
  by_cases h0 : x.toInt < 0
  · exact Or.inl h0
  · refine Or.inr ?_
    rcases Int.lt_or_le ((n : Int) - 1) x.toInt with q | q
    · exact q
    · exfalso
      have hk : x.toInt.toNat < n := by omega
      refine h _ hk ?_
      apply Int32.toInt_inj.mp
      rw [nI_toInt (by omega)]
      omega
end
