section
-- ===== PART A: goes FIRST, ahead of the names: the tables' words, and 'selects' of the private methods out of them =====
/-- a private method of a class that the tables say can be made, by its rows of tables_1 -/
def lw_okq (q : MethodName × Nat) : Prop := (q.1.cls ≠ "java/lang/invoke/MethodHandle" ∧ q.1.cls ≠ "java/lang/invoke/VarHandle") ∧ Cond.instantiable q.1.cls q.2 ∈ tables_1 ∧ Cond.privateMethod q.1 ∈ tables_1 ∧ Cond.instanceMethod q.1 ∈ tables_1
theorem lw_p0 : lw_okq (⟨"RankStairs$Tape", "takeToken", "()V"⟩, 10) := ⟨⟨by decide +kernel, by decide +kernel⟩, List.mem_of_getElem? (i := 27) (by decide +kernel), List.mem_of_getElem? (i := 312) (by decide +kernel), List.mem_of_getElem? (i := 313) (by decide +kernel)⟩
theorem lw_p1 : lw_okq (⟨"RankStairs$Tape", "refuse", "(II)V"⟩, 10) := ⟨⟨by decide +kernel, by decide +kernel⟩, List.mem_of_getElem? (i := 27) (by decide +kernel), List.mem_of_getElem? (i := 319) (by decide +kernel), List.mem_of_getElem? (i := 320) (by decide +kernel)⟩
theorem lw_p2 : lw_okq (⟨"RankStairs$Tape", "takeLine", "(LRankStairs$House;)V"⟩, 10) := ⟨⟨by decide +kernel, by decide +kernel⟩, List.mem_of_getElem? (i := 27) (by decide +kernel), List.mem_of_getElem? (i := 323) (by decide +kernel), List.mem_of_getElem? (i := 324) (by decide +kernel)⟩
theorem lw_p3 : lw_okq (⟨"RankStairs$Tape", "lineOfName", "()I"⟩, 10) := ⟨⟨by decide +kernel, by decide +kernel⟩, List.mem_of_getElem? (i := 27) (by decide +kernel), List.mem_of_getElem? (i := 327) (by decide +kernel), List.mem_of_getElem? (i := 328) (by decide +kernel)⟩
theorem lw_p4 : lw_okq (⟨"RankStairs$Tape", "isTokenNamed", "(Ljava/lang/String;)Z"⟩, 10) := ⟨⟨by decide +kernel, by decide +kernel⟩, List.mem_of_getElem? (i := 27) (by decide +kernel), List.mem_of_getElem? (i := 341) (by decide +kernel), List.mem_of_getElem? (i := 342) (by decide +kernel)⟩
theorem lw_p5 : lw_okq (⟨"RankStairs$Tape", "refuseOneTooMany", "(LRankStairs$House;I)V"⟩, 10) := ⟨⟨by decide +kernel, by decide +kernel⟩, List.mem_of_getElem? (i := 27) (by decide +kernel), List.mem_of_getElem? (i := 393) (by decide +kernel), List.mem_of_getElem? (i := 394) (by decide +kernel)⟩
theorem lw_p6 : lw_okq (⟨"RankStairs$Tape", "takeNumber", "(II)V"⟩, 10) := ⟨⟨by decide +kernel, by decide +kernel⟩, List.mem_of_getElem? (i := 27) (by decide +kernel), List.mem_of_getElem? (i := 399) (by decide +kernel), List.mem_of_getElem? (i := 400) (by decide +kernel)⟩
theorem lw_p7 : lw_okq (⟨"RankStairs$Tape", "takeTokenIfSound", "()V"⟩, 10) := ⟨⟨by decide +kernel, by decide +kernel⟩, List.mem_of_getElem? (i := 27) (by decide +kernel), List.mem_of_getElem? (i := 407) (by decide +kernel), List.mem_of_getElem? (i := 408) (by decide +kernel)⟩
theorem lw_p8 : lw_okq (⟨"RankStairs$Tape", "tellLine", "(LRankStairs$House;I)V"⟩, 10) := ⟨⟨by decide +kernel, by decide +kernel⟩, List.mem_of_getElem? (i := 27) (by decide +kernel), List.mem_of_getElem? (i := 411) (by decide +kernel), List.mem_of_getElem? (i := 412) (by decide +kernel)⟩
theorem lw_p9 : lw_okq (⟨"RankStairs", "forgetImages", "()V"⟩, 11) := ⟨⟨by decide +kernel, by decide +kernel⟩, List.mem_of_getElem? (i := 19) (by decide +kernel), List.mem_of_getElem? (i := 433) (by decide +kernel), List.mem_of_getElem? (i := 434) (by decide +kernel)⟩
theorem lw_p10 : lw_okq (⟨"RankStairs", "isStep", "(I)Z"⟩, 11) := ⟨⟨by decide +kernel, by decide +kernel⟩, List.mem_of_getElem? (i := 19) (by decide +kernel), List.mem_of_getElem? (i := 449) (by decide +kernel), List.mem_of_getElem? (i := 450) (by decide +kernel)⟩
theorem lw_p11 : lw_okq (⟨"RankStairs", "isLodger", "(I)Z"⟩, 11) := ⟨⟨by decide +kernel, by decide +kernel⟩, List.mem_of_getElem? (i := 19) (by decide +kernel), List.mem_of_getElem? (i := 468) (by decide +kernel), List.mem_of_getElem? (i := 469) (by decide +kernel)⟩
theorem lw_p12 : lw_okq (⟨"RankStairs$House", "isNear", "(II)Z"⟩, 12) := ⟨⟨by decide +kernel, by decide +kernel⟩, List.mem_of_getElem? (i := 68) (by decide +kernel), List.mem_of_getElem? (i := 488) (by decide +kernel), List.mem_of_getElem? (i := 489) (by decide +kernel)⟩
theorem lw_p13 : lw_okq (⟨"RankStairs$Exchange", "takeFrom", "(IIIII)V"⟩, 6) := ⟨⟨by decide +kernel, by decide +kernel⟩, List.mem_of_getElem? (i := 156) (by decide +kernel), List.mem_of_getElem? (i := 685) (by decide +kernel), List.mem_of_getElem? (i := 686) (by decide +kernel)⟩
theorem lw_p14 : lw_okq (⟨"RankStairs$Chances", "passStep", "(II)V"⟩, 2) := ⟨⟨by decide +kernel, by decide +kernel⟩, List.mem_of_getElem? (i := 184) (by decide +kernel), List.mem_of_getElem? (i := 705) (by decide +kernel), List.mem_of_getElem? (i := 706) (by decide +kernel)⟩
theorem lw_p15 : lw_okq (⟨"RankStairs$Dust", "searchFrom", "(I)I"⟩, 7) := ⟨⟨by decide +kernel, by decide +kernel⟩, List.mem_of_getElem? (i := 198) (by decide +kernel), List.mem_of_getElem? (i := 743) (by decide +kernel), List.mem_of_getElem? (i := 744) (by decide +kernel)⟩
def lw_privs_1 : List (MethodName × Nat) := [(⟨"RankStairs$Tape", "takeToken", "()V"⟩, 10), (⟨"RankStairs$Tape", "refuse", "(II)V"⟩, 10), (⟨"RankStairs$Tape", "takeLine", "(LRankStairs$House;)V"⟩, 10), (⟨"RankStairs$Tape", "lineOfName", "()I"⟩, 10), (⟨"RankStairs$Tape", "isTokenNamed", "(Ljava/lang/String;)Z"⟩, 10), (⟨"RankStairs$Tape", "refuseOneTooMany", "(LRankStairs$House;I)V"⟩, 10), (⟨"RankStairs$Tape", "takeNumber", "(II)V"⟩, 10), (⟨"RankStairs$Tape", "takeTokenIfSound", "()V"⟩, 10), (⟨"RankStairs$Tape", "tellLine", "(LRankStairs$House;I)V"⟩, 10), (⟨"RankStairs", "forgetImages", "()V"⟩, 11), (⟨"RankStairs", "isStep", "(I)Z"⟩, 11), (⟨"RankStairs", "isLodger", "(I)Z"⟩, 11), (⟨"RankStairs$House", "isNear", "(II)Z"⟩, 12), (⟨"RankStairs$Exchange", "takeFrom", "(IIIII)V"⟩, 6), (⟨"RankStairs$Chances", "passStep", "(II)V"⟩, 2), (⟨"RankStairs$Dust", "searchFrom", "(I)I"⟩, 7)]
theorem lw_r1 : ∀ q ∈ lw_privs_1, lw_okq q := List.forall_mem_cons.mpr ⟨lw_p0, List.forall_mem_cons.mpr ⟨lw_p1, List.forall_mem_cons.mpr ⟨lw_p2, List.forall_mem_cons.mpr ⟨lw_p3, List.forall_mem_cons.mpr ⟨lw_p4, List.forall_mem_cons.mpr ⟨lw_p5, List.forall_mem_cons.mpr ⟨lw_p6, List.forall_mem_cons.mpr ⟨lw_p7, List.forall_mem_cons.mpr ⟨lw_p8, List.forall_mem_cons.mpr ⟨lw_p9, List.forall_mem_cons.mpr ⟨lw_p10, List.forall_mem_cons.mpr ⟨lw_p11, List.forall_mem_cons.mpr ⟨lw_p12, List.forall_mem_cons.mpr ⟨lw_p13, List.forall_mem_cons.mpr ⟨lw_p14, List.forall_mem_cons.mpr ⟨lw_p15, fun _ h => absurd h List.not_mem_nil⟩⟩⟩⟩⟩⟩⟩⟩⟩⟩⟩⟩⟩⟩⟩⟩
theorem lw_p16 : lw_okq (⟨"RankStairs$Dust", "canBeSo", "(I)Z"⟩, 7) := ⟨⟨by decide +kernel, by decide +kernel⟩, List.mem_of_getElem? (i := 198) (by decide +kernel), List.mem_of_getElem? (i := 747) (by decide +kernel), List.mem_of_getElem? (i := 748) (by decide +kernel)⟩
theorem lw_p17 : lw_okq (⟨"RankStairs$Dust", "searchBehind", "(II)I"⟩, 7) := ⟨⟨by decide +kernel, by decide +kernel⟩, List.mem_of_getElem? (i := 198) (by decide +kernel), List.mem_of_getElem? (i := 754) (by decide +kernel), List.mem_of_getElem? (i := 755) (by decide +kernel)⟩
theorem lw_p18 : lw_okq (⟨"RankStairs", "countImages", "()I"⟩, 11) := ⟨⟨by decide +kernel, by decide +kernel⟩, List.mem_of_getElem? (i := 19) (by decide +kernel), List.mem_of_getElem? (i := 825) (by decide +kernel), List.mem_of_getElem? (i := 826) (by decide +kernel)⟩
theorem lw_p19 : lw_okq (⟨"RankStairsModel", "goesOn", "()V"⟩, 35) := ⟨⟨by decide +kernel, by decide +kernel⟩, List.mem_of_getElem? (i := 834) (by decide +kernel), List.mem_of_getElem? (i := 962) (by decide +kernel), List.mem_of_getElem? (i := 963) (by decide +kernel)⟩
theorem lw_p20 : lw_okq (⟨"RankStairsModel", "byteAt", "(I)I"⟩, 35) := ⟨⟨by decide +kernel, by decide +kernel⟩, List.mem_of_getElem? (i := 834) (by decide +kernel), List.mem_of_getElem? (i := 966) (by decide +kernel), List.mem_of_getElem? (i := 967) (by decide +kernel)⟩
theorem lw_p21 : lw_okq (⟨"RankStairsModel", "fails", "(I)V"⟩, 35) := ⟨⟨by decide +kernel, by decide +kernel⟩, List.mem_of_getElem? (i := 834) (by decide +kernel), List.mem_of_getElem? (i := 974) (by decide +kernel), List.mem_of_getElem? (i := 975) (by decide +kernel)⟩
theorem lw_p22 : lw_okq (⟨"RankStairsModel", "readLine", "()V"⟩, 35) := ⟨⟨by decide +kernel, by decide +kernel⟩, List.mem_of_getElem? (i := 834) (by decide +kernel), List.mem_of_getElem? (i := 978) (by decide +kernel), List.mem_of_getElem? (i := 979) (by decide +kernel)⟩
theorem lw_p23 : lw_okq (⟨"RankStairsModel", "nameHere", "()I"⟩, 35) := ⟨⟨by decide +kernel, by decide +kernel⟩, List.mem_of_getElem? (i := 834) (by decide +kernel), List.mem_of_getElem? (i := 982) (by decide +kernel), List.mem_of_getElem? (i := 983) (by decide +kernel)⟩
theorem lw_p24 : lw_okq (⟨"RankStairsModel", "readMore", "(I)V"⟩, 35) := ⟨⟨by decide +kernel, by decide +kernel⟩, List.mem_of_getElem? (i := 834) (by decide +kernel), List.mem_of_getElem? (i := 987) (by decide +kernel), List.mem_of_getElem? (i := 988) (by decide +kernel)⟩
theorem lw_p25 : lw_okq (⟨"RankStairsModel", "number", "(II)I"⟩, 35) := ⟨⟨by decide +kernel, by decide +kernel⟩, List.mem_of_getElem? (i := 834) (by decide +kernel), List.mem_of_getElem? (i := 991) (by decide +kernel), List.mem_of_getElem? (i := 992) (by decide +kernel)⟩
theorem lw_p26 : lw_okq (⟨"RankStairsModel", "holdOn", "(I)I"⟩, 35) := ⟨⟨by decide +kernel, by decide +kernel⟩, List.mem_of_getElem? (i := 834) (by decide +kernel), List.mem_of_getElem? (i := 1003) (by decide +kernel), List.mem_of_getElem? (i := 1004) (by decide +kernel)⟩
theorem lw_p27 : lw_okq (⟨"RankStairsModel", "isStep", "(I)Z"⟩, 35) := ⟨⟨by decide +kernel, by decide +kernel⟩, List.mem_of_getElem? (i := 834) (by decide +kernel), List.mem_of_getElem? (i := 1011) (by decide +kernel), List.mem_of_getElem? (i := 1012) (by decide +kernel)⟩
theorem lw_p28 : lw_okq (⟨"RankStairsModel", "rankOn", "(II)I"⟩, 35) := ⟨⟨by decide +kernel, by decide +kernel⟩, List.mem_of_getElem? (i := 834) (by decide +kernel), List.mem_of_getElem? (i := 1015) (by decide +kernel), List.mem_of_getElem? (i := 1016) (by decide +kernel)⟩
theorem lw_p29 : lw_okq (⟨"RankStairsModel", "isBroken", "(II)Z"⟩, 35) := ⟨⟨by decide +kernel, by decide +kernel⟩, List.mem_of_getElem? (i := 834) (by decide +kernel), List.mem_of_getElem? (i := 1019) (by decide +kernel), List.mem_of_getElem? (i := 1020) (by decide +kernel)⟩
theorem lw_p30 : lw_okq (⟨"RankStairsModel", "isLodger", "(I)Z"⟩, 35) := ⟨⟨by decide +kernel, by decide +kernel⟩, List.mem_of_getElem? (i := 834) (by decide +kernel), List.mem_of_getElem? (i := 1027) (by decide +kernel), List.mem_of_getElem? (i := 1028) (by decide +kernel)⟩
theorem lw_p31 : lw_okq (⟨"RankStairsModel", "reachOn", "(II)I"⟩, 35) := ⟨⟨by decide +kernel, by decide +kernel⟩, List.mem_of_getElem? (i := 834) (by decide +kernel), List.mem_of_getElem? (i := 1031) (by decide +kernel), List.mem_of_getElem? (i := 1032) (by decide +kernel)⟩
def lw_privs_2 : List (MethodName × Nat) := [(⟨"RankStairs$Dust", "canBeSo", "(I)Z"⟩, 7), (⟨"RankStairs$Dust", "searchBehind", "(II)I"⟩, 7), (⟨"RankStairs", "countImages", "()I"⟩, 11), (⟨"RankStairsModel", "goesOn", "()V"⟩, 35), (⟨"RankStairsModel", "byteAt", "(I)I"⟩, 35), (⟨"RankStairsModel", "fails", "(I)V"⟩, 35), (⟨"RankStairsModel", "readLine", "()V"⟩, 35), (⟨"RankStairsModel", "nameHere", "()I"⟩, 35), (⟨"RankStairsModel", "readMore", "(I)V"⟩, 35), (⟨"RankStairsModel", "number", "(II)I"⟩, 35), (⟨"RankStairsModel", "holdOn", "(I)I"⟩, 35), (⟨"RankStairsModel", "isStep", "(I)Z"⟩, 35), (⟨"RankStairsModel", "rankOn", "(II)I"⟩, 35), (⟨"RankStairsModel", "isBroken", "(II)Z"⟩, 35), (⟨"RankStairsModel", "isLodger", "(I)Z"⟩, 35), (⟨"RankStairsModel", "reachOn", "(II)I"⟩, 35)]
theorem lw_r2 : ∀ q ∈ lw_privs_2, lw_okq q := List.forall_mem_cons.mpr ⟨lw_p16, List.forall_mem_cons.mpr ⟨lw_p17, List.forall_mem_cons.mpr ⟨lw_p18, List.forall_mem_cons.mpr ⟨lw_p19, List.forall_mem_cons.mpr ⟨lw_p20, List.forall_mem_cons.mpr ⟨lw_p21, List.forall_mem_cons.mpr ⟨lw_p22, List.forall_mem_cons.mpr ⟨lw_p23, List.forall_mem_cons.mpr ⟨lw_p24, List.forall_mem_cons.mpr ⟨lw_p25, List.forall_mem_cons.mpr ⟨lw_p26, List.forall_mem_cons.mpr ⟨lw_p27, List.forall_mem_cons.mpr ⟨lw_p28, List.forall_mem_cons.mpr ⟨lw_p29, List.forall_mem_cons.mpr ⟨lw_p30, List.forall_mem_cons.mpr ⟨lw_p31, fun _ h => absurd h List.not_mem_nil⟩⟩⟩⟩⟩⟩⟩⟩⟩⟩⟩⟩⟩⟩⟩⟩
theorem lw_p32 : lw_okq (⟨"RankStairsModel", "isLoaded", "(II)Z"⟩, 35) := ⟨⟨by decide +kernel, by decide +kernel⟩, List.mem_of_getElem? (i := 834) (by decide +kernel), List.mem_of_getElem? (i := 1035) (by decide +kernel), List.mem_of_getElem? (i := 1036) (by decide +kernel)⟩
theorem lw_p33 : lw_okq (⟨"RankStairsModel", "trodden", "(I)I"⟩, 35) := ⟨⟨by decide +kernel, by decide +kernel⟩, List.mem_of_getElem? (i := 834) (by decide +kernel), List.mem_of_getElem? (i := 1039) (by decide +kernel), List.mem_of_getElem? (i := 1040) (by decide +kernel)⟩
theorem lw_p34 : lw_okq (⟨"RankStairsModel", "mayTread", "(III)Z"⟩, 35) := ⟨⟨by decide +kernel, by decide +kernel⟩, List.mem_of_getElem? (i := 834) (by decide +kernel), List.mem_of_getElem? (i := 1043) (by decide +kernel), List.mem_of_getElem? (i := 1044) (by decide +kernel)⟩
theorem lw_p35 : lw_okq (⟨"RankStairsModel", "sets", "(ZII)I"⟩, 35) := ⟨⟨by decide +kernel, by decide +kernel⟩, List.mem_of_getElem? (i := 834) (by decide +kernel), List.mem_of_getElem? (i := 1052) (by decide +kernel), List.mem_of_getElem? (i := 1053) (by decide +kernel)⟩
theorem lw_p36 : lw_okq (⟨"RankStairsModel", "climbOn", "(II)I"⟩, 35) := ⟨⟨by decide +kernel, by decide +kernel⟩, List.mem_of_getElem? (i := 834) (by decide +kernel), List.mem_of_getElem? (i := 1093) (by decide +kernel), List.mem_of_getElem? (i := 1094) (by decide +kernel)⟩
theorem lw_p37 : lw_okq (⟨"RankStairsModel", "layFewest", "(II)V"⟩, 35) := ⟨⟨by decide +kernel, by decide +kernel⟩, List.mem_of_getElem? (i := 834) (by decide +kernel), List.mem_of_getElem? (i := 1097) (by decide +kernel), List.mem_of_getElem? (i := 1098) (by decide +kernel)⟩
theorem lw_p38 : lw_okq (⟨"RankStairsModel", "wornOver", "(I)I"⟩, 35) := ⟨⟨by decide +kernel, by decide +kernel⟩, List.mem_of_getElem? (i := 834) (by decide +kernel), List.mem_of_getElem? (i := 1109) (by decide +kernel), List.mem_of_getElem? (i := 1110) (by decide +kernel)⟩
theorem lw_p39 : lw_okq (⟨"RankStairsModel", "hasClimb", "(II)Z"⟩, 35) := ⟨⟨by decide +kernel, by decide +kernel⟩, List.mem_of_getElem? (i := 834) (by decide +kernel), List.mem_of_getElem? (i := 1113) (by decide +kernel), List.mem_of_getElem? (i := 1114) (by decide +kernel)⟩
theorem lw_p40 : lw_okq (⟨"RankStairsModel", "homesOn", "(I)I"⟩, 35) := ⟨⟨by decide +kernel, by decide +kernel⟩, List.mem_of_getElem? (i := 834) (by decide +kernel), List.mem_of_getElem? (i := 1121) (by decide +kernel), List.mem_of_getElem? (i := 1122) (by decide +kernel)⟩
theorem lw_p41 : lw_okq (⟨"RankStairsModel", "daysOn", "(II)I"⟩, 35) := ⟨⟨by decide +kernel, by decide +kernel⟩, List.mem_of_getElem? (i := 834) (by decide +kernel), List.mem_of_getElem? (i := 1133) (by decide +kernel), List.mem_of_getElem? (i := 1134) (by decide +kernel)⟩
theorem lw_p42 : lw_okq (⟨"RankStairsModel", "goes", "(II)Z"⟩, 35) := ⟨⟨by decide +kernel, by decide +kernel⟩, List.mem_of_getElem? (i := 834) (by decide +kernel), List.mem_of_getElem? (i := 1137) (by decide +kernel), List.mem_of_getElem? (i := 1138) (by decide +kernel)⟩
theorem lw_p43 : lw_okq (⟨"RankStairsModel", "copies", "(II)V"⟩, 35) := ⟨⟨by decide +kernel, by decide +kernel⟩, List.mem_of_getElem? (i := 834) (by decide +kernel), List.mem_of_getElem? (i := 1145) (by decide +kernel), List.mem_of_getElem? (i := 1146) (by decide +kernel)⟩
theorem lw_p44 : lw_okq (⟨"RankStairsModel", "brokenOn", "(I)I"⟩, 35) := ⟨⟨by decide +kernel, by decide +kernel⟩, List.mem_of_getElem? (i := 834) (by decide +kernel), List.mem_of_getElem? (i := 1149) (by decide +kernel), List.mem_of_getElem? (i := 1150) (by decide +kernel)⟩
theorem lw_p45 : lw_okq (⟨"RankStairsModel", "laysFloors", "(I)Z"⟩, 35) := ⟨⟨by decide +kernel, by decide +kernel⟩, List.mem_of_getElem? (i := 834) (by decide +kernel), List.mem_of_getElem? (i := 1184) (by decide +kernel), List.mem_of_getElem? (i := 1185) (by decide +kernel)⟩
theorem lw_p46 : lw_okq (⟨"RankStairsModel", "meanOf", "(III)J"⟩, 35) := ⟨⟨by decide +kernel, by decide +kernel⟩, List.mem_of_getElem? (i := 834) (by decide +kernel), List.mem_of_getElem? (i := 1192) (by decide +kernel), List.mem_of_getElem? (i := 1193) (by decide +kernel)⟩
theorem lw_p47 : lw_okq (⟨"RankStairsModel", "allFloors", "()I"⟩, 35) := ⟨⟨by decide +kernel, by decide +kernel⟩, List.mem_of_getElem? (i := 834) (by decide +kernel), List.mem_of_getElem? (i := 1217) (by decide +kernel), List.mem_of_getElem? (i := 1218) (by decide +kernel)⟩
def lw_privs_3 : List (MethodName × Nat) := [(⟨"RankStairsModel", "isLoaded", "(II)Z"⟩, 35), (⟨"RankStairsModel", "trodden", "(I)I"⟩, 35), (⟨"RankStairsModel", "mayTread", "(III)Z"⟩, 35), (⟨"RankStairsModel", "sets", "(ZII)I"⟩, 35), (⟨"RankStairsModel", "climbOn", "(II)I"⟩, 35), (⟨"RankStairsModel", "layFewest", "(II)V"⟩, 35), (⟨"RankStairsModel", "wornOver", "(I)I"⟩, 35), (⟨"RankStairsModel", "hasClimb", "(II)Z"⟩, 35), (⟨"RankStairsModel", "homesOn", "(I)I"⟩, 35), (⟨"RankStairsModel", "daysOn", "(II)I"⟩, 35), (⟨"RankStairsModel", "goes", "(II)Z"⟩, 35), (⟨"RankStairsModel", "copies", "(II)V"⟩, 35), (⟨"RankStairsModel", "brokenOn", "(I)I"⟩, 35), (⟨"RankStairsModel", "laysFloors", "(I)Z"⟩, 35), (⟨"RankStairsModel", "meanOf", "(III)J"⟩, 35), (⟨"RankStairsModel", "allFloors", "()I"⟩, 35)]
theorem lw_r3 : ∀ q ∈ lw_privs_3, lw_okq q := List.forall_mem_cons.mpr ⟨lw_p32, List.forall_mem_cons.mpr ⟨lw_p33, List.forall_mem_cons.mpr ⟨lw_p34, List.forall_mem_cons.mpr ⟨lw_p35, List.forall_mem_cons.mpr ⟨lw_p36, List.forall_mem_cons.mpr ⟨lw_p37, List.forall_mem_cons.mpr ⟨lw_p38, List.forall_mem_cons.mpr ⟨lw_p39, List.forall_mem_cons.mpr ⟨lw_p40, List.forall_mem_cons.mpr ⟨lw_p41, List.forall_mem_cons.mpr ⟨lw_p42, List.forall_mem_cons.mpr ⟨lw_p43, List.forall_mem_cons.mpr ⟨lw_p44, List.forall_mem_cons.mpr ⟨lw_p45, List.forall_mem_cons.mpr ⟨lw_p46, List.forall_mem_cons.mpr ⟨lw_p47, fun _ h => absurd h List.not_mem_nil⟩⟩⟩⟩⟩⟩⟩⟩⟩⟩⟩⟩⟩⟩⟩⟩
theorem lw_p48 : lw_okq (⟨"RankStairsModel", "isAsSeen", "(I)Z"⟩, 35) := ⟨⟨by decide +kernel, by decide +kernel⟩, List.mem_of_getElem? (i := 834) (by decide +kernel), List.mem_of_getElem? (i := 1221) (by decide +kernel), List.mem_of_getElem? (i := 1222) (by decide +kernel)⟩
theorem lw_p49 : lw_okq (⟨"RankStairsModel", "floorOf", "(II)I"⟩, 35) := ⟨⟨by decide +kernel, by decide +kernel⟩, List.mem_of_getElem? (i := 834) (by decide +kernel), List.mem_of_getElem? (i := 1225) (by decide +kernel), List.mem_of_getElem? (i := 1226) (by decide +kernel)⟩
def lw_privs_4 : List (MethodName × Nat) := [(⟨"RankStairsModel", "isAsSeen", "(I)Z"⟩, 35), (⟨"RankStairsModel", "floorOf", "(II)I"⟩, 35)]
theorem lw_r4 : ∀ q ∈ lw_privs_4, lw_okq q := List.forall_mem_cons.mpr ⟨lw_p48, List.forall_mem_cons.mpr ⟨lw_p49, fun _ h => absurd h List.not_mem_nil⟩⟩
def lw_privs : List (MethodName × Nat) := lw_privs_1 ++ (lw_privs_2 ++ (lw_privs_3 ++ (lw_privs_4)))
def lw_tbl : List Cond := k2_sels lw_privs ++ tables_1
theorem lw_privs_ok : ∀ q ∈ lw_privs, lw_okq q := by
  show ∀ q ∈ lw_privs_1 ++ (lw_privs_2 ++ (lw_privs_3 ++ (lw_privs_4))), lw_okq q
  exact List.forall_mem_append.mpr ⟨lw_r1, List.forall_mem_append.mpr ⟨lw_r2, List.forall_mem_append.mpr ⟨lw_r3, lw_r4⟩⟩⟩
end
section
def RX0 : String := "RankStairs$Chances"
def TX0 : u_T := fun k => match k with
  | 0 => ("RankStairs$Chances", "shares", "[J", true)
  | _ => ("RankStairs$Chances", "above", "[J", true)
def tyX0 : Nat → FieldType := fun k => match k with
  | 0 => .array .long
  | _ => .array .long
abbrev wsX00 : List Cond := u_ws RX0 TX0 2
theorem nmX0 : ∀ a, a < 2 → ∀ b, b < 2 → a ≠ b → (TX0 a).2.1 ≠ (TX0 b).2.1 := by decide +kernel
theorem tyX0_ok : ∀ k, k < 2 → parseFieldDescriptor (TX0 k).2.2.1 = some (tyX0 k) := by decide +kernel
abbrev cX0_init : ByteArray := prog_2_method_1_code
def yX0_init : MethodName := ⟨RX0, "<init>", "()V"⟩
abbrev cX0_ofHome : ByteArray := prog_2_method_2_code
def yX0_ofHome : MethodName := ⟨RX0, "ofHome", "(LRankStairs$House;II)J"⟩
abbrev cX0_passStep : ByteArray := prog_2_method_3_code
def yX0_passStep : MethodName := ⟨RX0, "passStep", "(II)V"⟩
abbrev cX0_lowest : ByteArray := prog_2_method_4_code
def yX0_lowest : MethodName := ⟨RX0, "lowest", "(JI)J"⟩
def RX1 : String := "RankStairs$Climber"
def TX1 : u_T := fun k => match k with
  | 0 => ("RankStairs$Climber", "paths", "[I", true)
  | _ => ("RankStairs$Climber", "row", "[I", true)
def tyX1 : Nat → FieldType := fun k => match k with
  | 0 => .array .int
  | _ => .array .int
abbrev wsX10 : List Cond := u_ws RX1 TX1 2
theorem nmX1 : ∀ a, a < 2 → ∀ b, b < 2 → a ≠ b → (TX1 a).2.1 ≠ (TX1 b).2.1 := by decide +kernel
theorem tyX1_ok : ∀ k, k < 2 → parseFieldDescriptor (TX1 k).2.2.1 = some (tyX1 k) := by decide +kernel
abbrev cX1_init : ByteArray := prog_3_method_1_code
def yX1_init : MethodName := ⟨RX1, "<init>", "()V"⟩
abbrev cX1_shortest : ByteArray := prog_3_method_2_code
def yX1_shortest : MethodName := ⟨RX1, "shortest", "(LRankStairs$House;I)I"⟩
abbrev cX1_findPaths : ByteArray := prog_3_method_3_code
def yX1_findPaths : MethodName := ⟨RX1, "findPaths", "(III[I)V"⟩
abbrev cX1_shortestOf : ByteArray := prog_3_method_4_code
def yX1_shortestOf : MethodName := ⟨RX1, "shortestOf", "([III)I"⟩
abbrev cX1_shorter : ByteArray := prog_3_method_5_code
def yX1_shorter : MethodName := ⟨RX1, "shorter", "(II)I"⟩
abbrev cX1_countClimbs : ByteArray := prog_3_method_6_code
def yX1_countClimbs : MethodName := ⟨RX1, "countClimbs", "(LRankStairs$House;I)I"⟩
abbrev cX1_leastWorst : ByteArray := prog_3_method_7_code
def yX1_leastWorst : MethodName := ⟨RX1, "leastWorst", "(LRankStairs$House;I)I"⟩
abbrev cX1_fewestWithin : ByteArray := prog_3_method_8_code
def yX1_fewestWithin : MethodName := ⟨RX1, "fewestWithin", "(LRankStairs$House;II)I"⟩
abbrev cX1_goes : ByteArray := prog_3_method_9_code
def yX1_goes : MethodName := ⟨RX1, "goes", "(LRankStairs$House;I)Z"⟩
abbrev cX1_goDay : ByteArray := prog_3_method_10_code
def yX1_goDay : MethodName := ⟨RX1, "goDay", "(LRankStairs$House;)I"⟩
abbrev cX1_goDays : ByteArray := prog_3_method_11_code
def yX1_goDays : MethodName := ⟨RX1, "goDays", "(LRankStairs$House;I)I"⟩
def RX2 : String := "RankStairs$Dust"
def TX2 : u_T := fun k => match k with
  | 0 => ("RankStairs$Dust", "seen", "I", false)
  | 1 => ("RankStairs$Dust", "floorBits", "[I", true)
  | 2 => ("RankStairs$Dust", "seenSteps", "[I", true)
  | 3 => ("RankStairs$Dust", "seenMore", "[I", true)
  | 4 => ("RankStairs$Dust", "trial", "LRankStairs$House;", true)
  | 5 => ("RankStairs$Dust", "wearsAt", "[[I", true)
  | _ => ("RankStairs$Dust", "pathsAt", "[[I", true)
def tyX2 : Nat → FieldType := fun k => match k with
  | 0 => .int
  | 1 => .array .int
  | 2 => .array .int
  | 3 => .array .int
  | 4 => .object "RankStairs$House"
  | 5 => .array (.array .int)
  | _ => .array (.array .int)
abbrev wsX20 : List Cond := u_ws RX2 TX2 7
theorem nmX2 : ∀ a, a < 7 → ∀ b, b < 7 → a ≠ b → (TX2 a).2.1 ≠ (TX2 b).2.1 := by decide +kernel
theorem tyX2_ok : ∀ k, k < 7 → parseFieldDescriptor (TX2 k).2.2.1 = some (tyX2 k) := by decide +kernel
abbrev cX2_init : ByteArray := prog_4_method_1_code
def yX2_init : MethodName := ⟨RX2, "<init>", "()V"⟩
abbrev cX2_note : ByteArray := prog_4_method_2_code
def yX2_note : MethodName := ⟨RX2, "note", "(II)I"⟩
abbrev cX2_search : ByteArray := prog_4_method_3_code
def yX2_search : MethodName := ⟨RX2, "search", "(LRankStairs$House;)I"⟩
abbrev cX2_searchFrom : ByteArray := prog_4_method_4_code
def yX2_searchFrom : MethodName := ⟨RX2, "searchFrom", "(I)I"⟩
abbrev cX2_searchBehind : ByteArray := prog_4_method_5_code
def yX2_searchBehind : MethodName := ⟨RX2, "searchBehind", "(II)I"⟩
abbrev cX2_canBeSo : ByteArray := prog_4_method_6_code
def yX2_canBeSo : MethodName := ⟨RX2, "canBeSo", "(I)Z"⟩
def RX3 : String := "RankStairs$Exchange"
def TX3 : u_T := fun k => match k with
  | 0 => ("RankStairs$Exchange", "bestHave", "I", false)
  | 1 => ("RankStairs$Exchange", "bestSteps", "I", false)
  | 2 => ("RankStairs$Exchange", "bestTakes", "[I", true)
  | 3 => ("RankStairs$Exchange", "takes", "[I", true)
  | 4 => ("RankStairs$Exchange", "paths", "[I", true)
  | _ => ("RankStairs$Exchange", "lengths", "[I", true)
def tyX3 : Nat → FieldType := fun k => match k with
  | 0 => .int
  | 1 => .int
  | 2 => .array .int
  | 3 => .array .int
  | 4 => .array .int
  | _ => .array .int
abbrev wsX30 : List Cond := u_ws RX3 TX3 6
theorem nmX3 : ∀ a, a < 6 → ∀ b, b < 6 → a ≠ b → (TX3 a).2.1 ≠ (TX3 b).2.1 := by decide +kernel
theorem tyX3_ok : ∀ k, k < 6 → parseFieldDescriptor (TX3 k).2.2.1 = some (tyX3 k) := by decide +kernel
abbrev cX3_init : ByteArray := prog_5_method_1_code
def yX3_init : MethodName := ⟨RX3, "<init>", "()V"⟩
abbrev cX3_arrange : ByteArray := prog_5_method_2_code
def yX3_arrange : MethodName := ⟨RX3, "arrange", "(LRankStairs$House;)V"⟩
abbrev cX3_takeFrom : ByteArray := prog_5_method_3_code
def yX3_takeFrom : MethodName := ⟨RX3, "takeFrom", "(IIIII)V"⟩
def RX4 : String := "RankStairs$House"
def TX4 : u_T := fun k => match k with
  | 0 => ("RankStairs$House", "steps", "I", false)
  | 1 => ("RankStairs$House", "lodgers", "I", false)
  | 2 => ("RankStairs$House", "gapLaw", "I", false)
  | 3 => ("RankStairs$House", "holdLaw", "I", false)
  | 4 => ("RankStairs$House", "dayNumber", "I", false)
  | 5 => ("RankStairs$House", "kinds", "[I", true)
  | 6 => ("RankStairs$House", "years", "[I", true)
  | 7 => ("RankStairs$House", "wears", "[I", true)
  | 8 => ("RankStairs$House", "legsOf", "[I", true)
  | 9 => ("RankStairs$House", "rankOf", "[I", true)
  | 10 => ("RankStairs$House", "loadOf", "[I", true)
  | _ => ("RankStairs$House", "floorOf", "[I", true)
def tyX4 : Nat → FieldType := fun k => match k with
  | 0 => .int
  | 1 => .int
  | 2 => .int
  | 3 => .int
  | 4 => .int
  | 5 => .array .int
  | 6 => .array .int
  | 7 => .array .int
  | 8 => .array .int
  | 9 => .array .int
  | 10 => .array .int
  | _ => .array .int
abbrev wsX40 : List Cond := u_ws RX4 TX4 12
theorem nmX4 : ∀ a, a < 12 → ∀ b, b < 12 → a ≠ b → (TX4 a).2.1 ≠ (TX4 b).2.1 := by decide +kernel
theorem tyX4_ok : ∀ k, k < 12 → parseFieldDescriptor (TX4 k).2.2.1 = some (tyX4 k) := by decide +kernel
abbrev cX4_init : ByteArray := prog_6_method_1_code
def yX4_init : MethodName := ⟨RX4, "<init>", "()V"⟩
abbrev cX4_empty : ByteArray := prog_6_method_2_code
def yX4_empty : MethodName := ⟨RX4, "empty", "()V"⟩
abbrev cX4_copyFrom : ByteArray := prog_6_method_3_code
def yX4_copyFrom : MethodName := ⟨RX4, "copyFrom", "(LRankStairs$House;)V"⟩
abbrev cX4_addStep : ByteArray := prog_6_method_4_code
def yX4_addStep : MethodName := ⟨RX4, "addStep", "(III)V"⟩
abbrev cX4_addLodger : ByteArray := prog_6_method_5_code
def yX4_addLodger : MethodName := ⟨RX4, "addLodger", "(IIII)V"⟩
abbrev cX4_renew : ByteArray := prog_6_method_6_code
def yX4_renew : MethodName := ⟨RX4, "renew", "(I)V"⟩
abbrev cX4_rankOfStep : ByteArray := prog_6_method_7_code
def yX4_rankOfStep : MethodName := ⟨RX4, "rankOfStep", "(I)I"⟩
abbrev cX4_isBroken : ByteArray := prog_6_method_8_code
def yX4_isBroken : MethodName := ⟨RX4, "isBroken", "(I)Z"⟩
abbrev cX4_brokenBits : ByteArray := prog_6_method_9_code
def yX4_brokenBits : MethodName := ⟨RX4, "brokenBits", "()I"⟩
abbrev cX4_mostWear : ByteArray := prog_6_method_10_code
def yX4_mostWear : MethodName := ⟨RX4, "mostWear", "()I"⟩
abbrev cX4_allWear : ByteArray := prog_6_method_11_code
def yX4_allWear : MethodName := ⟨RX4, "allWear", "()I"⟩
abbrev cX4_isHeavy : ByteArray := prog_6_method_12_code
def yX4_isHeavy : MethodName := ⟨RX4, "isHeavy", "(I)Z"⟩
abbrev cX4_reachOf : ByteArray := prog_6_method_13_code
def yX4_reachOf : MethodName := ⟨RX4, "reachOf", "(I)I"⟩
abbrev cX4_treadBits : ByteArray := prog_6_method_14_code
def yX4_treadBits : MethodName := ⟨RX4, "treadBits", "(I)I"⟩
abbrev cX4_isNear : ByteArray := prog_6_method_15_code
def yX4_isNear : MethodName := ⟨RX4, "isNear", "(II)Z"⟩
abbrev cX4_getsHome : ByteArray := prog_6_method_16_code
def yX4_getsHome : MethodName := ⟨RX4, "getsHome", "(I)Z"⟩
abbrev cX4_getsHomeBy : ByteArray := prog_6_method_17_code
def yX4_getsHomeBy : MethodName := ⟨RX4, "getsHomeBy", "(II)Z"⟩
abbrev cX4_homeBits : ByteArray := prog_6_method_18_code
def yX4_homeBits : MethodName := ⟨RX4, "homeBits", "()I"⟩
abbrev cX4_wearBy : ByteArray := prog_6_method_19_code
def yX4_wearBy : MethodName := ⟨RX4, "wearBy", "(II)V"⟩
def RX5 : String := "RankStairs$Sheet"
def TX5 : u_T := fun k => match k with
  | 0 => ("RankStairs$Sheet", "size", "I", false)
  | 1 => ("RankStairs$Sheet", "cells", "[I", true)
  | _ => ("RankStairs$Sheet", "itsLane", "I", false)
def tyX5 : Nat → FieldType := fun k => match k with
  | 0 => .int
  | 1 => .array .int
  | _ => .int
abbrev wsX50 : List Cond := u_ws RX5 TX5 3
theorem nmX5 : ∀ a, a < 3 → ∀ b, b < 3 → a ≠ b → (TX5 a).2.1 ≠ (TX5 b).2.1 := by decide +kernel
theorem tyX5_ok : ∀ k, k < 3 → parseFieldDescriptor (TX5 k).2.2.1 = some (tyX5 k) := by decide +kernel
abbrev cX5_init : ByteArray := prog_7_method_1_code
def yX5_init : MethodName := ⟨RX5, "<init>", "()V"⟩
abbrev cX5_isNothing : ByteArray := prog_7_method_2_code
def yX5_isNothing : MethodName := ⟨RX5, "isNothing", "()Z"⟩
abbrev cX5_renew : ByteArray := prog_7_method_3_code
def yX5_renew : MethodName := ⟨RX5, "renew", "(II)V"⟩
abbrev cX5_faultAs : ByteArray := prog_7_method_4_code
def yX5_faultAs : MethodName := ⟨RX5, "faultAs", "(II)I"⟩
abbrev cX5_faultAt : ByteArray := prog_7_method_5_code
def yX5_faultAt : MethodName := ⟨RX5, "faultAt", "(I)I"⟩
abbrev cX5_put : ByteArray := prog_7_method_6_code
def yX5_put : MethodName := ⟨RX5, "put", "(II)V"⟩
def RX6 : String := "RankStairs$Tape"
def TX6 : u_T := fun k => match k with
  | 0 => ("RankStairs$Tape", "length", "I", false)
  | 1 => ("RankStairs$Tape", "found", "I", false)
  | 2 => ("RankStairs$Tape", "foundAt", "I", false)
  | 3 => ("RankStairs$Tape", "bytes", "[B", true)
  | 4 => ("RankStairs$Tape", "numbers", "[I", true)
  | 5 => ("RankStairs$Tape", "place", "I", false)
  | 6 => ("RankStairs$Tape", "token", "I", false)
  | 7 => ("RankStairs$Tape", "tokenAt", "I", false)
  | 8 => ("RankStairs$Tape", "gapTold", "Z", false)
  | _ => ("RankStairs$Tape", "holdTold", "Z", false)
def tyX6 : Nat → FieldType := fun k => match k with
  | 0 => .int
  | 1 => .int
  | 2 => .int
  | 3 => .array .byte
  | 4 => .array .int
  | 5 => .int
  | 6 => .int
  | 7 => .int
  | 8 => .boolean
  | _ => .boolean
abbrev wsX60 : List Cond := u_ws RX6 TX6 10
theorem nmX6 : ∀ a, a < 10 → ∀ b, b < 10 → a ≠ b → (TX6 a).2.1 ≠ (TX6 b).2.1 := by decide +kernel
theorem tyX6_ok : ∀ k, k < 10 → parseFieldDescriptor (TX6 k).2.2.1 = some (tyX6 k) := by decide +kernel
abbrev cX6_init : ByteArray := prog_8_method_1_code
def yX6_init : MethodName := ⟨RX6, "<init>", "()V"⟩
abbrev cX6_put : ByteArray := prog_8_method_2_code
def yX6_put : MethodName := ⟨RX6, "put", "(I)I"⟩
abbrev cX6_tell : ByteArray := prog_8_method_3_code
def yX6_tell : MethodName := ⟨RX6, "tell", "(LRankStairs$House;)I"⟩
abbrev cX6_hasLostFloor : ByteArray := prog_8_method_4_code
def yX6_hasLostFloor : MethodName := ⟨RX6, "hasLostFloor", "(LRankStairs$House;)Z"⟩
abbrev cX6_takeLine : ByteArray := prog_8_method_5_code
def yX6_takeLine : MethodName := ⟨RX6, "takeLine", "(LRankStairs$House;)V"⟩
abbrev cX6_refuseOneTooMany : ByteArray := prog_8_method_6_code
def yX6_refuseOneTooMany : MethodName := ⟨RX6, "refuseOneTooMany", "(LRankStairs$House;I)V"⟩
abbrev cX6_takeNumber : ByteArray := prog_8_method_7_code
def yX6_takeNumber : MethodName := ⟨RX6, "takeNumber", "(II)V"⟩
abbrev cX6_tellLine : ByteArray := prog_8_method_8_code
def yX6_tellLine : MethodName := ⟨RX6, "tellLine", "(LRankStairs$House;I)V"⟩
abbrev cX6_takeTokenIfSound : ByteArray := prog_8_method_9_code
def yX6_takeTokenIfSound : MethodName := ⟨RX6, "takeTokenIfSound", "()V"⟩
abbrev cX6_takeToken : ByteArray := prog_8_method_10_code
def yX6_takeToken : MethodName := ⟨RX6, "takeToken", "()V"⟩
abbrev cX6_kindOfByte : ByteArray := prog_8_method_11_code
def yX6_kindOfByte : MethodName := ⟨RX6, "kindOfByte", "(I)I"⟩
abbrev cX6_lineOfName : ByteArray := prog_8_method_12_code
def yX6_lineOfName : MethodName := ⟨RX6, "lineOfName", "()I"⟩
abbrev cX6_isTokenNamed : ByteArray := prog_8_method_13_code
def yX6_isTokenNamed : MethodName := ⟨RX6, "isTokenNamed", "(Ljava/lang/String;)Z"⟩
abbrev cX6_nameOfLine : ByteArray := prog_8_method_14_code
def yX6_nameOfLine : MethodName := ⟨RX6, "nameOfLine", "(I)Ljava/lang/String;"⟩
abbrev cX6_refuse : ByteArray := prog_8_method_15_code
def yX6_refuse : MethodName := ⟨RX6, "refuse", "(II)V"⟩
def RX7 : String := "RankStairs"
def TX7 : u_T := fun k => match k with
  | 0 => ("RankStairs", "tape", "LRankStairs$Tape;", true)
  | 1 => ("RankStairs", "now", "LRankStairs$House;", true)
  | 2 => ("RankStairs", "trial", "LRankStairs$House;", true)
  | 3 => ("RankStairs", "images", "[LRankStairs$House;", true)
  | 4 => ("RankStairs", "kept", "[Z", true)
  | 5 => ("RankStairs", "climber", "LRankStairs$Climber;", true)
  | 6 => ("RankStairs", "exchange", "LRankStairs$Exchange;", true)
  | 7 => ("RankStairs", "chances", "LRankStairs$Chances;", true)
  | 8 => ("RankStairs", "dust", "LRankStairs$Dust;", true)
  | 9 => ("RankStairs", "sheets", "[LRankStairs$Sheet;", true)
  | _ => ("RankStairs", "readFault", "I", false)
def tyX7 : Nat → FieldType := fun k => match k with
  | 0 => .object "RankStairs$Tape"
  | 1 => .object "RankStairs$House"
  | 2 => .object "RankStairs$House"
  | 3 => .array (.object "RankStairs$House")
  | 4 => .array .boolean
  | 5 => .object "RankStairs$Climber"
  | 6 => .object "RankStairs$Exchange"
  | 7 => .object "RankStairs$Chances"
  | 8 => .object "RankStairs$Dust"
  | 9 => .array (.object "RankStairs$Sheet")
  | _ => .int
abbrev wsX70 : List Cond := u_ws RX7 TX7 11
theorem nmX7 : ∀ a, a < 11 → ∀ b, b < 11 → a ≠ b → (TX7 a).2.1 ≠ (TX7 b).2.1 := by decide +kernel
theorem tyX7_ok : ∀ k, k < 11 → parseFieldDescriptor (TX7 k).2.2.1 = some (tyX7 k) := by decide +kernel
abbrev cX7_init : ByteArray := prog_1_method_1_code
def yX7_init : MethodName := ⟨RX7, "<init>", "()V"⟩
abbrev cX7_feed : ByteArray := prog_1_method_2_code
def yX7_feed : MethodName := ⟨RX7, "feed", "(I)I"⟩
abbrev cX7_end : ByteArray := prog_1_method_3_code
def yX7_end : MethodName := ⟨RX7, "end", "(I)I"⟩
abbrev cX7_text : ByteArray := prog_1_method_4_code
def yX7_text : MethodName := ⟨RX7, "text", "()I"⟩
abbrev cX7_fault : ByteArray := prog_1_method_5_code
def yX7_fault : MethodName := ⟨RX7, "fault", "()I"⟩
abbrev cX7_rule : ByteArray := prog_1_method_6_code
def yX7_rule : MethodName := ⟨RX7, "rule", "(I)I"⟩
abbrev cX7_step : ByteArray := prog_1_method_7_code
def yX7_step : MethodName := ⟨RX7, "step", "(II)I"⟩
abbrev cX7_lodger : ByteArray := prog_1_method_8_code
def yX7_lodger : MethodName := ⟨RX7, "lodger", "(II)I"⟩
abbrev cX7_age : ByteArray := prog_1_method_9_code
def yX7_age : MethodName := ⟨RX7, "age", "(II)I"⟩
abbrev cX7_wear : ByteArray := prog_1_method_10_code
def yX7_wear : MethodName := ⟨RX7, "wear", "(II)I"⟩
abbrev cX7_mend : ByteArray := prog_1_method_11_code
def yX7_mend : MethodName := ⟨RX7, "mend", "(I)I"⟩
abbrev cX7_rank : ByteArray := prog_1_method_12_code
def yX7_rank : MethodName := ⟨RX7, "rank", "(II)I"⟩
abbrev cX7_load : ByteArray := prog_1_method_13_code
def yX7_load : MethodName := ⟨RX7, "load", "(II)I"⟩
abbrev cX7_move : ByteArray := prog_1_method_14_code
def yX7_move : MethodName := ⟨RX7, "move", "(II)I"⟩
abbrev cX7_law : ByteArray := prog_1_method_15_code
def yX7_law : MethodName := ⟨RX7, "law", "(II)I"⟩
abbrev cX7_year : ByteArray := prog_1_method_16_code
def yX7_year : MethodName := ⟨RX7, "year", "()I"⟩
abbrev cX7_climb : ByteArray := prog_1_method_17_code
def yX7_climb : MethodName := ⟨RX7, "climb", "(II)I"⟩
abbrev cX7_ways : ByteArray := prog_1_method_18_code
def yX7_ways : MethodName := ⟨RX7, "ways", "(I)I"⟩
abbrev cX7_smooth : ByteArray := prog_1_method_19_code
def yX7_smooth : MethodName := ⟨RX7, "smooth", "(II)I"⟩
abbrev cX7_homes : ByteArray := prog_1_method_20_code
def yX7_homes : MethodName := ⟨RX7, "homes", "()I"⟩
abbrev cX7_must : ByteArray := prog_1_method_21_code
def yX7_must : MethodName := ⟨RX7, "must", "(I)I"⟩
abbrev cX7_day : ByteArray := prog_1_method_22_code
def yX7_day : MethodName := ⟨RX7, "day", "(I)I"⟩
abbrev cX7_ahead : ByteArray := prog_1_method_23_code
def yX7_ahead : MethodName := ⟨RX7, "ahead", "(II)I"⟩
abbrev cX7_breaks : ByteArray := prog_1_method_24_code
def yX7_breaks : MethodName := ⟨RX7, "breaks", "(I)I"⟩
abbrev cX7_stuck : ByteArray := prog_1_method_25_code
def yX7_stuck : MethodName := ⟨RX7, "stuck", "(I)I"⟩
abbrev cX7_gap : ByteArray := prog_1_method_26_code
def yX7_gap : MethodName := ⟨RX7, "gap", "(I)I"⟩
abbrev cX7_legs : ByteArray := prog_1_method_27_code
def yX7_legs : MethodName := ⟨RX7, "legs", "(I)I"⟩
abbrev cX7_hold : ByteArray := prog_1_method_28_code
def yX7_hold : MethodName := ⟨RX7, "hold", "(I)I"⟩
abbrev cX7_best : ByteArray := prog_1_method_29_code
def yX7_best : MethodName := ⟨RX7, "best", "(I)I"⟩
abbrev cX7_lodge : ByteArray := prog_1_method_30_code
def yX7_lodge : MethodName := ⟨RX7, "lodge", "(I)I"⟩
abbrev cX7_odds : ByteArray := prog_1_method_31_code
def yX7_odds : MethodName := ⟨RX7, "odds", "(III)J"⟩
abbrev cX7_mean : ByteArray := prog_1_method_32_code
def yX7_mean : MethodName := ⟨RX7, "mean", "(II)J"⟩
abbrev cX7_see : ByteArray := prog_1_method_33_code
def yX7_see : MethodName := ⟨RX7, "see", "(II)I"⟩
abbrev cX7_forget : ByteArray := prog_1_method_34_code
def yX7_forget : MethodName := ⟨RX7, "forget", "(I)I"⟩
abbrev cX7_fits : ByteArray := prog_1_method_35_code
def yX7_fits : MethodName := ⟨RX7, "fits", "()I"⟩
abbrev cX7_floors : ByteArray := prog_1_method_36_code
def yX7_floors : MethodName := ⟨RX7, "floors", "(I)I"⟩
abbrev cX7_drift : ByteArray := prog_1_method_37_code
def yX7_drift : MethodName := ⟨RX7, "drift", "(III)I"⟩
abbrev cX7_keep : ByteArray := prog_1_method_38_code
def yX7_keep : MethodName := ⟨RX7, "keep", "(I)I"⟩
abbrev cX7_back : ByteArray := prog_1_method_39_code
def yX7_back : MethodName := ⟨RX7, "back", "(I)I"⟩
abbrev cX7_sheet : ByteArray := prog_1_method_40_code
def yX7_sheet : MethodName := ⟨RX7, "sheet", "(III)I"⟩
abbrev cX7_lay : ByteArray := prog_1_method_41_code
def yX7_lay : MethodName := ⟨RX7, "lay", "(III)I"⟩
abbrev cX7_read : ByteArray := prog_1_method_42_code
def yX7_read : MethodName := ⟨RX7, "read", "(IIII)I"⟩
abbrev cX7_torn : ByteArray := prog_1_method_43_code
def yX7_torn : MethodName := ⟨RX7, "torn", "()I"⟩
abbrev cX7_count : ByteArray := prog_1_method_44_code
def yX7_count : MethodName := ⟨RX7, "count", "(I)I"⟩
abbrev cX7_isStep : ByteArray := prog_1_method_45_code
def yX7_isStep : MethodName := ⟨RX7, "isStep", "(I)Z"⟩
abbrev cX7_isLodger : ByteArray := prog_1_method_46_code
def yX7_isLodger : MethodName := ⟨RX7, "isLodger", "(I)Z"⟩
abbrev cX7_isSheet : ByteArray := prog_1_method_47_code
def yX7_isSheet : MethodName := ⟨RX7, "isSheet", "(I)Z"⟩
abbrev cX7_isLane : ByteArray := prog_1_method_48_code
def yX7_isLane : MethodName := ⟨RX7, "isLane", "(I)Z"⟩
abbrev cX7_within : ByteArray := prog_1_method_49_code
def yX7_within : MethodName := ⟨RX7, "within", "(III)Z"⟩
abbrev cX7_forgetImages : ByteArray := prog_1_method_50_code
def yX7_forgetImages : MethodName := ⟨RX7, "forgetImages", "()V"⟩
abbrev cX7_countImages : ByteArray := prog_1_method_51_code
def yX7_countImages : MethodName := ⟨RX7, "countImages", "()I"⟩
abbrev cX7_exchanged : ByteArray := prog_1_method_52_code
def yX7_exchanged : MethodName := ⟨RX7, "exchanged", "([III)I"⟩
abbrev cX7_stepOfPath : ByteArray := prog_1_method_53_code
def yX7_stepOfPath : MethodName := ⟨RX7, "stepOfPath", "(II)I"⟩
def RX8 : String := "RankStairsModel"
def TX8 : u_T := fun k => match k with
  | 0 => ("RankStairsModel", "state", "[I", true)
  | 1 => ("RankStairsModel", "kinds", "[I", true)
  | 2 => ("RankStairsModel", "stepMany", "I", false)
  | 3 => ("RankStairsModel", "legs", "[I", true)
  | 4 => ("RankStairsModel", "lodgerMany", "I", false)
  | 5 => ("RankStairsModel", "out", "I", false)
  | 6 => ("RankStairsModel", "readPage", "[I", true)
  | 7 => ("RankStairsModel", "readKinds", "[I", true)
  | 8 => ("RankStairsModel", "readLegs", "[I", true)
  | 9 => ("RankStairsModel", "readSteps", "I", false)
  | 10 => ("RankStairsModel", "readLodgers", "I", false)
  | 11 => ("RankStairsModel", "toldOnce", "I", false)
  | 12 => ("RankStairsModel", "highFloor", "I", false)
  | 13 => ("RankStairsModel", "tape", "[I", true)
  | 14 => ("RankStairsModel", "taped", "I", false)
  | 15 => ("RankStairsModel", "fault", "I", false)
  | 16 => ("RankStairsModel", "broken", "I", false)
  | 17 => ("RankStairsModel", "brokenAt", "I", false)
  | 18 => ("RankStairsModel", "spot", "I", false)
  | 19 => ("RankStairsModel", "here", "I", false)
  | 20 => ("RankStairsModel", "token", "I", false)
  | 21 => ("RankStairsModel", "value", "I", false)
  | 22 => ("RankStairsModel", "cuts", "[I", true)
  | 23 => ("RankStairsModel", "letters", "[I", true)
  | 24 => ("RankStairsModel", "fewest", "[I", true)
  | 25 => ("RankStairsModel", "trod", "[I", true)
  | 26 => ("RankStairsModel", "wayMany", "[I", true)
  | 27 => ("RankStairsModel", "whose", "[I", true)
  | 28 => ("RankStairsModel", "seen", "[I", true)
  | 29 => ("RankStairsModel", "seenMany", "I", false)
  | 30 => ("RankStairsModel", "isKept", "[Z", true)
  | 31 => ("RankStairsModel", "lanes", "[I", true)
  | 32 => ("RankStairsModel", "lengths", "[I", true)
  | 33 => ("RankStairsModel", "cells", "[I", true)
  | _ => ("RankStairsModel", "torn", "I", false)
def tyX8 : Nat → FieldType := fun k => match k with
  | 0 => .array .int
  | 1 => .array .int
  | 2 => .int
  | 3 => .array .int
  | 4 => .int
  | 5 => .int
  | 6 => .array .int
  | 7 => .array .int
  | 8 => .array .int
  | 9 => .int
  | 10 => .int
  | 11 => .int
  | 12 => .int
  | 13 => .array .int
  | 14 => .int
  | 15 => .int
  | 16 => .int
  | 17 => .int
  | 18 => .int
  | 19 => .int
  | 20 => .int
  | 21 => .int
  | 22 => .array .int
  | 23 => .array .int
  | 24 => .array .int
  | 25 => .array .int
  | 26 => .array .int
  | 27 => .array .int
  | 28 => .array .int
  | 29 => .int
  | 30 => .array .boolean
  | 31 => .array .int
  | 32 => .array .int
  | 33 => .array .int
  | _ => .int
abbrev wsX80 : List Cond := u_ws RX8 TX8 35
theorem nmX8 : ∀ a, a < 35 → ∀ b, b < 35 → a ≠ b → (TX8 a).2.1 ≠ (TX8 b).2.1 := by decide +kernel
theorem tyX8_ok : ∀ k, k < 35 → parseFieldDescriptor (TX8 k).2.2.1 = some (tyX8 k) := by decide +kernel
abbrev cX8_init : ByteArray := prog_10_method_1_code
def yX8_init : MethodName := ⟨RX8, "<init>", "()V"⟩
abbrev cX8_in : ByteArray := prog_10_method_3_code
def yX8_in : MethodName := ⟨RX8, "in", "(JJJ)Z"⟩
abbrev cX8_feed : ByteArray := prog_10_method_4_code
def yX8_feed : MethodName := ⟨RX8, "feed", "(I)I"⟩
abbrev cX8_end : ByteArray := prog_10_method_5_code
def yX8_end : MethodName := ⟨RX8, "end", "(I)I"⟩
abbrev cX8_byteAt : ByteArray := prog_10_method_6_code
def yX8_byteAt : MethodName := ⟨RX8, "byteAt", "(I)I"⟩
abbrev cX8_fails : ByteArray := prog_10_method_7_code
def yX8_fails : MethodName := ⟨RX8, "fails", "(I)V"⟩
abbrev cX8_nameHere : ByteArray := prog_10_method_8_code
def yX8_nameHere : MethodName := ⟨RX8, "nameHere", "()I"⟩
abbrev cX8_goesOn : ByteArray := prog_10_method_9_code
def yX8_goesOn : MethodName := ⟨RX8, "goesOn", "()V"⟩
abbrev cX8_number : ByteArray := prog_10_method_10_code
def yX8_number : MethodName := ⟨RX8, "number", "(II)I"⟩
abbrev cX8_readMore : ByteArray := prog_10_method_11_code
def yX8_readMore : MethodName := ⟨RX8, "readMore", "(I)V"⟩
abbrev cX8_readLine : ByteArray := prog_10_method_12_code
def yX8_readLine : MethodName := ⟨RX8, "readLine", "()V"⟩
abbrev cX8_text : ByteArray := prog_10_method_13_code
def yX8_text : MethodName := ⟨RX8, "text", "()I"⟩
abbrev cX8_fault : ByteArray := prog_10_method_14_code
def yX8_fault : MethodName := ⟨RX8, "fault", "()I"⟩
abbrev cX8_isStep : ByteArray := prog_10_method_15_code
def yX8_isStep : MethodName := ⟨RX8, "isStep", "(I)Z"⟩
abbrev cX8_isLodger : ByteArray := prog_10_method_16_code
def yX8_isLodger : MethodName := ⟨RX8, "isLodger", "(I)Z"⟩
abbrev cX8_holdOn : ByteArray := prog_10_method_17_code
def yX8_holdOn : MethodName := ⟨RX8, "holdOn", "(I)I"⟩
abbrev cX8_rule : ByteArray := prog_10_method_18_code
def yX8_rule : MethodName := ⟨RX8, "rule", "(I)I"⟩
abbrev cX8_rankOn : ByteArray := prog_10_method_19_code
def yX8_rankOn : MethodName := ⟨RX8, "rankOn", "(II)I"⟩
abbrev cX8_isBroken : ByteArray := prog_10_method_20_code
def yX8_isBroken : MethodName := ⟨RX8, "isBroken", "(II)Z"⟩
abbrev cX8_brokenOn : ByteArray := prog_10_method_21_code
def yX8_brokenOn : MethodName := ⟨RX8, "brokenOn", "(I)I"⟩
abbrev cX8_mayTread : ByteArray := prog_10_method_22_code
def yX8_mayTread : MethodName := ⟨RX8, "mayTread", "(III)Z"⟩
abbrev cX8_isLoaded : ByteArray := prog_10_method_23_code
def yX8_isLoaded : MethodName := ⟨RX8, "isLoaded", "(II)Z"⟩
abbrev cX8_reachOn : ByteArray := prog_10_method_24_code
def yX8_reachOn : MethodName := ⟨RX8, "reachOn", "(II)I"⟩
abbrev cX8_trodden : ByteArray := prog_10_method_25_code
def yX8_trodden : MethodName := ⟨RX8, "trodden", "(I)I"⟩
abbrev cX8_step : ByteArray := prog_10_method_26_code
def yX8_step : MethodName := ⟨RX8, "step", "(II)I"⟩
abbrev cX8_lodger : ByteArray := prog_10_method_27_code
def yX8_lodger : MethodName := ⟨RX8, "lodger", "(II)I"⟩
abbrev cX8_sets : ByteArray := prog_10_method_28_code
def yX8_sets : MethodName := ⟨RX8, "sets", "(ZII)I"⟩
abbrev cX8_age : ByteArray := prog_10_method_29_code
def yX8_age : MethodName := ⟨RX8, "age", "(II)I"⟩
abbrev cX8_wear : ByteArray := prog_10_method_30_code
def yX8_wear : MethodName := ⟨RX8, "wear", "(II)I"⟩
abbrev cX8_mend : ByteArray := prog_10_method_31_code
def yX8_mend : MethodName := ⟨RX8, "mend", "(I)I"⟩
abbrev cX8_rank : ByteArray := prog_10_method_32_code
def yX8_rank : MethodName := ⟨RX8, "rank", "(II)I"⟩
abbrev cX8_load : ByteArray := prog_10_method_33_code
def yX8_load : MethodName := ⟨RX8, "load", "(II)I"⟩
abbrev cX8_move : ByteArray := prog_10_method_34_code
def yX8_move : MethodName := ⟨RX8, "move", "(II)I"⟩
abbrev cX8_law : ByteArray := prog_10_method_35_code
def yX8_law : MethodName := ⟨RX8, "law", "(II)I"⟩
abbrev cX8_year : ByteArray := prog_10_method_36_code
def yX8_year : MethodName := ⟨RX8, "year", "()I"⟩
abbrev cX8_layFewest : ByteArray := prog_10_method_37_code
def yX8_layFewest : MethodName := ⟨RX8, "layFewest", "(II)V"⟩
abbrev cX8_hasClimb : ByteArray := prog_10_method_38_code
def yX8_hasClimb : MethodName := ⟨RX8, "hasClimb", "(II)Z"⟩
abbrev cX8_climbOn : ByteArray := prog_10_method_39_code
def yX8_climbOn : MethodName := ⟨RX8, "climbOn", "(II)I"⟩
abbrev cX8_climb : ByteArray := prog_10_method_40_code
def yX8_climb : MethodName := ⟨RX8, "climb", "(II)I"⟩
abbrev cX8_ways : ByteArray := prog_10_method_41_code
def yX8_ways : MethodName := ⟨RX8, "ways", "(I)I"⟩
abbrev cX8_wornOver : ByteArray := prog_10_method_42_code
def yX8_wornOver : MethodName := ⟨RX8, "wornOver", "(I)I"⟩
abbrev cX8_smooth : ByteArray := prog_10_method_43_code
def yX8_smooth : MethodName := ⟨RX8, "smooth", "(II)I"⟩
abbrev cX8_homesOn : ByteArray := prog_10_method_44_code
def yX8_homesOn : MethodName := ⟨RX8, "homesOn", "(I)I"⟩
abbrev cX8_homes : ByteArray := prog_10_method_45_code
def yX8_homes : MethodName := ⟨RX8, "homes", "()I"⟩
abbrev cX8_must : ByteArray := prog_10_method_46_code
def yX8_must : MethodName := ⟨RX8, "must", "(I)I"⟩
abbrev cX8_goes : ByteArray := prog_10_method_47_code
def yX8_goes : MethodName := ⟨RX8, "goes", "(II)Z"⟩
abbrev cX8_daysOn : ByteArray := prog_10_method_48_code
def yX8_daysOn : MethodName := ⟨RX8, "daysOn", "(II)I"⟩
abbrev cX8_copies : ByteArray := prog_10_method_49_code
def yX8_copies : MethodName := ⟨RX8, "copies", "(II)V"⟩
abbrev cX8_day : ByteArray := prog_10_method_50_code
def yX8_day : MethodName := ⟨RX8, "day", "(I)I"⟩
abbrev cX8_ahead : ByteArray := prog_10_method_51_code
def yX8_ahead : MethodName := ⟨RX8, "ahead", "(II)I"⟩
abbrev cX8_breaks : ByteArray := prog_10_method_52_code
def yX8_breaks : MethodName := ⟨RX8, "breaks", "(I)I"⟩
abbrev cX8_stuck : ByteArray := prog_10_method_53_code
def yX8_stuck : MethodName := ⟨RX8, "stuck", "(I)I"⟩
abbrev cX8_gap : ByteArray := prog_10_method_54_code
def yX8_gap : MethodName := ⟨RX8, "gap", "(I)I"⟩
abbrev cX8_legs : ByteArray := prog_10_method_55_code
def yX8_legs : MethodName := ⟨RX8, "legs", "(I)I"⟩
abbrev cX8_hold : ByteArray := prog_10_method_56_code
def yX8_hold : MethodName := ⟨RX8, "hold", "(I)I"⟩
abbrev cX8_bitsOf : ByteArray := prog_10_method_57_code
def yX8_bitsOf : MethodName := ⟨RX8, "bitsOf", "(I)I"⟩
abbrev cX8_best : ByteArray := prog_10_method_58_code
def yX8_best : MethodName := ⟨RX8, "best", "(I)I"⟩
abbrev cX8_laysFloors : ByteArray := prog_10_method_59_code
def yX8_laysFloors : MethodName := ⟨RX8, "laysFloors", "(I)Z"⟩
abbrev cX8_lodge : ByteArray := prog_10_method_60_code
def yX8_lodge : MethodName := ⟨RX8, "lodge", "(I)I"⟩
abbrev cX8_lowest : ByteArray := prog_10_method_61_code
def yX8_lowest : MethodName := ⟨RX8, "lowest", "(JJI)J"⟩
abbrev cX8_meanOf : ByteArray := prog_10_method_62_code
def yX8_meanOf : MethodName := ⟨RX8, "meanOf", "(III)J"⟩
abbrev cX8_odds : ByteArray := prog_10_method_63_code
def yX8_odds : MethodName := ⟨RX8, "odds", "(III)J"⟩
abbrev cX8_mean : ByteArray := prog_10_method_64_code
def yX8_mean : MethodName := ⟨RX8, "mean", "(II)J"⟩
abbrev cX8_see : ByteArray := prog_10_method_65_code
def yX8_see : MethodName := ⟨RX8, "see", "(II)I"⟩
abbrev cX8_forget : ByteArray := prog_10_method_66_code
def yX8_forget : MethodName := ⟨RX8, "forget", "(I)I"⟩
abbrev cX8_allFloors : ByteArray := prog_10_method_67_code
def yX8_allFloors : MethodName := ⟨RX8, "allFloors", "()I"⟩
abbrev cX8_floorOf : ByteArray := prog_10_method_68_code
def yX8_floorOf : MethodName := ⟨RX8, "floorOf", "(II)I"⟩
abbrev cX8_isAsSeen : ByteArray := prog_10_method_69_code
def yX8_isAsSeen : MethodName := ⟨RX8, "isAsSeen", "(I)Z"⟩
abbrev cX8_fits : ByteArray := prog_10_method_70_code
def yX8_fits : MethodName := ⟨RX8, "fits", "()I"⟩
abbrev cX8_floors : ByteArray := prog_10_method_71_code
def yX8_floors : MethodName := ⟨RX8, "floors", "(I)I"⟩
abbrev cX8_drift : ByteArray := prog_10_method_72_code
def yX8_drift : MethodName := ⟨RX8, "drift", "(III)I"⟩
abbrev cX8_keep : ByteArray := prog_10_method_73_code
def yX8_keep : MethodName := ⟨RX8, "keep", "(I)I"⟩
abbrev cX8_back : ByteArray := prog_10_method_74_code
def yX8_back : MethodName := ⟨RX8, "back", "(I)I"⟩
abbrev cX8_sheet : ByteArray := prog_10_method_75_code
def yX8_sheet : MethodName := ⟨RX8, "sheet", "(III)I"⟩
abbrev cX8_lay : ByteArray := prog_10_method_76_code
def yX8_lay : MethodName := ⟨RX8, "lay", "(III)I"⟩
abbrev cX8_read : ByteArray := prog_10_method_77_code
def yX8_read : MethodName := ⟨RX8, "read", "(IIII)I"⟩
abbrev cX8_torn : ByteArray := prog_10_method_78_code
def yX8_torn : MethodName := ⟨RX8, "torn", "()I"⟩
abbrev cX8_count : ByteArray := prog_10_method_79_code
def yX8_count : MethodName := ⟨RX8, "count", "(I)I"⟩
def RJx145de : String := "java/io/Serializable"
def RJx9f9b0 : String := "java/lang/CharSequence"
def RJxb160c : String := "java/lang/Comparable"
def RJ6 : String := "java/lang/Integer"
abbrev cJ6_numberOfTrailingZeros_0f7a4 : ByteArray := prog_11_method_48_code
def yJ6_numberOfTrailingZeros_0f7a4 : MethodName := ⟨RJ6, "numberOfTrailingZeros", "(I)I"⟩
abbrev cJ6_bitCount_0f7a4 : ByteArray := prog_11_method_49_code
def yJ6_bitCount_0f7a4 : MethodName := ⟨RJ6, "bitCount", "(I)I"⟩
def RJ9 : String := "java/lang/Math"
abbrev cJ9_abs_0f7a4 : ByteArray := prog_12_method_59_code
def yJ9_abs_0f7a4 : MethodName := ⟨RJ9, "abs", "(I)I"⟩
abbrev cJ9_max_7cf53 : ByteArray := prog_12_method_65_code
def yJ9_max_7cf53 : MethodName := ⟨RJ9, "max", "(II)I"⟩
abbrev cJ9_min_7cf53 : ByteArray := prog_12_method_69_code
def yJ9_min_7cf53 : MethodName := ⟨RJ9, "min", "(II)I"⟩
def RJ0 : String := "java/lang/String"
abbrev cJ0_length_8abf5 : ByteArray := prog_13_method_54_code
def yJ0_length_8abf5 : MethodName := ⟨RJ0, "length", "()I"⟩
abbrev cJ0_charAt_5068e : ByteArray := prog_13_method_56_code
def yJ0_charAt_5068e : MethodName := ⟨RJ0, "charAt", "(I)C"⟩
abbrev cJ0_coder_7d493 : ByteArray := prog_13_method_152_code
def yJ0_coder_7d493 : MethodName := ⟨RJ0, "coder", "()B"⟩
abbrev cJ0_isLatin1_aae02 : ByteArray := prog_13_method_154_code
def yJ0_isLatin1_aae02 : MethodName := ⟨RJ0, "isLatin1", "()Z"⟩
abbrev cJ0_checkIndex_df160 : ByteArray := prog_13_method_155_code
def yJ0_checkIndex_df160 : MethodName := ⟨RJ0, "checkIndex", "(II)V"⟩
def RJ1 : String := "java/lang/StringLatin1"
abbrev cJ1_charAt_3b067 : ByteArray := prog_14_method_2_code
def yJ1_charAt_3b067 : MethodName := ⟨RJ1, "charAt", "([BI)C"⟩
def RJ2 : String := "java/lang/StringUTF16"
abbrev cJ2_getChar_3b067 : ByteArray := prog_15_method_5_code
def yJ2_getChar_3b067 : MethodName := ⟨RJ2, "getChar", "([BI)C"⟩
abbrev cJ2_length_9d52b : ByteArray := prog_15_method_6_code
def yJ2_length_9d52b : MethodName := ⟨RJ2, "length", "([B)I"⟩
abbrev cJ2_charAt_3b067 : ByteArray := prog_15_method_83_code
def yJ2_charAt_3b067 : MethodName := ⟨RJ2, "charAt", "([BI)C"⟩
abbrev cJ2_checkIndex_2214a : ByteArray := prog_15_method_91_code
def yJ2_checkIndex_2214a : MethodName := ⟨RJ2, "checkIndex", "(I[B)V"⟩
def RJ10 : String := "java/lang/System"
def RJxfd54e : String := "java/lang/constant/Constable"
def RJx3cf43 : String := "java/lang/constant/ConstantDesc"
def RJ7 : String := "java/util/Arrays"
abbrev cJ7_fill_d0a16 : ByteArray := prog_17_method_101_code
def yJ7_fill_d0a16 : MethodName := ⟨RJ7, "fill", "([JJ)V"⟩
abbrev cJ7_fill_53178 : ByteArray := prog_17_method_103_code
def yJ7_fill_53178 : MethodName := ⟨RJ7, "fill", "([II)V"⟩
def RJ3 : String := "jdk/internal/util/Preconditions"
abbrev cJ3_checkIndex_8e157 : ByteArray := prog_18_method_11_code
def yJ3_checkIndex_8e157 : MethodName := ⟨RJ3, "checkIndex", "(IILjava/util/function/BiFunction;)I"⟩
def RL : String := "RankStairsLaw"
abbrev cL_law : ByteArray := code
def yL_law : MethodName := ⟨RL, "law", "([I)Z"⟩
abbrev vwCl : List vw_C := [(RX0, TX0, 2), (RX1, TX1, 2), (RX2, TX2, 7), (RX3, TX3, 6), (RX4, TX4, 12), (RX5, TX5, 3), (RX6, TX6, 10), (RX7, TX7, 11), (RX8, TX8, 35)]
end
section
/-! THE ABSTRACT MACHINE. Cells have numbers (0 .. 99): 0, 8, 16, 24, 32 the Houses now, trial, image 0, image 1, the dust's (each with its seven rows behind it); 40, 42, 44, 46 the Sheets (a row behind each); 48 RankStairs; 49 Tape .. ; 81 RankStairsModel .. (wip/gen_base.py has the list). -/
abbrev mMem : Type := (Nat → Nat → Int32) × (Nat → Nat → Int64)
abbrev mR : Type := Option (Option Value × mMem)
/-- a method: name, code, number of locals, type of the answer, depth of its calls -/
abbrev mMI : Type := MethodName × ByteArray × Nat × Option FieldType × Nat
abbrev mCx : Type := Program × Launch × Env × State × MethodId × Array Value × List Frame × Method × Code × (Nat → Nat) × (Nat → ClassId) × va_G × (Nat → Prop)
abbrev xp (X : mCx) : Program := X.1
abbrev xl (X : mCx) : Launch := X.2.1
abbrev xe (X : mCx) : Env := X.2.2.1
abbrev xs (X : mCx) : State := X.2.2.2.1
abbrev xm (X : mCx) : MethodId := X.2.2.2.2.1
abbrev xa (X : mCx) : Array Value := X.2.2.2.2.2.1
abbrev xb (X : mCx) : List Frame := X.2.2.2.2.2.2.1
abbrev xM (X : mCx) : Method := X.2.2.2.2.2.2.2.1
abbrev xc (X : mCx) : Code := X.2.2.2.2.2.2.2.2.1
abbrev xad (X : mCx) : Nat → Nat := X.2.2.2.2.2.2.2.2.2.1
abbrev xcA (X : mCx) : Nat → ClassId := X.2.2.2.2.2.2.2.2.2.2.1
abbrev xD (X : mCx) : va_G := X.2.2.2.2.2.2.2.2.2.2.2.1
abbrev xA (X : mCx) : Nat → Prop := X.2.2.2.2.2.2.2.2.2.2.2.2
def kdL : List (Nat × Nat) := [(4, 0), (10, 10), (10, 10), (10, 10), (10, 4), (10, 4), (10, 4), (10, 4), (4, 0), (10, 10), (10, 10), (10, 10), (10, 4), (10, 4), (10, 4), (10, 4), (4, 0), (10, 10), (10, 10), (10, 10), (10, 4), (10, 4), (10, 4), (10, 4), (4, 0), (10, 10), (10, 10), (10, 10), (10, 4), (10, 4), (10, 4), (10, 4), (4, 0), (10, 10), (10, 10), (10, 10), (10, 4), (10, 4), (10, 4), (10, 4), (5, 0), (10, 40), (5, 0), (10, 40), (5, 0), (10, 40), (5, 0), (10, 40), (7, 0), (6, 0), (9, 160), (10, 4), (13, 2), (12, 2), (1, 0), (10, 10), (10, 10), (3, 0), (10, 4), (10, 4), (10, 10), (10, 16), (0, 0), (11, 16), (11, 16), (2, 0), (10, 4), (10, 6), (10, 6), (15, 5), (10, 10), (10, 10), (10, 10), (10, 10), (10, 10), (15, 4), (10, 10), (10, 10), (10, 10), (10, 10), (14, 4), (8, 0), (10, 210), (10, 10), (10, 4), (10, 35), (10, 10), (10, 4), (10, 160), (10, 8), (10, 33), (10, 11), (10, 10), (10, 11), (10, 4), (10, 12), (12, 2), (10, 4), (10, 4), (10, 160)]
def kd (i : Nat) : Nat × Nat := kdL.getD i (99, 0)
def rfL : List (List Nat) := [[0, 0, 0, 0, 0, 1, 2, 3, 4, 5, 6, 7], [], [], [], [], [], [], [], [0, 0, 0, 0, 0, 9, 10, 11, 12, 13, 14, 15], [], [], [], [], [], [], [], [0, 0, 0, 0, 0, 17, 18, 19, 20, 21, 22, 23], [], [], [], [], [], [], [], [0, 0, 0, 0, 0, 25, 26, 27, 28, 29, 30, 31], [], [], [], [], [], [], [], [0, 0, 0, 0, 0, 33, 34, 35, 36, 37, 38, 39], [], [], [], [], [], [], [], [0, 41, 0], [], [0, 43, 0], [], [0, 45, 0], [], [0, 47, 0], [], [49, 0, 8, 52, 53, 54, 57, 62, 65, 80, 0], [0, 0, 0, 50, 51], [], [], [16, 24], [], [55, 56], [], [], [0, 0, 58, 59, 60, 61], [], [], [], [], [63, 64], [], [], [0, 66, 67, 68, 32, 69, 75], [], [], [], [70, 71, 72, 73, 74], [], [], [], [], [], [76, 77, 78, 79], [], [], [], [], [40, 42, 44, 46], [82, 83, 0, 84, 0, 0, 85, 86, 87, 0, 0, 0, 0, 88, 0, 0, 0, 0, 0, 0, 0, 0, 89, 90, 91, 92, 93, 94, 95, 0, 96, 97, 98, 99, 0], [], [], [], [], [], [], [], [], [], [], [], [], [], [], [], [], [], []]
def rf (i k : Nat) : Nat := (rfL.getD i []).getD k 0
def ftL : List (List Nat) := [[2, 2], [2, 2], [0, 2, 2, 2, 2, 2, 2], [0, 0, 2, 2, 2, 2], [0, 0, 0, 0, 0, 2, 2, 2, 2, 2, 2, 2], [0, 2, 0], [0, 0, 0, 2, 2, 0, 0, 0, 1, 1], [2, 2, 2, 2, 2, 2, 2, 2, 2, 2, 0], [2, 2, 0, 2, 0, 0, 2, 2, 2, 0, 0, 0, 0, 2, 0, 0, 0, 0, 0, 0, 0, 0, 2, 2, 2, 2, 2, 2, 2, 0, 2, 2, 2, 2, 0]]
def ft (c k : Nat) : Nat := (ftL.getD c []).getD k 0
def nfc (c : Nat) : Nat := match vwCl[c]? with
  | some r => r.2.2
  | none => 0
def fv (ad : Nat → Nat) (c i k : Nat) (x : Nat → Int32) : Value := if ft c k = 2 then .ref (ad (rf i k)) else .int (x k)
def fsOf (ad : Nat → Nat) (c i : Nat) (x : Nat → Int32) : List Value := (List.range (nfc c)).map (fun k => fv ad c i k x)
def cellOf (ad : Nat → Nat) (cA : Nat → ClassId) (i : Nat) (x : Nat → Int32) (y : Nat → Int64) : va_E :=
  if (kd i).1 < 9 then .inr ((kd i).1, fsOf ad (kd i).1 i x)
  else if (kd i).1 = 11 then .inl (cA 11, (kd i).2, .inr (.inl y))
  else if 13 ≤ (kd i).1 then .inl (cA (kd i).1, (kd i).2, .inr (.inr (.inr (.inr (fun j => some (ad (rf i j)))))))
  else .inl (cA (kd i).1, (kd i).2, .inl x)
def wsOf (ad : Nat → Nat) (cA : Nat → ClassId) (μ : mMem) : va_W := (List.range 100).map (fun i => (ad i, cellOf ad cA i (μ.1 i) (μ.2 i)))
def tysOf (cA : Nat → ClassId) : List (ClassId × FieldType) := [(cA 9, .byte), (cA 10, .int), (cA 11, .long), (cA 12, .boolean), (cA 13, .object RX4), (cA 14, .object RX5), (cA 15, .array .int)]
def cz (ad : Nat → Nat) (v : Value) : Value := match v with
  | .ref a => .ref (ad a)
  | v => v
def czl (ad : Nat → Nat) (q : Nat × Value) : Nat × Value := (q.1, cz ad q.2)
def rmOf (d : Nat) : Room := { frames := d, cells := 0, slots := 0, locals := 100 * d }
def gdL : List Cond := lw_tbl.filter goodWord
theorem gd_mem {w : Cond} (i : Nat) (h : lw_tbl[i]? = some w) (hg : goodWord w = true) : w ∈ gdL := List.mem_filter.mpr ⟨List.mem_of_getElem? h, hg⟩
theorem gd_good {w : Cond} (h : w ∈ gdL) : (w.onTables && w.keeps) = true ∨ ∃ ty, w = .arrayClass ty := good_of_word (List.mem_filter.mp h).2
def wsM (q : mMI) : List Cond := .code q.1 q.2.1 q.2.2.1 q.2.2.2.1 :: gdL
def tNum (l : List Int32) (j : Nat) : Value := .int (l.getD j 0)
def tb114 : List Int32 := [2, 2, 2, 2, 4, 1, 1]
def tb115 : List Int32 := [0, 0, 0, 0, 0, 0, 0, 0, 0, 0, 0, 0, 0, 0, 0, 0, 1, 0, 0, 0, 0, 0, 0, 0, 1, 0, 0, 0]
def tb116 : List Int32 := [60, 99, 0, 0, 60, 99, 0, 0, 60, 99, 0, 0, 60, 99, 0, 0, 4, 3, 9, 9, 3, 0, 0, 0, 99, 0, 0, 0]
def sIdx : List Nat := [134, 136, 138, 140, 142, 144, 146]
def sTx : List String := ["wood", "stone", "iron", "landing", "lodger", "gap", "hold"]
def sLen : List Nat := [4, 5, 4, 7, 6, 3, 4]
def sByt : List (List Int32) := [[119, 111, 111, 100], [115, 116, 111, 110, 101], [105, 114, 111, 110], [108, 97, 110, 100, 105, 110, 103], [108, 111, 100, 103, 101, 114], [103, 97, 112], [104, 111, 108, 100]]
def ZT (ad : Nat → Nat) (A : Nat → Prop) (U : State) (H : Heap) (z N : Nat) (nm : String) (tb : List Int32) : Prop := va_Z "RankStairs$Tape" nm "[I" (.ref (ad z)) A U H ∧ va_T .int (ad z) N (fun j => .int (tb.getD j 0)) A U H
def ZQ (ad : Nat → Nat) (A : Nat → Prop) (U : State) (H : Heap) : Prop := va_Z "jdk/internal/util/Preconditions" "SIOOBE_FORMATTER" "Ljava/util/function/BiFunction;" .null A U H ∨ va_Z "jdk/internal/util/Preconditions" "SIOOBE_FORMATTER" "Ljava/util/function/BiFunction;" (.ref (ad 117)) A U H
theorem ZQ.moved {ad : Nat → Nat} {A : Nat → Prop} {s U : State} {H : Heap} (hW : s.vm.Alike U.vm) (h : ZQ ad A s H) : ZQ ad A U H := h.imp (va_Z.moved hW) (va_Z.moved hW)
theorem ZQ.kept {ad : Nat → Nat} {A : Nat → Prop} {U : State} {H H1 : Heap} (h : ZQ ad A U H) (hq : ∀ a : Nat, a < H.size → ¬ A a → H1[a]? = H[a]?) : ZQ ad A U H1 := h.imp (fun h => h.kept hq) (fun h => h.kept hq)
theorem ZQ.narrow {ad : Nat → Nat} {A B : Nat → Prop} {U : State} {H : Heap} (h : ZQ ad A U H) (hAB : ∀ q, B q → A q) : ZQ ad B U H := h.imp (fun h => h.narrow hAB) (fun h => h.narrow hAB)
/-- static arrays (cells 114 to 116) and String constants (cells 100 to 106, their bytes 107 to 113), which nobody writes -/
def ZS (ad : Nat → Nat) (A : Nat → Prop) (U : State) (H : Heap) : Prop :=
  ZT ad A U H 114 7 "NUMBERS" tb114 ∧ ZT ad A U H 115 28 "LEAST" tb115 ∧ ZT ad A U H 116 28 "MOST" tb116 ∧ va_Z "java/lang/String" "COMPACT_STRINGS" "Z" (.int 1) A U H ∧ ZQ ad A U H ∧ vk_S 7 sLen sByt (fun i => ad (100 + i)) (fun i => ad (107 + i)) A U H ∧ ∀ i, i < 7 → vk_R "RankStairs$Tape" (sIdx.getD i 0) (sTx.getD i "") (ad (100 + i)) U
theorem ZT.moved {ad : Nat → Nat} {A : Nat → Prop} {s U : State} {H : Heap} {z N : Nat} {nm : String} {tb : List Int32} (hW : s.vm.Alike U.vm) (h : ZT ad A s H z N nm tb) : ZT ad A U H z N nm tb := ⟨va_Z.moved hW h.1, va_T.moved hW h.2⟩
theorem ZT.kept {ad : Nat → Nat} {A : Nat → Prop} {U : State} {H H1 : Heap} {z N : Nat} {nm : String} {tb : List Int32} (h : ZT ad A U H z N nm tb) (hq : ∀ a : Nat, a < H.size → ¬ A a → H1[a]? = H[a]?) : ZT ad A U H1 z N nm tb := ⟨h.1.kept hq, h.2.kept hq⟩
theorem ZT.narrow {ad : Nat → Nat} {A B : Nat → Prop} {U : State} {H : Heap} {z N : Nat} {nm : String} {tb : List Int32} (h : ZT ad A U H z N nm tb) (hAB : ∀ q, B q → A q) : ZT ad B U H z N nm tb := ⟨h.1.narrow hAB, h.2.narrow hAB⟩
theorem ZS.warm {ad : Nat → Nat} {A : Nat → Prop} {s U : State} {H : Heap} (hW : s.WarmedH U.vm) (h : ZS ad A s H) : ZS ad A U H := ⟨h.1.moved hW.alike, h.2.1.moved hW.alike, h.2.2.1.moved hW.alike, va_Z.moved hW.alike h.2.2.2.1, ZQ.moved hW.alike h.2.2.2.2.1, vk_S.moved hW.alike h.2.2.2.2.2.1, fun i hi => vk_R.warm hW (h.2.2.2.2.2.2 i hi)⟩
theorem ZS.same {ad : Nat → Nat} {A : Nat → Prop} {s U : State} {H : Heap} (hW : U.vm = s.vm) (h : ZS ad A s H) : ZS ad A U H := by
  have hv : s.vm.Alike U.vm := by rw [hW]; exact Vm.Alike.refl _
  exact ⟨h.1.moved hv, h.2.1.moved hv, h.2.2.1.moved hv, va_Z.moved hv h.2.2.2.1, ZQ.moved hv h.2.2.2.2.1, vk_S.moved hv h.2.2.2.2.2.1, fun i hi => vk_R.same hW (h.2.2.2.2.2.2 i hi)⟩
theorem ZS.kept {ad : Nat → Nat} {A : Nat → Prop} {U : State} {H H1 : Heap} (h : ZS ad A U H) (hq : ∀ a : Nat, a < H.size → ¬ A a → H1[a]? = H[a]?) : ZS ad A U H1 := ⟨h.1.kept hq, h.2.1.kept hq, h.2.2.1.kept hq, h.2.2.2.1.kept hq, h.2.2.2.2.1.kept hq, h.2.2.2.2.2.1.kept hq, h.2.2.2.2.2.2⟩
theorem ZS.narrow {ad : Nat → Nat} {A B : Nat → Prop} {U : State} {H : Heap} (h : ZS ad A U H) (hAB : ∀ q, B q → A q) : ZS ad B U H := ⟨h.1.narrow hAB, h.2.1.narrow hAB, h.2.2.1.narrow hAB, h.2.2.2.1.narrow hAB, h.2.2.2.2.1.narrow hAB, h.2.2.2.2.2.1.narrow hAB, h.2.2.2.2.2.2⟩
def mInj (ad : Nat → Nat) : Prop := ∀ i j, i < 100 → j < 100 → ad i = ad j → i = j
def Good (q : mMI) (X : mCx) : Prop :=
  (xp X).tables.exec = Jvm.exec ∧ (xc X).code = q.2.1 ∧ (xc X).maxLocals = q.2.2.1 ∧ (xM X).sig.returnType = q.2.2.2.1 ∧ (xM X).locks = false ∧ (xs X).vm.findClass q.1.cls = some (xm X).cls ∧ (∀ w ∈ gdL, w.before (xa X) (xs X) = true) ∧ va_K (xD X) vwCl (tysOf (xcA X)) (xs X) ∧ mInj (xad X) ∧ (∀ i, i < 100 → xA X (xad X i)) ∧ (∀ z, (xs X).heap.size ≤ z → xA X z) ∧ ZS (xad X) (xA X) (xs X) (xs X).heap
def Qb (ad : Nat → Nat) (cA : Nat → ClassId) (D : va_G) (A : Nat → Prop) (v : Option Value) (μ' : mMem) : Array Value → State → Outcome → State → Prop := fun _ st oc t => oc = .returned (v.map (cz ad)) ∧ va_P D vwCl (wsOf ad cA μ') t.heap ∧ va_F A st t
/-- from here the method comes to its end with the answer and the memory of tgt (if that is some) -/
def T (q : mMI) (X : mCx) (tgt : mR) (pc : Nat) (lv : List (Nat × Value)) (st : List Value) (μ : mMem) : Prop :=
  Good q X → ∀ (v : Option Value) (μ' : mMem), tgt = some (v, μ') → ∀ (H : Heap) (locs : List Loc) (ls : Array Slot), va_P (xD X) vwCl (wsOf (xad X) (xcA X) μ) H → va_S (xA X) (xs X).heap H locs → lv_has ls q.2.2.1 (lv.map (czl (xad X))) →
    W (xp X) (xl X) (xe X) (rmOf q.2.2.2.2) (xs X) (xm X) (xa X) (xb X) (xM X) (xc X) H locs 0 0 (MQ (xb X) (Qb (xad X) (xcA X) (xD X) (xA X) v μ') (xa X) (xs X) 0 0 (xA X)) (F0 (xm X) pc ls (st.map (cz (xad X))))
def AA (ad : Nat → Nat) (sz : Nat) (z : Nat) : Prop := (∃ i, i < 100 ∧ ad i = z) ∨ sz ≤ z
def PreW (ad : Nat → Nat) (cA : Nat → ClassId) (D : va_G) (μ : mMem) (sz : Nat) (U : State) : Prop := U.heap.size = sz ∧ va_P D vwCl (wsOf ad cA μ) U.heap ∧ va_K D vwCl (tysOf cA) U ∧ mInj ad ∧ ZS ad (AA ad sz) U U.heap
/-- the contract: with these arguments and this memory the method comes to the answer and the memory of tgt -/
def BS (l : Launch) (q : mMI) (av : List Value) (μ : mMem) (tgt : mR) : Prop :=
  ∀ (v : Option Value) (μ' : mMem), tgt = some (v, μ') → ∀ (D : va_G) (ad : Nat → Nat) (cA : Nat → ClassId) (sz : Nat),
    Met l q.1 (wsM q) (rmOf q.2.2.2.2) (va_Pc (av.map (cz ad)) (PreW ad cA D μ sz)) (Qb ad cA D (AA ad sz) v μ') 0 0 (AA ad sz)

theorem kd_lt {i c n : Nat} (h : kd i = (c, n)) (hc : c < 99) : i < 100 := by
  rcases Nat.lt_or_ge i 100 with q | q
  · exact q
  · exfalso
    have h1 : kd i = (99, 0) := by
      unfold kd
      have h2 : kdL[i]? = none := List.getElem?_eq_none (by show kdL.length ≤ i; exact q)
      simp [List.getD, h2]
    rw [h1] at h
    have h3 : (99 : Nat) = c := congrArg Prod.fst h
    omega
theorem ws_at {ad : Nat → Nat} {cA : Nat → ClassId} {μ : mMem} {i : Nat} (h : i < 100) : (wsOf ad cA μ)[i]? = some (ad i, cellOf ad cA i (μ.1 i) (μ.2 i)) := by
  unfold wsOf
  rw [List.getElem?_map, List.getElem?_range h]
  rfl
theorem ws_len {ad : Nat → Nat} {cA : Nat → ClassId} {μ : mMem} : (wsOf ad cA μ).length = 100 := by
  unfold wsOf
  rw [List.length_map, List.length_range]
theorem ws_get {ad : Nat → Nat} {cA : Nat → ClassId} {μ : mMem} {i : Nat} {x : Nat × va_E} (h : (wsOf ad cA μ)[i]? = some x) : i < 100 ∧ x = (ad i, cellOf ad cA i (μ.1 i) (μ.2 i)) := by
  have hi : i < 100 := by
    have := (List.getElem?_eq_some_iff.mp h).1
    rw [ws_len] at this
    exact this
  rw [ws_at hi] at h
  exact ⟨hi, (Option.some.inj h).symm⟩
theorem ws_D {ad : Nat → Nat} {cA : Nat → ClassId} {μ : mMem} {A : Nat → Prop} (hj : mInj ad) (hA : ∀ i, i < 100 → A (ad i)) : va_D A (wsOf ad cA μ) := by
  refine ⟨fun i j x y hi hj' hxy => ?_, fun k x hx => ?_⟩
  · obtain ⟨h1, rfl⟩ := ws_get hi
    obtain ⟨h2, rfl⟩ := ws_get hj'
    exact hj i j h1 h2 hxy
  · obtain ⟨h1, rfl⟩ := ws_get hx
    exact hA k h1
theorem ws_set {ad : Nat → Nat} {cA : Nat → ClassId} {μ μ' : mMem} {i : Nat} {E : va_E} (hi : i < 100) (hE : cellOf ad cA i (μ'.1 i) (μ'.2 i) = E) (ho : ∀ j, j ≠ i → μ'.1 j = μ.1 j ∧ μ'.2 j = μ.2 j) : (wsOf ad cA μ).set i (ad i, E) = wsOf ad cA μ' := by
  apply List.ext_getElem?
  intro j
  rw [List.getElem?_set]
  by_cases hj : i = j
  · subst hj
    rw [if_pos rfl, ws_len, if_pos hi, ws_at hi, hE]
  · rw [if_neg hj]
    by_cases h : j < 100
    · rw [ws_at h, ws_at h, (ho j (fun q => hj q.symm)).1, (ho j (fun q => hj q.symm)).2]
    · rw [List.getElem?_eq_none (by rw [ws_len]; omega), List.getElem?_eq_none (by rw [ws_len]; omega)]
/-- memory, written -/
def si (μ : mMem) (b k : Nat) (x : Int32) : mMem := (fun i => if i = b then upd (μ.1 i) k x else μ.1 i, μ.2)
def sl (μ : mMem) (b k : Nat) (x : Int64) : mMem := (μ.1, fun i => if i = b then vp_updL (μ.2 i) k x else μ.2 i)
def ci (μ : mMem) (a b sp dp n : Nat) : mMem := (fun i => if i = b then va_cpy (μ.1 a) (μ.1 i) sp dp n else μ.1 i, μ.2)
def cl (μ : mMem) (a b sp dp n : Nat) : mMem := (μ.1, fun i => if i = b then va_cpy (μ.2 a) (μ.2 i) sp dp n else μ.2 i)
theorem cell_obj {ad : Nat → Nat} {cA : Nat → ClassId} {i c n : Nat} {x : Nat → Int32} {y : Nat → Int64} (h : kd i = (c, n)) (hc : c < 9) : cellOf ad cA i x y = .inr (c, fsOf ad c i x) := by
  unfold cellOf
  rw [h, if_pos hc]
theorem cell_int {ad : Nat → Nat} {cA : Nat → ClassId} {i c n : Nat} {x : Nat → Int32} {y : Nat → Int64} (h : kd i = (c, n)) (hc : c = 9 ∨ c = 10 ∨ c = 12) : cellOf ad cA i x y = .inl (cA c, n, .inl x) := by
  unfold cellOf
  rw [h]
  rcases hc with rfl | rfl | rfl <;> rfl
theorem cell_long {ad : Nat → Nat} {cA : Nat → ClassId} {i n : Nat} {x : Nat → Int32} {y : Nat → Int64} (h : kd i = (11, n)) : cellOf ad cA i x y = .inl (cA 11, n, .inr (.inl y)) := by
  unfold cellOf
  rw [h]
  rfl
theorem cell_ref {ad : Nat → Nat} {cA : Nat → ClassId} {i c n : Nat} {x : Nat → Int32} {y : Nat → Int64} (h : kd i = (c, n)) (hc : 13 ≤ c) : cellOf ad cA i x y = .inl (cA c, n, .inr (.inr (.inr (.inr (fun j => some (ad (rf i j))))))) := by
  unfold cellOf
  rw [h, if_neg (by show ¬ c < 9; omega), if_neg (by show ¬ c = 11; omega), if_pos hc]
theorem cz_cat (ad : Nat → Nat) (v : Value) : (cz ad v).category = v.category := by
  cases v <;> rfl
theorem lv_fm (ad : Nat → Nat) (P : Nat → Nat → Bool) (lv : List (Nat × Value)) : (lv.map (czl ad)).filter (fun q => P q.1 q.2.category) = (lv.filter (fun q => P q.1 q.2.category)).map (czl ad) := by
  induction lv with
  | nil => rfl
  | cons a t ih =>
    simp only [List.map_cons, List.filter_cons]
    have e : P (czl ad a).1 (czl ad a).2.category = P a.1 a.2.category := by
      show P a.1 (cz ad a.2).category = _
      rw [cz_cat]
    rw [e]
    cases P a.1 a.2.category
    · simpa using ih
    · simpa using ih
theorem lv_gm {ad : Nat → Nat} {lv : List (Nat × Value)} {k i : Nat} {v : Value} (h : lv[k]? = some (i, v)) : (lv.map (czl ad))[k]? = some (i, cz ad v) := by
  rw [List.getElem?_map, h]
  rfl
theorem lv_pm (ad : Nat → Nat) (lv : List (Nat × Value)) (ks : List Nat) : lv_pick (lv.map (czl ad)) ks = (lv_pick lv ks).map (czl ad) := by
  unfold lv_pick
  induction ks with
  | nil => rfl
  | cons k t ih =>
    simp only [List.filterMap_cons, List.getElem?_map]
    cases lv[k]? with
    | none => simpa [List.getElem?_map] using ih
    | some a => simpa [List.getElem?_map] using ih
theorem lv_am (ad : Nat → Nat) (vs : List Value) : ∀ i, lv_args i (vs.map (cz ad)) = (lv_args i vs).map (czl ad) := by
  induction vs with
  | nil => intro i; rfl
  | cons v t ih =>
    intro i
    simp only [List.map_cons, lv_args]
    rw [cz_cat, ih]
    rfl
theorem ls_am (ad : Nat → Nat) (vs : List Value) : (lg_sl (vs.map (cz ad))).length = (lg_sl vs).length := by
  unfold lg_sl
  induction vs with
  | nil => rfl
  | cons v t ih =>
    simp only [List.map_cons, List.flatMap_cons, List.length_append, ih, cz_cat]
    by_cases h : v.category = 2 <;> simp [h]
theorem T_none {q : mMI} {X : mCx} {pc : Nat} {lv : List (Nat × Value)} {st : List Value} {μ : mMem} : T q X none pc lv st μ := fun _ _ _ h => by cases h
theorem T_sub {q : mMI} {X : mCx} {tgt : mR} {pc : Nat} {lv lv' : List (Nat × Value)} {st : List Value} {μ : mMem} (ks : List Nat) (hl : lv_pick lv ks = lv') (h : T q X tgt pc lv' st μ) : T q X tgt pc lv st μ :=
  fun hG v μ' ht H locs ls hP hS hlv => h hG v μ' ht H locs ls hP hS (lv_sub hlv ks (by rw [lv_pm, hl]))
theorem T_ite {q : mMI} {X : mCx} {a b : mR} {pc : Nat} {lv : List (Nat × Value)} {st : List Value} {μ : mMem} {c : Prop} {dc : Decidable c} (h1 : c → T q X a pc lv st μ) (h2 : ¬ c → T q X b pc lv st μ) : T q X (@ite mR c dc a b) pc lv st μ := by
  by_cases h : c
  · rw [if_pos h]
    exact h1 h
  · rw [if_neg h]
    exact h2 h
/-- a guard -/
def gd (c : Prop) (r : mR) (dc : Decidable c) : mR := @ite mR c dc r none
/-- loops: k is the way back to the head -/
def lp {σ : Type} (body : (σ → mR) → σ → mR) : Nat → σ → mR
  | 0, _ => none
  | n + 1, s => body (lp body n) s
theorem T_lp {σ : Type} {body : (σ → mR) → σ → mR} {q : mMI} {X : mCx} {pc : Nat} {lv : σ → List (Nat × Value)} {st : σ → List Value} {μ : σ → mMem} (h : ∀ k : σ → mR, (∀ s, T q X (k s) pc (lv s) (st s) (μ s)) → ∀ s, T q X (body k s) pc (lv s) (st s) (μ s)) : ∀ (n : Nat) (s : σ), T q X (lp body n s) pc (lv s) (st s) (μ s)
  | 0, _ => T_none
  | n + 1, s => h (lp body n) (T_lp h n) s

theorem T_iadd {q : mMI} {X : mCx} {tgt : mR} {pc : Nat} {lv : List (Nat × Value)} {st : List Value} {μ : mMem} {x y : Int32} (hd : decode q.2.1 pc = .ok (.iadd, 1)) (h : T q X tgt (pc + 1) lv (.int (x + y) :: st) μ) : T q X tgt pc lv (.int y :: .int x :: st) μ :=
  fun hG v μ' ht H locs ls hP hS hl => lv_iadd hG.1 hG.2.1 hd (h hG v μ' ht H locs ls hP hS hl)
theorem T_isub {q : mMI} {X : mCx} {tgt : mR} {pc : Nat} {lv : List (Nat × Value)} {st : List Value} {μ : mMem} {x y : Int32} (hd : decode q.2.1 pc = .ok (.isub, 1)) (h : T q X tgt (pc + 1) lv (.int (x - y) :: st) μ) : T q X tgt pc lv (.int y :: .int x :: st) μ :=
  fun hG v μ' ht H locs ls hP hS hl => lv_isub hG.1 hG.2.1 hd (h hG v μ' ht H locs ls hP hS hl)
theorem T_imul {q : mMI} {X : mCx} {tgt : mR} {pc : Nat} {lv : List (Nat × Value)} {st : List Value} {μ : mMem} {x y : Int32} (hd : decode q.2.1 pc = .ok (.imul, 1)) (h : T q X tgt (pc + 1) lv (.int (x * y) :: st) μ) : T q X tgt pc lv (.int y :: .int x :: st) μ :=
  fun hG v μ' ht H locs ls hP hS hl => lv_imul hG.1 hG.2.1 hd (h hG v μ' ht H locs ls hP hS hl)
theorem T_iand {q : mMI} {X : mCx} {tgt : mR} {pc : Nat} {lv : List (Nat × Value)} {st : List Value} {μ : mMem} {x y : Int32} (hd : decode q.2.1 pc = .ok (.iand, 1)) (h : T q X tgt (pc + 1) lv (.int (x &&& y) :: st) μ) : T q X tgt pc lv (.int y :: .int x :: st) μ :=
  fun hG v μ' ht H locs ls hP hS hl => lv_iand hG.1 hG.2.1 hd (h hG v μ' ht H locs ls hP hS hl)
theorem T_ior {q : mMI} {X : mCx} {tgt : mR} {pc : Nat} {lv : List (Nat × Value)} {st : List Value} {μ : mMem} {x y : Int32} (hd : decode q.2.1 pc = .ok (.ior, 1)) (h : T q X tgt (pc + 1) lv (.int (x ||| y) :: st) μ) : T q X tgt pc lv (.int y :: .int x :: st) μ :=
  fun hG v μ' ht H locs ls hP hS hl => lv_ior hG.1 hG.2.1 hd (h hG v μ' ht H locs ls hP hS hl)
theorem T_ixor {q : mMI} {X : mCx} {tgt : mR} {pc : Nat} {lv : List (Nat × Value)} {st : List Value} {μ : mMem} {x y : Int32} (hd : decode q.2.1 pc = .ok (.ixor, 1)) (h : T q X tgt (pc + 1) lv (.int (x ^^^ y) :: st) μ) : T q X tgt pc lv (.int y :: .int x :: st) μ :=
  fun hG v μ' ht H locs ls hP hS hl => lv_ixor hG.1 hG.2.1 hd (h hG v μ' ht H locs ls hP hS hl)
theorem T_ishl {q : mMI} {X : mCx} {tgt : mR} {pc : Nat} {lv : List (Nat × Value)} {st : List Value} {μ : mMem} {x y : Int32} (hd : decode q.2.1 pc = .ok (.ishl, 1)) (h : T q X tgt (pc + 1) lv (.int (x <<< (y &&& 31)) :: st) μ) : T q X tgt pc lv (.int y :: .int x :: st) μ :=
  fun hG v μ' ht H locs ls hP hS hl => lv_ishl hG.1 hG.2.1 hd (h hG v μ' ht H locs ls hP hS hl)
theorem T_ishr {q : mMI} {X : mCx} {tgt : mR} {pc : Nat} {lv : List (Nat × Value)} {st : List Value} {μ : mMem} {x y : Int32} (hd : decode q.2.1 pc = .ok (.ishr, 1)) (h : T q X tgt (pc + 1) lv (.int (x >>> (y &&& 31)) :: st) μ) : T q X tgt pc lv (.int y :: .int x :: st) μ :=
  fun hG v μ' ht H locs ls hP hS hl => lv_ishr hG.1 hG.2.1 hd (h hG v μ' ht H locs ls hP hS hl)
theorem T_iushr {q : mMI} {X : mCx} {tgt : mR} {pc : Nat} {lv : List (Nat × Value)} {st : List Value} {μ : mMem} {x y : Int32} (hd : decode q.2.1 pc = .ok (.iushr, 1)) (h : T q X tgt (pc + 1) lv (.int ((x.toUInt32 >>> (y.toUInt32 &&& Int32.toUInt32 31)).toInt32) :: st) μ) : T q X tgt pc lv (.int y :: .int x :: st) μ :=
  fun hG v μ' ht H locs ls hP hS hl => lv_iushr hG.1 hG.2.1 hd rfl (h hG v μ' ht H locs ls hP hS hl)
theorem T_ineg {q : mMI} {X : mCx} {tgt : mR} {pc : Nat} {lv : List (Nat × Value)} {st : List Value} {μ : mMem} {x : Int32} (hd : decode q.2.1 pc = .ok (.ineg, 1)) (h : T q X tgt (pc + 1) lv (.int (-x) :: st) μ) : T q X tgt pc lv (.int x :: st) μ :=
  fun hG v μ' ht H locs ls hP hS hl => lv_ineg hG.1 hG.2.1 hd (h hG v μ' ht H locs ls hP hS hl)
theorem T_ladd {q : mMI} {X : mCx} {tgt : mR} {pc : Nat} {lv : List (Nat × Value)} {st : List Value} {μ : mMem} {x y : Int64} (hd : decode q.2.1 pc = .ok (.ladd, 1)) (h : T q X tgt (pc + 1) lv (.long (x + y) :: st) μ) : T q X tgt pc lv (.long y :: .long x :: st) μ :=
  fun hG v μ' ht H locs ls hP hS hl => lv_ladd hG.1 hG.2.1 hd (h hG v μ' ht H locs ls hP hS hl)
theorem T_lsub {q : mMI} {X : mCx} {tgt : mR} {pc : Nat} {lv : List (Nat × Value)} {st : List Value} {μ : mMem} {x y : Int64} (hd : decode q.2.1 pc = .ok (.lsub, 1)) (h : T q X tgt (pc + 1) lv (.long (x - y) :: st) μ) : T q X tgt pc lv (.long y :: .long x :: st) μ :=
  fun hG v μ' ht H locs ls hP hS hl => lv_lsub hG.1 hG.2.1 hd (h hG v μ' ht H locs ls hP hS hl)
theorem T_lmul {q : mMI} {X : mCx} {tgt : mR} {pc : Nat} {lv : List (Nat × Value)} {st : List Value} {μ : mMem} {x y : Int64} (hd : decode q.2.1 pc = .ok (.lmul, 1)) (h : T q X tgt (pc + 1) lv (.long (x * y) :: st) μ) : T q X tgt pc lv (.long y :: .long x :: st) μ :=
  fun hG v μ' ht H locs ls hP hS hl => lv_lmul hG.1 hG.2.1 hd (h hG v μ' ht H locs ls hP hS hl)
theorem T_lcmp {q : mMI} {X : mCx} {tgt : mR} {pc : Nat} {lv : List (Nat × Value)} {st : List Value} {μ : mMem} {x y : Int64} (hd : decode q.2.1 pc = .ok (.lcmp, 1)) (h : T q X tgt (pc + 1) lv (.int (lg_cmp x y) :: st) μ) : T q X tgt pc lv (.long y :: .long x :: st) μ :=
  fun hG v μ' ht H locs ls hP hS hl => W.lcmp hG.1 hG.2.1 hd (h hG v μ' ht H locs ls hP hS hl)
theorem T_i2l {q : mMI} {X : mCx} {tgt : mR} {pc : Nat} {lv : List (Nat × Value)} {st : List Value} {μ : mMem} {x : Int32} (hd : decode q.2.1 pc = .ok (.i2l, 1)) (h : T q X tgt (pc + 1) lv (.long x.toInt64 :: st) μ) : T q X tgt pc lv (.int x :: st) μ :=
  fun hG v μ' ht H locs ls hP hS hl => lv_i2l hG.1 hG.2.1 hd rfl (h hG v μ' ht H locs ls hP hS hl)
theorem T_i2b {q : mMI} {X : mCx} {tgt : mR} {pc : Nat} {lv : List (Nat × Value)} {st : List Value} {μ : mMem} {x : Int32} (hd : decode q.2.1 pc = .ok (.i2b, 1)) (h : T q X tgt (pc + 1) lv (.int x.toInt8.toInt32 :: st) μ) : T q X tgt pc lv (.int x :: st) μ :=
  fun hG v μ' ht H locs ls hP hS hl => lv_i2b hG.1 hG.2.1 hd rfl (h hG v μ' ht H locs ls hP hS hl)
theorem T_i2s {q : mMI} {X : mCx} {tgt : mR} {pc : Nat} {lv : List (Nat × Value)} {st : List Value} {μ : mMem} {x : Int32} (hd : decode q.2.1 pc = .ok (.i2s, 1)) (h : T q X tgt (pc + 1) lv (.int x.toInt16.toInt32 :: st) μ) : T q X tgt pc lv (.int x :: st) μ :=
  fun hG v μ' ht H locs ls hP hS hl => lv_i2s hG.1 hG.2.1 hd rfl (h hG v μ' ht H locs ls hP hS hl)
theorem T_dup {q : mMI} {X : mCx} {tgt : mR} {pc : Nat} {lv : List (Nat × Value)} {st : List Value} {μ : mMem} {x : Value} (hc : x.category = 1) (hd : decode q.2.1 pc = .ok (.dup, 1)) (h : T q X tgt (pc + 1) lv (x :: x :: st) μ) : T q X tgt pc lv (x :: st) μ :=
  fun hG v μ' ht H locs ls hP hS hl => lv_dup hG.1 hG.2.1 hd (by rw [cz_cat]; exact hc) (h hG v μ' ht H locs ls hP hS hl)
theorem T_pop {q : mMI} {X : mCx} {tgt : mR} {pc : Nat} {lv : List (Nat × Value)} {st : List Value} {μ : mMem} {x : Value} (hc : x.category = 1) (hd : decode q.2.1 pc = .ok (.pop, 1)) (h : T q X tgt (pc + 1) lv (st) μ) : T q X tgt pc lv (x :: st) μ :=
  fun hG v μ' ht H locs ls hP hS hl => lv_pop hG.1 hG.2.1 hd (by rw [cz_cat]; exact hc) (h hG v μ' ht H locs ls hP hS hl)
theorem T_idiv {q : mMI} {X : mCx} {tgt : mR} {pc : Nat} {lv : List (Nat × Value)} {st : List Value} {μ : mMem} {x y : Int32} (hd : decode q.2.1 pc = .ok (.idiv, 1)) {dc : Decidable (¬ y = 0)} (h : T q X tgt (pc + 1) lv (.int (x / y) :: st) μ) : T q X (gd (¬ y = 0) tgt dc) pc lv (.int y :: .int x :: st) μ := by
  unfold gd
  refine T_ite (fun hc => ?_) (fun _ => T_none)
  exact fun hG v μ' ht H locs ls hP hS hl => lv_idiv hG.1 hG.2.1 hd hc (h hG v μ' ht H locs ls hP hS hl)
theorem T_irem {q : mMI} {X : mCx} {tgt : mR} {pc : Nat} {lv : List (Nat × Value)} {st : List Value} {μ : mMem} {x y : Int32} (hd : decode q.2.1 pc = .ok (.irem, 1)) {dc : Decidable (¬ y = 0)} (h : T q X tgt (pc + 1) lv (.int (x - x / y * y) :: st) μ) : T q X (gd (¬ y = 0) tgt dc) pc lv (.int y :: .int x :: st) μ := by
  unfold gd
  refine T_ite (fun hc => ?_) (fun _ => T_none)
  exact fun hG v μ' ht H locs ls hP hS hl => lv_irem hG.1 hG.2.1 hd hc (h hG v μ' ht H locs ls hP hS hl)
theorem T_ldiv {q : mMI} {X : mCx} {tgt : mR} {pc : Nat} {lv : List (Nat × Value)} {st : List Value} {μ : mMem} {x y : Int64} (hd : decode q.2.1 pc = .ok (.ldiv, 1)) {dc : Decidable (¬ y = 0)} (h : T q X tgt (pc + 1) lv (.long (x / y) :: st) μ) : T q X (gd (¬ y = 0) tgt dc) pc lv (.long y :: .long x :: st) μ := by
  unfold gd
  refine T_ite (fun hc => ?_) (fun _ => T_none)
  exact fun hG v μ' ht H locs ls hP hS hl => lv_ldiv hG.1 hG.2.1 hd hc (h hG v μ' ht H locs ls hP hS hl)
theorem T_lrem {q : mMI} {X : mCx} {tgt : mR} {pc : Nat} {lv : List (Nat × Value)} {st : List Value} {μ : mMem} {x y : Int64} (hd : decode q.2.1 pc = .ok (.lrem, 1)) {dc : Decidable (¬ y = 0)} (h : T q X tgt (pc + 1) lv (.long (x - x / y * y) :: st) μ) : T q X (gd (¬ y = 0) tgt dc) pc lv (.long y :: .long x :: st) μ := by
  unfold gd
  refine T_ite (fun hc => ?_) (fun _ => T_none)
  exact fun hG v μ' ht H locs ls hP hS hl => lv_lrem hG.1 hG.2.1 hd hc (h hG v μ' ht H locs ls hP hS hl)
theorem T_iconst {q : mMI} {X : mCx} {tgt : mR} {pc : Nat} {lv : List (Nat × Value)} {st : List Value} {μ : mMem} {n : Int} (z : Int32) (hv : Int32.ofInt n = z) (hd : decode q.2.1 pc = .ok (.iconst n, 1)) (h : T q X tgt (pc + 1) lv (.int z :: st) μ) : T q X tgt pc lv (st) μ :=
  fun hG v μ' ht H locs ls hP hS hl => lv_iconst hG.1 hG.2.1 hd hv (h hG v μ' ht H locs ls hP hS hl)
theorem T_bipush {q : mMI} {X : mCx} {tgt : mR} {pc : Nat} {lv : List (Nat × Value)} {st : List Value} {μ : mMem} {n : Int} (z : Int32) (hv : (Int8.ofInt n).toInt32 = z) (hd : decode q.2.1 pc = .ok (.bipush n, 2)) (h : T q X tgt (pc + 2) lv (.int z :: st) μ) : T q X tgt pc lv (st) μ :=
  fun hG v μ' ht H locs ls hP hS hl => lv_bipush hG.1 hG.2.1 hd hv (h hG v μ' ht H locs ls hP hS hl)
theorem T_sipush {q : mMI} {X : mCx} {tgt : mR} {pc : Nat} {lv : List (Nat × Value)} {st : List Value} {μ : mMem} {n : Int} (z : Int32) (hv : (Int16.ofInt n).toInt32 = z) (hd : decode q.2.1 pc = .ok (.sipush n, 3)) (h : T q X tgt (pc + 3) lv (.int z :: st) μ) : T q X tgt pc lv (st) μ :=
  fun hG v μ' ht H locs ls hP hS hl => lv_sipush hG.1 hG.2.1 hd hv (h hG v μ' ht H locs ls hP hS hl)
theorem T_lconst {q : mMI} {X : mCx} {tgt : mR} {pc : Nat} {lv : List (Nat × Value)} {st : List Value} {μ : mMem} {n : Fin 2} (z : Int64) (hv : Int64.ofNat (n : Nat) = z) (hd : decode q.2.1 pc = .ok (.lconst n, 1)) (h : T q X tgt (pc + 1) lv (.long z :: st) μ) : T q X tgt pc lv (st) μ :=
  fun hG v μ' ht H locs ls hP hS hl => lv_lconst hG.1 hG.2.1 hd hv (h hG v μ' ht H locs ls hP hS hl)
theorem T_ldc2 {q : mMI} {X : mCx} {tgt : mR} {pc : Nat} {lv : List (Nat × Value)} {st : List Value} {μ : mMem} {index : Nat} {z : Int64} (hw : Cond.constantLong q.1.cls index z ∈ gdL) (hd : decode q.2.1 pc = .ok (.ldc2_w index, 3)) (h : T q X tgt (pc + 3) lv (.long z :: st) μ) : T q X tgt pc lv st μ :=
  fun hG v μ' ht H locs ls hP hS hl => lv_ldc2 hG.1 hG.2.1 hG.2.2.2.2.2.1 (hG.2.2.2.2.2.2.1 _ hw) hd (h hG v μ' ht H locs ls hP hS hl)
theorem T_ldc {q : mMI} {X : mCx} {tgt : mR} {pc : Nat} {lv : List (Nat × Value)} {st : List Value} {μ : mMem} {index : Nat} {z : Int32} (hw : Cond.constant q.1.cls index z ∈ gdL) (hd : decode q.2.1 pc = .ok (.ldc index, 2)) (h : T q X tgt (pc + 2) lv (.int z :: st) μ) : T q X tgt pc lv st μ :=
  fun hG v μ' ht H locs ls hP hS hl => lv_ldc hG.1 hG.2.1 hG.2.2.2.2.2.1 (hG.2.2.2.2.2.2.1 _ hw) hd (h hG v μ' ht H locs ls hP hS hl)
theorem T_ldcw {q : mMI} {X : mCx} {tgt : mR} {pc : Nat} {lv : List (Nat × Value)} {st : List Value} {μ : mMem} {index : Nat} {z : Int32} (hw : Cond.constant q.1.cls index z ∈ gdL) (hd : decode q.2.1 pc = .ok (.ldc_w index, 3)) (h : T q X tgt (pc + 3) lv (.int z :: st) μ) : T q X tgt pc lv st μ :=
  fun hG v μ' ht H locs ls hP hS hl => lv_ldcw hG.1 hG.2.1 hG.2.2.2.2.2.1 (hG.2.2.2.2.2.2.1 _ hw) hd (h hG v μ' ht H locs ls hP hS hl)
theorem T_iload_n {q : mMI} {X : mCx} {tgt : mR} {pc : Nat} {lv : List (Nat × Value)} {st : List Value} {μ : mMem} {f : Fin 4} {i : Nat} {x : Int32} (k : Nat) (hi : (f : Nat) = i) (hk : lv[k]? = some (i, .int x)) (hd : decode q.2.1 pc = .ok (.iload_n f, 1)) (h : T q X tgt (pc + 1) lv (.int x :: st) μ) : T q X tgt pc lv (st) μ :=
  fun hG v μ' ht H locs ls hP hS hl => lv_iload_n hG.1 hG.2.1 hd hi (lv_at hl k (lv_gm hk)) (h hG v μ' ht H locs ls hP hS hl)
theorem T_iload {q : mMI} {X : mCx} {tgt : mR} {pc : Nat} {lv : List (Nat × Value)} {st : List Value} {μ : mMem} {i : Nat} {x : Int32} (k : Nat) (hk : lv[k]? = some (i, .int x)) (hd : decode q.2.1 pc = .ok (.iload i, 2)) (h : T q X tgt (pc + 2) lv (.int x :: st) μ) : T q X tgt pc lv (st) μ :=
  fun hG v μ' ht H locs ls hP hS hl => lv_iload hG.1 hG.2.1 hd (lv_at hl k (lv_gm hk)) (h hG v μ' ht H locs ls hP hS hl)
theorem T_lload_n {q : mMI} {X : mCx} {tgt : mR} {pc : Nat} {lv : List (Nat × Value)} {st : List Value} {μ : mMem} {f : Fin 4} {i : Nat} {x : Int64} (k : Nat) (hi : (f : Nat) = i) (hk : lv[k]? = some (i, .long x)) (hd : decode q.2.1 pc = .ok (.lload_n f, 1)) (h : T q X tgt (pc + 1) lv (.long x :: st) μ) : T q X tgt pc lv (st) μ :=
  fun hG v μ' ht H locs ls hP hS hl => lv_lload_n hG.1 hG.2.1 hd hi (lv_at hl k (lv_gm hk)) (h hG v μ' ht H locs ls hP hS hl)
theorem T_lload {q : mMI} {X : mCx} {tgt : mR} {pc : Nat} {lv : List (Nat × Value)} {st : List Value} {μ : mMem} {i : Nat} {x : Int64} (k : Nat) (hk : lv[k]? = some (i, .long x)) (hd : decode q.2.1 pc = .ok (.lload i, 2)) (h : T q X tgt (pc + 2) lv (.long x :: st) μ) : T q X tgt pc lv (st) μ :=
  fun hG v μ' ht H locs ls hP hS hl => lv_lload hG.1 hG.2.1 hd (lv_at hl k (lv_gm hk)) (h hG v μ' ht H locs ls hP hS hl)
theorem T_aload_n {q : mMI} {X : mCx} {tgt : mR} {pc : Nat} {lv : List (Nat × Value)} {st : List Value} {μ : mMem} {f : Fin 4} {i : Nat} {x : Nat} (k : Nat) (hi : (f : Nat) = i) (hk : lv[k]? = some (i, .ref x)) (hd : decode q.2.1 pc = .ok (.aload_n f, 1)) (h : T q X tgt (pc + 1) lv (.ref x :: st) μ) : T q X tgt pc lv (st) μ :=
  fun hG v μ' ht H locs ls hP hS hl => lv_aload_n hG.1 hG.2.1 hd hi (lv_at hl k (lv_gm hk)) (h hG v μ' ht H locs ls hP hS hl)
theorem T_aload {q : mMI} {X : mCx} {tgt : mR} {pc : Nat} {lv : List (Nat × Value)} {st : List Value} {μ : mMem} {i : Nat} {x : Nat} (k : Nat) (hk : lv[k]? = some (i, .ref x)) (hd : decode q.2.1 pc = .ok (.aload i, 2)) (h : T q X tgt (pc + 2) lv (.ref x :: st) μ) : T q X tgt pc lv (st) μ :=
  fun hG v μ' ht H locs ls hP hS hl => lv_aload hG.1 hG.2.1 hd (lv_at hl k (lv_gm hk)) (h hG v μ' ht H locs ls hP hS hl)
theorem T_istore_n {q : mMI} {X : mCx} {tgt : mR} {pc : Nat} {lv : List (Nat × Value)} {st : List Value} {μ : mMem} {lv' : List (Nat × Value)} {f : Fin 4} {i : Nat} {x : Int32} (hi : (f : Nat) = i) (hn : i < q.2.2.1) (hv : (i, Value.int x) :: lv.filter (fun q => !(q.1 == i) && !(q.1 + 1 == i && q.2.category == 2)) = lv') (hd : decode q.2.1 pc = .ok (.istore_n f, 1)) (h : T q X tgt (pc + 1) lv' st μ) : T q X tgt pc lv (.int x :: st) μ :=
  fun hG v μ' ht H locs ls hP hS hl => lv_istore_n hG.1 hG.2.1 hd hi hl hn (by
    show (i, cz (xad X) (Value.int x)) :: _ = _
    rw [lv_fm (xad X) (fun a c => !(a == i) && !(a + 1 == i && c == 2)) lv, ← hv]; rfl) (fun ls' hl' => h hG v μ' ht H locs ls' hP hS hl')
theorem T_istore {q : mMI} {X : mCx} {tgt : mR} {pc : Nat} {lv : List (Nat × Value)} {st : List Value} {μ : mMem} {lv' : List (Nat × Value)} {i : Nat} {x : Int32} (hn : i < q.2.2.1) (hv : (i, Value.int x) :: lv.filter (fun q => !(q.1 == i) && !(q.1 + 1 == i && q.2.category == 2)) = lv') (hd : decode q.2.1 pc = .ok (.istore i, 2)) (h : T q X tgt (pc + 2) lv' st μ) : T q X tgt pc lv (.int x :: st) μ :=
  fun hG v μ' ht H locs ls hP hS hl => lv_istore hG.1 hG.2.1 hd hl hn (by
    show (i, cz (xad X) (Value.int x)) :: _ = _
    rw [lv_fm (xad X) (fun a c => !(a == i) && !(a + 1 == i && c == 2)) lv, ← hv]; rfl) (fun ls' hl' => h hG v μ' ht H locs ls' hP hS hl')
theorem T_lstore_n {q : mMI} {X : mCx} {tgt : mR} {pc : Nat} {lv : List (Nat × Value)} {st : List Value} {μ : mMem} {lv' : List (Nat × Value)} {f : Fin 4} {i : Nat} {x : Int64} (hi : (f : Nat) = i) (hn : i + 1 < q.2.2.1) (hv : (i, Value.long x) :: lv.filter (fun q => !(q.1 == i) && (!(q.1 == i + 1) && !(q.1 + 1 == i && q.2.category == 2))) = lv') (hd : decode q.2.1 pc = .ok (.lstore_n f, 1)) (h : T q X tgt (pc + 1) lv' st μ) : T q X tgt pc lv (.long x :: st) μ :=
  fun hG v μ' ht H locs ls hP hS hl => lv_lstore_n hG.1 hG.2.1 hd hi hl hn (by
    show (i, cz (xad X) (Value.long x)) :: _ = _
    rw [lv_fm (xad X) (fun a c => !(a == i) && (!(a == i + 1) && !(a + 1 == i && c == 2))) lv, ← hv]; rfl) (fun ls' hl' => h hG v μ' ht H locs ls' hP hS hl')
theorem T_lstore {q : mMI} {X : mCx} {tgt : mR} {pc : Nat} {lv : List (Nat × Value)} {st : List Value} {μ : mMem} {lv' : List (Nat × Value)} {i : Nat} {x : Int64} (hn : i + 1 < q.2.2.1) (hv : (i, Value.long x) :: lv.filter (fun q => !(q.1 == i) && (!(q.1 == i + 1) && !(q.1 + 1 == i && q.2.category == 2))) = lv') (hd : decode q.2.1 pc = .ok (.lstore i, 2)) (h : T q X tgt (pc + 2) lv' st μ) : T q X tgt pc lv (.long x :: st) μ :=
  fun hG v μ' ht H locs ls hP hS hl => lv_lstore hG.1 hG.2.1 hd hl hn (by
    show (i, cz (xad X) (Value.long x)) :: _ = _
    rw [lv_fm (xad X) (fun a c => !(a == i) && (!(a == i + 1) && !(a + 1 == i && c == 2))) lv, ← hv]; rfl) (fun ls' hl' => h hG v μ' ht H locs ls' hP hS hl')
theorem T_astore_n {q : mMI} {X : mCx} {tgt : mR} {pc : Nat} {lv : List (Nat × Value)} {st : List Value} {μ : mMem} {lv' : List (Nat × Value)} {f : Fin 4} {i : Nat} {x : Nat} (hi : (f : Nat) = i) (hn : i < q.2.2.1) (hv : (i, Value.ref x) :: lv.filter (fun q => !(q.1 == i) && !(q.1 + 1 == i && q.2.category == 2)) = lv') (hd : decode q.2.1 pc = .ok (.astore_n f, 1)) (h : T q X tgt (pc + 1) lv' st μ) : T q X tgt pc lv (.ref x :: st) μ :=
  fun hG v μ' ht H locs ls hP hS hl => lv_astore_n hG.1 hG.2.1 hd hi hl hn (by
    show (i, cz (xad X) (Value.ref x)) :: _ = _
    rw [lv_fm (xad X) (fun a c => !(a == i) && !(a + 1 == i && c == 2)) lv, ← hv]; rfl) (fun ls' hl' => h hG v μ' ht H locs ls' hP hS hl')
theorem T_astore {q : mMI} {X : mCx} {tgt : mR} {pc : Nat} {lv : List (Nat × Value)} {st : List Value} {μ : mMem} {lv' : List (Nat × Value)} {i : Nat} {x : Nat} (hn : i < q.2.2.1) (hv : (i, Value.ref x) :: lv.filter (fun q => !(q.1 == i) && !(q.1 + 1 == i && q.2.category == 2)) = lv') (hd : decode q.2.1 pc = .ok (.astore i, 2)) (h : T q X tgt (pc + 2) lv' st μ) : T q X tgt pc lv (.ref x :: st) μ :=
  fun hG v μ' ht H locs ls hP hS hl => lv_astore hG.1 hG.2.1 hd hl hn (by
    show (i, cz (xad X) (Value.ref x)) :: _ = _
    rw [lv_fm (xad X) (fun a c => !(a == i) && !(a + 1 == i && c == 2)) lv, ← hv]; rfl) (fun ls' hl' => h hG v μ' ht H locs ls' hP hS hl')
theorem T_iinc {q : mMI} {X : mCx} {tgt : mR} {pc : Nat} {lv : List (Nat × Value)} {st : List Value} {μ : mMem} {lv' : List (Nat × Value)} {i : Nat} {n : Int} {x : Int32} (k : Nat) (z : Int32) (hk : lv[k]? = some (i, .int x)) (hz : Int32.ofInt n = z) (hn : i < q.2.2.1) (hv : (i, Value.int (x + z)) :: lv.filter (fun q => !(q.1 == i) && !(q.1 + 1 == i && q.2.category == 2)) = lv') (hd : decode q.2.1 pc = .ok (.iinc i n, 3)) (h : T q X tgt (pc + 3) lv' st μ) : T q X tgt pc lv st μ :=
  fun hG v μ' ht H locs ls hP hS hl => lv_iinc (v := x + z) hG.1 hG.2.1 hd hl (lv_gm hk) (by rw [hz]) hn (by
    show (i, cz (xad X) (Value.int (x + z))) :: _ = _
    rw [lv_fm (xad X) (fun a c => !(a == i) && !(a + 1 == i && c == 2)) lv, ← hv]; rfl) (fun ls' hl' => h hG v μ' ht H locs ls' hP hS hl')
theorem T_if_eq {q : mMI} {X : mCx} {r1 r2 : mR} {pc : Nat} {lv : List (Nat × Value)} {st : List Value} {μ : mMem} {x : Int32} {off : Int} {dc : Decidable (x = 0)} (t : Nat) (hd : decode q.2.1 pc = .ok (.ifCond .eq off, 3)) (htg : (pc : Int) + off = (t : Int)) (h1 : x = 0 → T q X r1 (t) lv st μ) (h2 : ¬ x = 0 → T q X r2 (pc + 3) lv st μ) : T q X (@ite mR (x = 0) dc r1 r2) pc lv (.int x :: st) μ :=
  fun hG v μ' ht H locs ls hP hS hl => lv_if_eq (tgt := t) hG.1 hG.2.1 hd htg (fun hc => h1 hc hG v μ' (by rw [if_pos hc] at ht; exact ht) H locs ls hP hS hl) (fun hc => h2 hc hG v μ' (by rw [if_neg hc] at ht; exact ht) H locs ls hP hS hl)
theorem T_icmp_eq {q : mMI} {X : mCx} {r1 r2 : mR} {pc : Nat} {lv : List (Nat × Value)} {st : List Value} {μ : mMem} {x y : Int32} {off : Int} {dc : Decidable (x = y)} (t : Nat) (hd : decode q.2.1 pc = .ok (.if_icmp .eq off, 3)) (htg : (pc : Int) + off = (t : Int)) (h1 : x = y → T q X r1 (t) lv st μ) (h2 : ¬ x = y → T q X r2 (pc + 3) lv st μ) : T q X (@ite mR (x = y) dc r1 r2) pc lv (.int y :: .int x :: st) μ :=
  fun hG v μ' ht H locs ls hP hS hl => lv_icmp_eq (tgt := t) hG.1 hG.2.1 hd htg (fun hc => h1 hc hG v μ' (by rw [if_pos hc] at ht; exact ht) H locs ls hP hS hl) (fun hc => h2 hc hG v μ' (by rw [if_neg hc] at ht; exact ht) H locs ls hP hS hl)
theorem T_if_lt {q : mMI} {X : mCx} {r1 r2 : mR} {pc : Nat} {lv : List (Nat × Value)} {st : List Value} {μ : mMem} {x : Int32} {off : Int} {dc : Decidable (x < 0)} (t : Nat) (hd : decode q.2.1 pc = .ok (.ifCond .lt off, 3)) (htg : (pc : Int) + off = (t : Int)) (h1 : x < 0 → T q X r1 (t) lv st μ) (h2 : ¬ x < 0 → T q X r2 (pc + 3) lv st μ) : T q X (@ite mR (x < 0) dc r1 r2) pc lv (.int x :: st) μ :=
  fun hG v μ' ht H locs ls hP hS hl => lv_if_lt (tgt := t) hG.1 hG.2.1 hd htg (fun hc => h1 hc hG v μ' (by rw [if_pos hc] at ht; exact ht) H locs ls hP hS hl) (fun hc => h2 hc hG v μ' (by rw [if_neg hc] at ht; exact ht) H locs ls hP hS hl)
theorem T_icmp_lt {q : mMI} {X : mCx} {r1 r2 : mR} {pc : Nat} {lv : List (Nat × Value)} {st : List Value} {μ : mMem} {x y : Int32} {off : Int} {dc : Decidable (x < y)} (t : Nat) (hd : decode q.2.1 pc = .ok (.if_icmp .lt off, 3)) (htg : (pc : Int) + off = (t : Int)) (h1 : x < y → T q X r1 (t) lv st μ) (h2 : ¬ x < y → T q X r2 (pc + 3) lv st μ) : T q X (@ite mR (x < y) dc r1 r2) pc lv (.int y :: .int x :: st) μ :=
  fun hG v μ' ht H locs ls hP hS hl => lv_icmp_lt (tgt := t) hG.1 hG.2.1 hd htg (fun hc => h1 hc hG v μ' (by rw [if_pos hc] at ht; exact ht) H locs ls hP hS hl) (fun hc => h2 hc hG v μ' (by rw [if_neg hc] at ht; exact ht) H locs ls hP hS hl)
theorem T_if_ge {q : mMI} {X : mCx} {r1 r2 : mR} {pc : Nat} {lv : List (Nat × Value)} {st : List Value} {μ : mMem} {x : Int32} {off : Int} {dc : Decidable (0 ≤ x)} (t : Nat) (hd : decode q.2.1 pc = .ok (.ifCond .ge off, 3)) (htg : (pc : Int) + off = (t : Int)) (h1 : 0 ≤ x → T q X r1 (t) lv st μ) (h2 : ¬ 0 ≤ x → T q X r2 (pc + 3) lv st μ) : T q X (@ite mR (0 ≤ x) dc r1 r2) pc lv (.int x :: st) μ :=
  fun hG v μ' ht H locs ls hP hS hl => lv_if_ge (tgt := t) hG.1 hG.2.1 hd htg (fun hc => h1 hc hG v μ' (by rw [if_pos hc] at ht; exact ht) H locs ls hP hS hl) (fun hc => h2 hc hG v μ' (by rw [if_neg hc] at ht; exact ht) H locs ls hP hS hl)
theorem T_icmp_ge {q : mMI} {X : mCx} {r1 r2 : mR} {pc : Nat} {lv : List (Nat × Value)} {st : List Value} {μ : mMem} {x y : Int32} {off : Int} {dc : Decidable (y ≤ x)} (t : Nat) (hd : decode q.2.1 pc = .ok (.if_icmp .ge off, 3)) (htg : (pc : Int) + off = (t : Int)) (h1 : y ≤ x → T q X r1 (t) lv st μ) (h2 : ¬ y ≤ x → T q X r2 (pc + 3) lv st μ) : T q X (@ite mR (y ≤ x) dc r1 r2) pc lv (.int y :: .int x :: st) μ :=
  fun hG v μ' ht H locs ls hP hS hl => lv_icmp_ge (tgt := t) hG.1 hG.2.1 hd htg (fun hc => h1 hc hG v μ' (by rw [if_pos hc] at ht; exact ht) H locs ls hP hS hl) (fun hc => h2 hc hG v μ' (by rw [if_neg hc] at ht; exact ht) H locs ls hP hS hl)
theorem T_if_gt {q : mMI} {X : mCx} {r1 r2 : mR} {pc : Nat} {lv : List (Nat × Value)} {st : List Value} {μ : mMem} {x : Int32} {off : Int} {dc : Decidable (0 < x)} (t : Nat) (hd : decode q.2.1 pc = .ok (.ifCond .gt off, 3)) (htg : (pc : Int) + off = (t : Int)) (h1 : 0 < x → T q X r1 (t) lv st μ) (h2 : ¬ 0 < x → T q X r2 (pc + 3) lv st μ) : T q X (@ite mR (0 < x) dc r1 r2) pc lv (.int x :: st) μ :=
  fun hG v μ' ht H locs ls hP hS hl => lv_if_gt (tgt := t) hG.1 hG.2.1 hd htg (fun hc => h1 hc hG v μ' (by rw [if_pos hc] at ht; exact ht) H locs ls hP hS hl) (fun hc => h2 hc hG v μ' (by rw [if_neg hc] at ht; exact ht) H locs ls hP hS hl)
theorem T_icmp_gt {q : mMI} {X : mCx} {r1 r2 : mR} {pc : Nat} {lv : List (Nat × Value)} {st : List Value} {μ : mMem} {x y : Int32} {off : Int} {dc : Decidable (y < x)} (t : Nat) (hd : decode q.2.1 pc = .ok (.if_icmp .gt off, 3)) (htg : (pc : Int) + off = (t : Int)) (h1 : y < x → T q X r1 (t) lv st μ) (h2 : ¬ y < x → T q X r2 (pc + 3) lv st μ) : T q X (@ite mR (y < x) dc r1 r2) pc lv (.int y :: .int x :: st) μ :=
  fun hG v μ' ht H locs ls hP hS hl => lv_icmp_gt (tgt := t) hG.1 hG.2.1 hd htg (fun hc => h1 hc hG v μ' (by rw [if_pos hc] at ht; exact ht) H locs ls hP hS hl) (fun hc => h2 hc hG v μ' (by rw [if_neg hc] at ht; exact ht) H locs ls hP hS hl)
theorem T_if_le {q : mMI} {X : mCx} {r1 r2 : mR} {pc : Nat} {lv : List (Nat × Value)} {st : List Value} {μ : mMem} {x : Int32} {off : Int} {dc : Decidable (x ≤ 0)} (t : Nat) (hd : decode q.2.1 pc = .ok (.ifCond .le off, 3)) (htg : (pc : Int) + off = (t : Int)) (h1 : x ≤ 0 → T q X r1 (t) lv st μ) (h2 : ¬ x ≤ 0 → T q X r2 (pc + 3) lv st μ) : T q X (@ite mR (x ≤ 0) dc r1 r2) pc lv (.int x :: st) μ :=
  fun hG v μ' ht H locs ls hP hS hl => lv_if_le (tgt := t) hG.1 hG.2.1 hd htg (fun hc => h1 hc hG v μ' (by rw [if_pos hc] at ht; exact ht) H locs ls hP hS hl) (fun hc => h2 hc hG v μ' (by rw [if_neg hc] at ht; exact ht) H locs ls hP hS hl)
theorem T_icmp_le {q : mMI} {X : mCx} {r1 r2 : mR} {pc : Nat} {lv : List (Nat × Value)} {st : List Value} {μ : mMem} {x y : Int32} {off : Int} {dc : Decidable (x ≤ y)} (t : Nat) (hd : decode q.2.1 pc = .ok (.if_icmp .le off, 3)) (htg : (pc : Int) + off = (t : Int)) (h1 : x ≤ y → T q X r1 (t) lv st μ) (h2 : ¬ x ≤ y → T q X r2 (pc + 3) lv st μ) : T q X (@ite mR (x ≤ y) dc r1 r2) pc lv (.int y :: .int x :: st) μ :=
  fun hG v μ' ht H locs ls hP hS hl => lv_icmp_le (tgt := t) hG.1 hG.2.1 hd htg (fun hc => h1 hc hG v μ' (by rw [if_pos hc] at ht; exact ht) H locs ls hP hS hl) (fun hc => h2 hc hG v μ' (by rw [if_neg hc] at ht; exact ht) H locs ls hP hS hl)
theorem T_if_ne {q : mMI} {X : mCx} {r1 r2 : mR} {pc : Nat} {lv : List (Nat × Value)} {st : List Value} {μ : mMem} {x : Int32} {off : Int} {dc : Decidable (x = 0)} (t : Nat) (hd : decode q.2.1 pc = .ok (.ifCond .ne off, 3)) (htg : (pc : Int) + off = (t : Int)) (h1 : x = 0 → T q X r1 (pc + 3) lv st μ) (h2 : ¬ x = 0 → T q X r2 (t) lv st μ) : T q X (@ite mR (x = 0) dc r1 r2) pc lv (.int x :: st) μ :=
  fun hG v μ' ht H locs ls hP hS hl => lv_if_ne (tgt := t) hG.1 hG.2.1 hd htg (fun hc => h2 hc hG v μ' (by rw [if_neg hc] at ht; exact ht) H locs ls hP hS hl) (fun hc => h1 hc hG v μ' (by rw [if_pos hc] at ht; exact ht) H locs ls hP hS hl)
theorem T_icmp_ne {q : mMI} {X : mCx} {r1 r2 : mR} {pc : Nat} {lv : List (Nat × Value)} {st : List Value} {μ : mMem} {x y : Int32} {off : Int} {dc : Decidable (x = y)} (t : Nat) (hd : decode q.2.1 pc = .ok (.if_icmp .ne off, 3)) (htg : (pc : Int) + off = (t : Int)) (h1 : x = y → T q X r1 (pc + 3) lv st μ) (h2 : ¬ x = y → T q X r2 (t) lv st μ) : T q X (@ite mR (x = y) dc r1 r2) pc lv (.int y :: .int x :: st) μ :=
  fun hG v μ' ht H locs ls hP hS hl => lv_icmp_ne (tgt := t) hG.1 hG.2.1 hd htg (fun hc => h2 hc hG v μ' (by rw [if_neg hc] at ht; exact ht) H locs ls hP hS hl) (fun hc => h1 hc hG v μ' (by rw [if_pos hc] at ht; exact ht) H locs ls hP hS hl)
theorem T_goto {q : mMI} {X : mCx} {tgt : mR} {pc : Nat} {lv : List (Nat × Value)} {st : List Value} {μ : mMem} {off : Int} (t : Nat) (hd : decode q.2.1 pc = .ok (.goto off, 3)) (htg : (pc : Int) + off = (t : Int)) (h : T q X tgt t lv st μ) : T q X tgt pc lv st μ :=
  fun hG v μ' ht H locs ls hP hS hl => lv_goto (tgt := t) hG.1 hG.2.1 hd htg (h hG v μ' ht H locs ls hP hS hl)
end
section
theorem fs_at {ad : Nat → Nat} {c i k N : Nat} {x : Nat → Int32} {C : String} {TT : u_T} (hc : vwCl[c]? = some (C, TT, N)) (hk : k < N) : (fsOf ad c i x)[k]? = some (fv ad c i k x) := by
  have hn : nfc c = N := by unfold nfc; rw [hc]
  unfold fsOf
  rw [hn, List.getElem?_map, List.getElem?_range hk]
  rfl
theorem fs_len {ad : Nat → Nat} {c i N : Nat} {x : Nat → Int32} {C : String} {TT : u_T} (hc : vwCl[c]? = some (C, TT, N)) : (fsOf ad c i x).length = N := by
  have hn : nfc c = N := by unfold nfc; rw [hc]
  unfold fsOf
  rw [hn, List.length_map, List.length_range]
theorem fs_set {ad : Nat → Nat} {c i k N : Nat} {x : Nat → Int32} {z : Int32} {C : String} {TT : u_T} (hc : vwCl[c]? = some (C, TT, N)) (hk : k < N) (hf : ft c k ≠ 2) : (fsOf ad c i x).set k (.int z) = fsOf ad c i (upd x k z) := by
  apply List.ext_getElem?
  intro j
  rw [List.getElem?_set]
  by_cases hj : k = j
  · subst hj
    rw [if_pos rfl, fs_len hc, if_pos hk, fs_at hc hk]
    unfold fv
    rw [if_neg hf]
    simp [upd]
  · rw [if_neg hj]
    by_cases h : j < N
    · rw [fs_at hc h, fs_at hc h]
      unfold fv
      simp [upd, Ne.symm hj]
    · rw [List.getElem?_eq_none (by rw [fs_len hc]; omega), List.getElem?_eq_none (by rw [fs_len hc]; omega)]
theorem inG0 : ∀ w ∈ u_ws RX0 TX0 2, w ∈ gdL := by decide +kernel
theorem inG1 : ∀ w ∈ u_ws RX1 TX1 2, w ∈ gdL := by decide +kernel
theorem inG2 : ∀ w ∈ u_ws RX2 TX2 7, w ∈ gdL := by decide +kernel
theorem inG3 : ∀ w ∈ u_ws RX3 TX3 6, w ∈ gdL := by decide +kernel
theorem inG4 : ∀ w ∈ u_ws RX4 TX4 12, w ∈ gdL := by decide +kernel
theorem inG5 : ∀ w ∈ u_ws RX5 TX5 3, w ∈ gdL := by decide +kernel
theorem inG6 : ∀ w ∈ u_ws RX6 TX6 10, w ∈ gdL := by decide +kernel
theorem inG7 : ∀ w ∈ u_ws RX7 TX7 11, w ∈ gdL := by decide +kernel
theorem inG8 : ∀ w ∈ u_ws RX8 TX8 35, w ∈ gdL := by decide +kernel
theorem inG {c N : Nat} {C : String} {TT : u_T} (hc : vwCl[c]? = some (C, TT, N)) : ∀ w ∈ u_ws C TT N, w ∈ gdL := by
  match c, hc with
  | 0, hc => cases hc; exact inG0
  | 1, hc => cases hc; exact inG1
  | 2, hc => cases hc; exact inG2
  | 3, hc => cases hc; exact inG3
  | 4, hc => cases hc; exact inG4
  | 5, hc => cases hc; exact inG5
  | 6, hc => cases hc; exact inG6
  | 7, hc => cases hc; exact inG7
  | 8, hc => cases hc; exact inG8
  | c + 9, hc => simp [vwCl] at hc
theorem vw_lt {c N : Nat} {C : String} {TT : u_T} (hc : vwCl[c]? = some (C, TT, N)) : c < 9 := (List.getElem?_eq_some_iff.mp hc).1
theorem T_getI {q : mMI} {X : mCx} {tgt : mR} {pc : Nat} {lv : List (Nat × Value)} {st : List Value} {μ : mMem} {b c k index N : Nat} {C ref nm ds : String} {TT : u_T} {fn : Bool} (hc : vwCl[c]? = some (C, TT, N)) (hk : k < N) (hT : TT k = (ref, nm, ds, fn)) (hf : ft c k ≠ 2) (hw : Cond.fieldLink q.1.cls index ref nm ds ∈ gdL) (hb : kd b = (c, 0)) (hd : decode q.2.1 pc = .ok (.getfield index, 3)) (h : T q X tgt (pc + 3) lv (.int (μ.1 b k) :: st) μ) : T q X tgt pc lv (.ref b :: st) μ := fun hG v μ' ht H locs ls hP hS hl => by
  have hb0 := kd_lt hb (by have := vw_lt hc; omega)
  have e : (TT k).2.1 = nm ∧ (TT k).2.2.1 = ds ∧ (TT k).1 = ref := by rw [hT]; exact ⟨rfl, rfl, rfl⟩
  refine va_get (v := .int (μ.1 b k)) (ref := ref) hG.1 hG.2.1 hG.2.2.2.2.2.2.1 (inG hc) hG.2.2.2.2.2.1 hG.2.2.2.2.2.2.2.1 hP b (by rw [ws_at hb0, cell_obj hb (vw_lt hc)]) hc k hk (by rw [e.1, e.2.1]; exact hG.2.2.2.2.2.2.1 _ hw) (fun y hy => by rw [e.2.2] at hy; exact hy) ?_ hd (h hG v μ' ht H locs ls hP hS hl)
  rw [fs_at hc hk]
  unfold fv
  rw [if_neg hf]
theorem T_getR {q : mMI} {X : mCx} {tgt : mR} {pc : Nat} {lv : List (Nat × Value)} {st : List Value} {μ : mMem} {b c k index N : Nat} {C ref nm ds : String} {TT : u_T} {fn : Bool} (hc : vwCl[c]? = some (C, TT, N)) (hk : k < N) (hT : TT k = (ref, nm, ds, fn)) (hf : ft c k = 2) (hw : Cond.fieldLink q.1.cls index ref nm ds ∈ gdL) (hb : kd b = (c, 0)) (z : Nat) (hz : rf b k = z) (hd : decode q.2.1 pc = .ok (.getfield index, 3)) (h : T q X tgt (pc + 3) lv (.ref z :: st) μ) : T q X tgt pc lv (.ref b :: st) μ := fun hG v μ' ht H locs ls hP hS hl => by
  have hb0 := kd_lt hb (by have := vw_lt hc; omega)
  have e : (TT k).2.1 = nm ∧ (TT k).2.2.1 = ds ∧ (TT k).1 = ref := by rw [hT]; exact ⟨rfl, rfl, rfl⟩
  refine va_get (v := .ref (xad X z)) (ref := ref) hG.1 hG.2.1 hG.2.2.2.2.2.2.1 (inG hc) hG.2.2.2.2.2.1 hG.2.2.2.2.2.2.2.1 hP b (by rw [ws_at hb0, cell_obj hb (vw_lt hc)]) hc k hk (by rw [e.1, e.2.1]; exact hG.2.2.2.2.2.2.1 _ hw) (fun y hy => by rw [e.2.2] at hy; exact hy) ?_ hd (h hG v μ' ht H locs ls hP hS hl)
  rw [fs_at hc hk]
  unfold fv
  rw [if_pos hf, hz]
theorem ty_G {c N : Nat} {C : String} {TT : u_T} (hc : vwCl[c]? = some (C, TT, N)) : ∃ ty0 : Nat → FieldType, (∀ k, k < N → parseFieldDescriptor (TT k).2.2.1 = some (ty0 k)) ∧ (∀ a, a < N → ∀ b, b < N → a ≠ b → (TT a).2.1 ≠ (TT b).2.1) := by
  match c, hc with
  | 0, hc => cases hc; exact ⟨tyX0, tyX0_ok, nmX0⟩
  | 1, hc => cases hc; exact ⟨tyX1, tyX1_ok, nmX1⟩
  | 2, hc => cases hc; exact ⟨tyX2, tyX2_ok, nmX2⟩
  | 3, hc => cases hc; exact ⟨tyX3, tyX3_ok, nmX3⟩
  | 4, hc => cases hc; exact ⟨tyX4, tyX4_ok, nmX4⟩
  | 5, hc => cases hc; exact ⟨tyX5, tyX5_ok, nmX5⟩
  | 6, hc => cases hc; exact ⟨tyX6, tyX6_ok, nmX6⟩
  | 7, hc => cases hc; exact ⟨tyX7, tyX7_ok, nmX7⟩
  | 8, hc => cases hc; exact ⟨tyX8, tyX8_ok, nmX8⟩
  | c + 9, hc => simp [vwCl] at hc
theorem si_o (μ : mMem) (b k : Nat) (x : Int32) : ∀ j, j ≠ b → (si μ b k x).1 j = μ.1 j ∧ (si μ b k x).2 j = μ.2 j := fun j hj => ⟨by simp [si, hj], rfl⟩
theorem si_b (μ : mMem) (b k : Nat) (x : Int32) : (si μ b k x).1 b = upd (μ.1 b) k x := by simp [si]
theorem sl_o (μ : mMem) (b k : Nat) (x : Int64) : ∀ j, j ≠ b → (sl μ b k x).1 j = μ.1 j ∧ (sl μ b k x).2 j = μ.2 j := fun j hj => ⟨rfl, by simp [sl, hj]⟩
theorem sl_b (μ : mMem) (b k : Nat) (x : Int64) : (sl μ b k x).2 b = vp_updL (μ.2 b) k x := by simp [sl]
theorem T_put {q : mMI} {X : mCx} {tgt : mR} {pc : Nat} {lv : List (Nat × Value)} {st : List Value} {μ : mMem} {b c k index N : Nat} {C ref nm ds : String} {TT : u_T} {ty : FieldType} {x : Int32} (hc : vwCl[c]? = some (C, TT, N)) (hk : k < N) (hT : TT k = (ref, nm, ds, false)) (hf : ft c k ≠ 2) (hw : Cond.fieldLink q.1.cls index ref nm ds ∈ gdL) (hty : parseFieldDescriptor ds = some ty) (hn : narrow ty (.int x) = .int x) (hfit : fits ty (.int x) = true) (hb : kd b = (c, 0)) (hd : decode q.2.1 pc = .ok (.putfield index, 3)) (h : T q X tgt (pc + 3) lv st (si μ b k x)) : T q X tgt pc lv (.int x :: .ref b :: st) μ := fun hG v μ' ht H locs ls hP hS hl => by
  have hb0 := kd_lt hb (by have := vw_lt hc; omega)
  have e : (TT k).2.1 = nm ∧ (TT k).2.2.1 = ds ∧ (TT k).1 = ref ∧ (TT k).2.2.2 = false := by rw [hT]; exact ⟨rfl, rfl, rfl, rfl⟩
  obtain ⟨ty0, t1, t2⟩ := ty_G hc
  refine va_put (v := .int x) (ref := ref) (ty := ty) hG.1 hG.2.1 hG.2.2.2.2.2.2.1 (inG hc) ty0 t1 t2 hG.2.2.2.2.2.1 hG.2.2.2.2.2.2.2.1 hP (ws_D hG.2.2.2.2.2.2.2.2.1 hG.2.2.2.2.2.2.2.2.2.1) hS b (by rw [ws_at hb0, cell_obj hb (vw_lt hc)]) hc k hk (by rw [e.1, e.2.1]; exact hG.2.2.2.2.2.2.1 _ hw) (fun y hy => by rw [e.2.2.1] at hy; exact hy) e.2.2.2 (by rw [e.2.1]; exact hty) hn hfit (by rw [fs_len hc]; exact hk) hd (fun H1 locs1 hP1 _ hS1 => ?_)
  refine h hG v μ' ht H1 locs1 ls ?_ hS1 hl
  rw [ws_set (μ' := si μ b k x) hb0 (by rw [cell_obj hb (vw_lt hc), si_b, fs_set hc hk hf]) (si_o μ b k x)] at hP1
  exact hP1
theorem T_bald {q : mMI} {X : mCx} {tgt : mR} {pc : Nat} {lv : List (Nat × Value)} {st : List Value} {μ : mMem} {b n : Nat} {i : Int32} {dc : Decidable (vp_in i n)} (hb : kd b = (9, n)) (hd : decode q.2.1 pc = .ok (.baload, 1)) (h : T q X tgt (pc + 1) lv (.int (μ.1 b i.toNatClampNeg) :: st) μ) : T q X (gd (vp_in i n) tgt dc) pc lv (.int i :: .ref b :: st) μ := by
  unfold gd
  refine T_ite (fun hc => ?_) (fun _ => T_none)
  exact fun hG v μ' ht H locs ls hP hS hl => va_bald (f := μ.1 b) hG.1 hG.2.1 hG.2.2.2.2.2.2.2.1 hP b 0 (by rw [ws_at (kd_lt hb (by decide)), cell_int hb (by decide)]) rfl hc hd (h hG v μ' ht H locs ls hP hS hl)
theorem T_iald {q : mMI} {X : mCx} {tgt : mR} {pc : Nat} {lv : List (Nat × Value)} {st : List Value} {μ : mMem} {b n : Nat} {i : Int32} {dc : Decidable (vp_in i n)} (hb : kd b = (10, n)) (hd : decode q.2.1 pc = .ok (.iaload, 1)) (h : T q X tgt (pc + 1) lv (.int (μ.1 b i.toNatClampNeg) :: st) μ) : T q X (gd (vp_in i n) tgt dc) pc lv (.int i :: .ref b :: st) μ := by
  unfold gd
  refine T_ite (fun hc => ?_) (fun _ => T_none)
  exact fun hG v μ' ht H locs ls hP hS hl => va_iald (f := μ.1 b) hG.1 hG.2.1 hG.2.2.2.2.2.2.2.1 hP b 1 (by rw [ws_at (kd_lt hb (by decide)), cell_int hb (by decide)]) rfl hc hd (h hG v μ' ht H locs ls hP hS hl)
theorem T_zald {q : mMI} {X : mCx} {tgt : mR} {pc : Nat} {lv : List (Nat × Value)} {st : List Value} {μ : mMem} {b n : Nat} {i : Int32} {dc : Decidable (vp_in i n)} (hb : kd b = (12, n)) (hd : decode q.2.1 pc = .ok (.baload, 1)) (h : T q X tgt (pc + 1) lv (.int (μ.1 b i.toNatClampNeg) :: st) μ) : T q X (gd (vp_in i n) tgt dc) pc lv (.int i :: .ref b :: st) μ := by
  unfold gd
  refine T_ite (fun hc => ?_) (fun _ => T_none)
  exact fun hG v μ' ht H locs ls hP hS hl => va_zald (f := μ.1 b) hG.1 hG.2.1 hG.2.2.2.2.2.2.2.1 hP b 3 (by rw [ws_at (kd_lt hb (by decide)), cell_int hb (by decide)]) rfl hc hd (h hG v μ' ht H locs ls hP hS hl)
theorem T_lald {q : mMI} {X : mCx} {tgt : mR} {pc : Nat} {lv : List (Nat × Value)} {st : List Value} {μ : mMem} {b n : Nat} {i : Int32} {dc : Decidable (vp_in i n)} (hb : kd b = (11, n)) (hd : decode q.2.1 pc = .ok (.laload, 1)) (h : T q X tgt (pc + 1) lv (.long (μ.2 b i.toNatClampNeg) :: st) μ) : T q X (gd (vp_in i n) tgt dc) pc lv (.int i :: .ref b :: st) μ := by
  unfold gd
  refine T_ite (fun hc => ?_) (fun _ => T_none)
  exact fun hG v μ' ht H locs ls hP hS hl => va_lald (f := μ.2 b) hG.1 hG.2.1 hG.2.2.2.2.2.2.2.1 hP b 2 (by rw [ws_at (kd_lt hb (by decide)), cell_long hb]) rfl hc hd (h hG v μ' ht H locs ls hP hS hl)
theorem T_alen {q : mMI} {X : mCx} {tgt : mR} {pc : Nat} {lv : List (Nat × Value)} {st : List Value} {μ : mMem} {b c n : Nat} (hb : kd b = (c, n)) (hc : c = 9 ∨ c = 10 ∨ c = 12) (hd : decode q.2.1 pc = .ok (.arraylength, 1)) (h : T q X tgt (pc + 1) lv (.int (Int32.ofNat n) :: st) μ) : T q X tgt pc lv (.ref b :: st) μ := fun hG v μ' ht H locs ls hP hS hl => by
  have hb0 := kd_lt hb (by omega)
  rcases hc with rfl | rfl | rfl
  · exact va_alen (x := (n, .inl (μ.1 b))) hG.1 hG.2.1 hG.2.2.2.2.2.2.2.1 hP b 0 (by rw [ws_at hb0, cell_int hb (by decide)]) rfl rfl hd (h hG v μ' ht H locs ls hP hS hl)
  · exact va_alen (x := (n, .inl (μ.1 b))) hG.1 hG.2.1 hG.2.2.2.2.2.2.2.1 hP b 1 (by rw [ws_at hb0, cell_int hb (by decide)]) rfl rfl hd (h hG v μ' ht H locs ls hP hS hl)
  · exact va_alen (x := (n, .inl (μ.1 b))) hG.1 hG.2.1 hG.2.2.2.2.2.2.2.1 hP b 3 (by rw [ws_at hb0, cell_int hb (by decide)]) rfl rfl hd (h hG v μ' ht H locs ls hP hS hl)
theorem T_alenL {q : mMI} {X : mCx} {tgt : mR} {pc : Nat} {lv : List (Nat × Value)} {st : List Value} {μ : mMem} {b n : Nat} (hb : kd b = (11, n)) (hd : decode q.2.1 pc = .ok (.arraylength, 1)) (h : T q X tgt (pc + 1) lv (.int (Int32.ofNat n) :: st) μ) : T q X tgt pc lv (.ref b :: st) μ := fun hG v μ' ht H locs ls hP hS hl => va_alen (x := (n, .inr (.inl (μ.2 b)))) hG.1 hG.2.1 hG.2.2.2.2.2.2.2.1 hP b 2 (by rw [ws_at (kd_lt hb (by decide)), cell_long hb]) rfl rfl hd (h hG v μ' ht H locs ls hP hS hl)
theorem T_aaldH {q : mMI} {X : mCx} {tgt : mR} {pc : Nat} {lv : List (Nat × Value)} {st : List Value} {μ : mMem} {b n : Nat} {i : Int32} {dc : Decidable (vp_in i n)} (hb : kd b = (13, n)) (hd : decode q.2.1 pc = .ok (.aaload, 1)) (h : vp_in i n → T q X tgt (pc + 1) lv (.ref (rf b i.toNatClampNeg) :: st) μ) : T q X (gd (vp_in i n) tgt dc) pc lv (.int i :: .ref b :: st) μ := by
  unfold gd
  refine T_ite (fun hc => ?_) (fun _ => T_none)
  refine fun hG v μ' ht H locs ls hP hS hl => ?_
  have hlt : i.toNatClampNeg < n := Nat.not_le.mp fun z => hc (Or.inr z)
  have ha : (wsOf (xad X) (xcA X) μ)[b]? = some (xad X b, .inl (xcA X 13, n, .inr (.inr (.inr (.inr (fun j => some (xad X (rf b j)))))))) := by rw [ws_at (kd_lt hb (by decide)), cell_ref hb (by decide)]
  exact W.aald (v := .ref (xad X (rf b i.toNatClampNeg))) (ty := .object RX4) hG.1 hG.2.1 (hP b _ ha) ((hG.2.2.2.2.2.2.2.1.2 4 _ rfl).1 n (fun j => va_rf (some (xad X (rf b j))))) rfl (fun z => by cases z) (by show ¬ (i < 0 ∨ (arrV _ _ _).slots.size ≤ _); rw [arrV_size]; exact hc) (by show (arrV _ _ _).slots[_]? = _; rw [arrV_read _ _ hlt]; rfl) rfl rfl hd (h hc hG v μ' ht H locs ls hP hS hl)
theorem T_aaldS {q : mMI} {X : mCx} {tgt : mR} {pc : Nat} {lv : List (Nat × Value)} {st : List Value} {μ : mMem} {b n : Nat} {i : Int32} {dc : Decidable (vp_in i n)} (hb : kd b = (14, n)) (hd : decode q.2.1 pc = .ok (.aaload, 1)) (h : vp_in i n → T q X tgt (pc + 1) lv (.ref (rf b i.toNatClampNeg) :: st) μ) : T q X (gd (vp_in i n) tgt dc) pc lv (.int i :: .ref b :: st) μ := by
  unfold gd
  refine T_ite (fun hc => ?_) (fun _ => T_none)
  refine fun hG v μ' ht H locs ls hP hS hl => ?_
  have hlt : i.toNatClampNeg < n := Nat.not_le.mp fun z => hc (Or.inr z)
  have ha : (wsOf (xad X) (xcA X) μ)[b]? = some (xad X b, .inl (xcA X 14, n, .inr (.inr (.inr (.inr (fun j => some (xad X (rf b j)))))))) := by rw [ws_at (kd_lt hb (by decide)), cell_ref hb (by decide)]
  exact W.aald (v := .ref (xad X (rf b i.toNatClampNeg))) (ty := .object RX5) hG.1 hG.2.1 (hP b _ ha) ((hG.2.2.2.2.2.2.2.1.2 5 _ rfl).1 n (fun j => va_rf (some (xad X (rf b j))))) rfl (fun z => by cases z) (by show ¬ (i < 0 ∨ (arrV _ _ _).slots.size ≤ _); rw [arrV_size]; exact hc) (by show (arrV _ _ _).slots[_]? = _; rw [arrV_read _ _ hlt]; rfl) rfl rfl hd (h hc hG v μ' ht H locs ls hP hS hl)
theorem T_aaldI {q : mMI} {X : mCx} {tgt : mR} {pc : Nat} {lv : List (Nat × Value)} {st : List Value} {μ : mMem} {b n : Nat} {i : Int32} {dc : Decidable (vp_in i n)} (hb : kd b = (15, n)) (hd : decode q.2.1 pc = .ok (.aaload, 1)) (h : vp_in i n → T q X tgt (pc + 1) lv (.ref (rf b i.toNatClampNeg) :: st) μ) : T q X (gd (vp_in i n) tgt dc) pc lv (.int i :: .ref b :: st) μ := by
  unfold gd
  refine T_ite (fun hc => ?_) (fun _ => T_none)
  refine fun hG v μ' ht H locs ls hP hS hl => ?_
  have hlt : i.toNatClampNeg < n := Nat.not_le.mp fun z => hc (Or.inr z)
  have ha : (wsOf (xad X) (xcA X) μ)[b]? = some (xad X b, .inl (xcA X 15, n, .inr (.inr (.inr (.inr (fun j => some (xad X (rf b j)))))))) := by rw [ws_at (kd_lt hb (by decide)), cell_ref hb (by decide)]
  exact W.aald (v := .ref (xad X (rf b i.toNatClampNeg))) (ty := .array .int) hG.1 hG.2.1 (hP b _ ha) ((hG.2.2.2.2.2.2.2.1.2 6 _ rfl).1 n (fun j => va_rf (some (xad X (rf b j))))) rfl (fun z => by cases z) (by show ¬ (i < 0 ∨ (arrV _ _ _).slots.size ≤ _); rw [arrV_size]; exact hc) (by show (arrV _ _ _).slots[_]? = _; rw [arrV_read _ _ hlt]; rfl) rfl rfl hd (h hc hG v μ' ht H locs ls hP hS hl)
theorem T_bast {q : mMI} {X : mCx} {tgt : mR} {pc : Nat} {lv : List (Nat × Value)} {st : List Value} {μ : mMem} {b n : Nat} {i x : Int32} {dc : Decidable (vp_in i n)} (z : Int32) (hz : vp_nar .byte x = z) (hb : kd b = (9, n)) (hd : decode q.2.1 pc = .ok (.bastore, 1)) (h : T q X tgt (pc + 1) lv st (si μ b i.toNatClampNeg z)) : T q X (gd (vp_in i n) tgt dc) pc lv (.int x :: .int i :: .ref b :: st) μ := by
  subst hz
  unfold gd
  refine T_ite (fun hc => ?_) (fun _ => T_none)
  refine fun hG v μ' ht H locs ls hP hS hl => ?_
  have hb0 := kd_lt hb (by decide)
  refine va_bast (f := μ.1 b) hG.1 hG.2.1 hG.2.2.2.2.2.2.2.1 hP (ws_D hG.2.2.2.2.2.2.2.2.1 hG.2.2.2.2.2.2.2.2.2.1) hS b 0 (by rw [ws_at hb0, cell_int hb (by decide)]) rfl hc hd (fun H1 locs1 hP1 _ hS1 => ?_)
  refine h hG v μ' ht H1 locs1 ls ?_ hS1 hl
  rw [ws_set (μ' := si μ b i.toNatClampNeg (vp_nar .byte x)) hb0 (by rw [cell_int hb (by decide), si_b]) (si_o μ b _ _)] at hP1
  exact hP1
theorem T_iast {q : mMI} {X : mCx} {tgt : mR} {pc : Nat} {lv : List (Nat × Value)} {st : List Value} {μ : mMem} {b n : Nat} {i x : Int32} {dc : Decidable (vp_in i n)} (z : Int32) (hz : x = z) (hb : kd b = (10, n)) (hd : decode q.2.1 pc = .ok (.iastore, 1)) (h : T q X tgt (pc + 1) lv st (si μ b i.toNatClampNeg z)) : T q X (gd (vp_in i n) tgt dc) pc lv (.int x :: .int i :: .ref b :: st) μ := by
  subst hz
  unfold gd
  refine T_ite (fun hc => ?_) (fun _ => T_none)
  refine fun hG v μ' ht H locs ls hP hS hl => ?_
  have hb0 := kd_lt hb (by decide)
  refine va_iast (f := μ.1 b) hG.1 hG.2.1 hG.2.2.2.2.2.2.2.1 hP (ws_D hG.2.2.2.2.2.2.2.2.1 hG.2.2.2.2.2.2.2.2.2.1) hS b 1 (by rw [ws_at hb0, cell_int hb (by decide)]) rfl hc hd (fun H1 locs1 hP1 _ hS1 => ?_)
  refine h hG v μ' ht H1 locs1 ls ?_ hS1 hl
  rw [ws_set (μ' := si μ b i.toNatClampNeg (x)) hb0 (by rw [cell_int hb (by decide), si_b]) (si_o μ b _ _)] at hP1
  exact hP1
theorem T_zast {q : mMI} {X : mCx} {tgt : mR} {pc : Nat} {lv : List (Nat × Value)} {st : List Value} {μ : mMem} {b n : Nat} {i x : Int32} {dc : Decidable (vp_in i n)} (z : Int32) (hz : vp_nar .boolean x = z) (hb : kd b = (12, n)) (hd : decode q.2.1 pc = .ok (.bastore, 1)) (h : T q X tgt (pc + 1) lv st (si μ b i.toNatClampNeg z)) : T q X (gd (vp_in i n) tgt dc) pc lv (.int x :: .int i :: .ref b :: st) μ := by
  subst hz
  unfold gd
  refine T_ite (fun hc => ?_) (fun _ => T_none)
  refine fun hG v μ' ht H locs ls hP hS hl => ?_
  have hb0 := kd_lt hb (by decide)
  refine va_zast (f := μ.1 b) hG.1 hG.2.1 hG.2.2.2.2.2.2.2.1 hP (ws_D hG.2.2.2.2.2.2.2.2.1 hG.2.2.2.2.2.2.2.2.2.1) hS b 3 (by rw [ws_at hb0, cell_int hb (by decide)]) rfl hc hd (fun H1 locs1 hP1 _ hS1 => ?_)
  refine h hG v μ' ht H1 locs1 ls ?_ hS1 hl
  rw [ws_set (μ' := si μ b i.toNatClampNeg (vp_nar .boolean x)) hb0 (by rw [cell_int hb (by decide), si_b]) (si_o μ b _ _)] at hP1
  exact hP1
theorem T_last {q : mMI} {X : mCx} {tgt : mR} {pc : Nat} {lv : List (Nat × Value)} {st : List Value} {μ : mMem} {b n : Nat} {i : Int32} {x : Int64} {dc : Decidable (vp_in i n)} (hb : kd b = (11, n)) (hd : decode q.2.1 pc = .ok (.lastore, 1)) (h : T q X tgt (pc + 1) lv st (sl μ b i.toNatClampNeg x)) : T q X (gd (vp_in i n) tgt dc) pc lv (.long x :: .int i :: .ref b :: st) μ := by
  unfold gd
  refine T_ite (fun hc => ?_) (fun _ => T_none)
  refine fun hG v μ' ht H locs ls hP hS hl => ?_
  have hb0 := kd_lt hb (by decide)
  refine va_last (f := μ.2 b) hG.1 hG.2.1 hG.2.2.2.2.2.2.2.1 hP (ws_D hG.2.2.2.2.2.2.2.2.1 hG.2.2.2.2.2.2.2.2.2.1) hS b 2 (by rw [ws_at hb0, cell_long hb]) rfl hc hd (fun H1 locs1 hP1 _ hS1 => ?_)
  refine h hG v μ' ht H1 locs1 ls ?_ hS1 hl
  rw [ws_set (μ' := sl μ b i.toNatClampNeg x) hb0 (by rw [cell_long hb, sl_b]) (sl_o μ b _ _)] at hP1
  exact hP1
theorem Qb_ret {X : mCx} {v : Option Value} {μ : mMem} {H : Heap} {locs : List Loc} {a : Array Value} (hP : va_P (xD X) vwCl (wsOf (xad X) (xcA X) μ) H) (hS : va_S (xA X) (xs X).heap H locs) : ∀ t : State, t.heap = H → (xs X).WarmedH t.vm → Qb (xad X) (xcA X) (xD X) (xA X) v μ a (xs X) (.returned (v.map (cz (xad X)))) t := fun t ht _ => ⟨rfl, by rw [ht]; exact hP, hS.F ht⟩
theorem T_iret {q : mMI} {X : mCx} {pc : Nat} {lv : List (Nat × Value)} {μ : mMem} {x : Int32} (hr : q.2.2.2.1 = some .int) (hd : decode q.2.1 pc = .ok (.ireturn, 1)) : T q X (some (some (.int x), μ)) pc lv [.int x] μ := fun hG v μ' ht H locs ls hP hS hl => by
  obtain ⟨rfl, rfl⟩ : some (.int x) = v ∧ μ = μ' := by simpa using ht
  exact W.iret (v := x) hG.1 hG.2.1 (hG.2.2.2.1.trans hr) (Qb_ret (v := some (.int x)) hP hS) hS.2.2 hd (hlocks := hG.2.2.2.2.1)
theorem T_zret {q : mMI} {X : mCx} {pc : Nat} {lv : List (Nat × Value)} {μ : mMem} {x : Int32} {dc : Decidable (x = 0 ∨ x = 1)} (hr : q.2.2.2.1 = some .boolean) (hd : decode q.2.1 pc = .ok (.ireturn, 1)) : T q X (gd (x = 0 ∨ x = 1) (some (some (.int x), μ)) dc) pc lv [.int x] μ := by
  unfold gd
  refine T_ite (fun hc => ?_) (fun _ => T_none)
  refine fun hG v μ' ht H locs ls hP hS hl => ?_
  obtain ⟨rfl, rfl⟩ : some (.int x) = v ∧ μ = μ' := by simpa using ht
  exact W.zret (v := x) hG.1 hG.2.1 (hG.2.2.2.1.trans hr) (by rcases hc with rfl | rfl <;> rfl) (Qb_ret (v := some (.int x)) hP hS) hS.2.2 hd (hlocks := hG.2.2.2.2.1)
theorem T_zretc {q : mMI} {X : mCx} {pc : Nat} {lv : List (Nat × Value)} {μ : mMem} {x : Int32} (hc : narrow .boolean (.int x) = .int x) (hr : q.2.2.2.1 = some .boolean) (hd : decode q.2.1 pc = .ok (.ireturn, 1)) : T q X (some (some (.int x), μ)) pc lv [.int x] μ := fun hG v μ' ht H locs ls hP hS hl => by
  obtain ⟨rfl, rfl⟩ : some (.int x) = v ∧ μ = μ' := by simpa using ht
  exact W.zret (v := x) hG.1 hG.2.1 (hG.2.2.2.1.trans hr) hc (Qb_ret (v := some (.int x)) hP hS) hS.2.2 hd (hlocks := hG.2.2.2.2.1)
theorem T_lret {q : mMI} {X : mCx} {pc : Nat} {lv : List (Nat × Value)} {μ : mMem} {x : Int64} (hr : q.2.2.2.1 = some .long) (hd : decode q.2.1 pc = .ok (.lreturn, 1)) : T q X (some (some (.long x), μ)) pc lv [.long x] μ := fun hG v μ' ht H locs ls hP hS hl => by
  obtain ⟨rfl, rfl⟩ : some (.long x) = v ∧ μ = μ' := by simpa using ht
  exact W.lret (v := x) hG.1 hG.2.1 (hG.2.2.2.1.trans hr) (Qb_ret (v := some (.long x)) hP hS) hS.2.2 hd (hlocks := hG.2.2.2.2.1)
theorem T_vret {q : mMI} {X : mCx} {pc : Nat} {lv : List (Nat × Value)} {μ : mMem} (hr : q.2.2.2.1 = none) (hd : decode q.2.1 pc = .ok (.return_, 1)) : T q X (some (none, μ)) pc lv [] μ := fun hG v μ' ht H locs ls hP hS hl => by
  obtain ⟨rfl, rfl⟩ : none = v ∧ μ = μ' := by simpa using ht
  exact W.vret hG.1 hG.2.1 (hG.2.2.2.1.trans hr) (Qb_ret (v := none) hP hS) hS.2.2 hd (hlocks := hG.2.2.2.2.1)
theorem T_aret {q : mMI} {X : mCx} {pc : Nat} {lv : List (Nat × Value)} {μ : mMem} {b : Nat} {C : String} (hr : q.2.2.2.1 = some (.object C)) (hd : decode q.2.1 pc = .ok (.areturn, 1)) : T q X (some (some (.ref b), μ)) pc lv [.ref b] μ := fun hG v μ' ht H locs ls hP hS hl => by
  obtain ⟨rfl, rfl⟩ : some (.ref b) = v ∧ μ = μ' := by simpa using ht
  exact W.aret (v := .ref (xad X b)) hG.1 hG.2.1 (hG.2.2.2.1.trans hr) (Or.inl ⟨_, rfl⟩) (Or.inr ⟨_, rfl⟩) (Qb_ret (v := some (.ref b)) hP hS) hS.2.2 hd (hlocks := hG.2.2.2.2.1)
end
section
theorem callb {p : Program} {l : Launch} {e : Env} {R : Room} {s : State} {m : MethodId} {args : Array Value} {below : List Frame} {meth : Method} {c : Code} {H : Heap} {locs : List Loc} {Q : State → Prop} {pc : Nat} {ls : Array Slot} {st0 rest : List Value} {ad : Nat → Nat} {cA : Nat → ClassId} {D : va_G} {A0 A1 : Nat → Prop} {free : Addr → Prop} {H0 : Heap} {v0 : Option Value} {μ2 : mMem} {aa : Array Value}
    (hr : va_Run p l e R s m args below meth c H locs 0 0 0 0 (F0 m pc ls st0) rest (Qb ad cA D A1 v0 μ2 aa) free) (hS : va_S A0 H0 H locs) (hA : ∀ q, q < H.size → A1 q → A0 q) (hf : ∀ q, free q → A0 q)
    (kk : ∀ (H1 : Heap) (locs1 : List Loc), va_P D vwCl (wsOf ad cA μ2) H1 → va_S A0 H0 H1 locs1 → W p l e R s m args below meth c H1 locs1 0 0 Q (F0 m (pc + 3) ls ((v0.map (cz ad)).toList ++ rest))) : W p l e R s m args below meth c H locs 0 0 Q (F0 m pc ls st0) := by
  intro T hT X
  obtain ⟨v, st₀, t, T', L, h0, X', hL, e1, e2, ⟨hv, hPt, hz, hk⟩, st⟩ := hr T hT X
  have hv' : v = v0.map (cz ad) := by injection hv
  subst hv'
  rw [h0] at hz hk
  obtain ⟨t2, a1, b1⟩ := kk T'.heap (locs ++ L) (by rw [e1]; exact hPt)
    ⟨Nat.le_trans hS.1 (by rw [e1]; exact hz), fun q h1 h2 => by rw [e1, hk q (Nat.lt_of_lt_of_le h1 hS.1) (fun z => h2 (hA q (Nat.lt_of_lt_of_le h1 hS.1) z))]; exact hS.2.1 q h1 h2, fun q hq => by
      rcases List.mem_append.mp hq with h | h
      · exact hS.2.2 q h
      · exact hf _ (hL q h)⟩ T' rfl X'
  exact ⟨t2, st t2 a1, b1⟩
/-- what the tables say of a method that may be called -/
def mok (q : mMI) (n : Nat) : Prop := ((q.1.cls ≠ "java/lang/invoke/MethodHandle" ∧ q.1.cls ≠ "java/lang/invoke/VarHandle" ∧ (parseMethodDescriptor q.1.desc).map (fun d => d.parameters.length) = some n) ∧ q.2.2.1 ≤ 60) ∧ Cond.initialized q.1.cls ∈ gdL ∧ Cond.code q.1 q.2.1 q.2.2.1 q.2.2.2.1 ∈ gdL
def mokV (q : mMI) (n : Nat) : Prop := mok q n ∧ Cond.instanceMethod q.1 ∈ gdL ∧ Cond.selects q.1.cls q.1 q.1 ∈ gdL
def mokS (q : mMI) (n : Nat) : Prop := mok q n ∧ Cond.static q.1 ∈ gdL
theorem gdM {q : mMI} (h : Cond.code q.1 q.2.1 q.2.2.1 q.2.2.2.1 ∈ gdL) : GoodIn gdL (wsM q) := fun w hw => by
  rcases List.mem_cons.mp hw with rfl | hw
  · exact ⟨h, gd_good h⟩
  · exact ⟨hw, gd_good hw⟩
theorem callB_T {q q2 : mMI} {X : mCx} {n index : Nat} (hG : Good q X) (hm : mok q2 n) (hl : Cond.methodLink q.1.cls index q2.1 ∈ gdL) (hdp : q2.2.2.2.2 + 1 ≤ q.2.2.2.2) : CallB (rmOf q.2.2.2.2) (xs X) (xa X) q.1.cls index q2.1 q2.2.1 q2.2.2.1 q2.2.2.2.1 (wsM q2) (rmOf q2.2.2.2.2) 0 0 n :=
  callB_of n hG.2.2.2.2.2.2.1 (gdM hm.2.2) rfl rfl rfl (hG.2.2.2.2.2.2.1 _ hm.2.1) (hG.2.2.2.2.2.2.1 _ hl) hm.1.1 ⟨hdp, by
    have := hm.1.2
    show 8 + (q2.2.2.1 + 11) + 100 * q2.2.2.2.2 ≤ 100 * q.2.2.2.2
    omega⟩
theorem cz_sum (ad : Nat → Nat) (r : List Value) : ((r.map (cz ad)).map fun v => v.category).sum = (r.map fun v => v.category).sum := by
  induction r with
  | nil => rfl
  | cons a t ih => simp only [List.map_cons, List.sum_cons, ih, cz_cat]
theorem blind {av : List Value} {ad : Nat → Nat} {cA : Nat → ClassId} {D : va_G} {μ : mMem} {sz : Nat} : FrameBlind (va_Pc av (PreW ad cA D μ sz)) := fun a U g mk h => by
  obtain ⟨h0, h1, h2, h3, h4, h5⟩ := h
  exact ⟨h0, h1, h2, va_K.moved (u := U) (U := U.calling g mk a) (Vm.Alike.refl U.vm) h3, h4, ZS.same (s := U) rfl h5⟩
theorem AA_in {X : mCx} {q : mMI} {H : Heap} {locs : List Loc} (hG : Good q X) (hS : va_S (xA X) (xs X).heap H locs) : ∀ z, AA (xad X) H.size z → xA X z := fun z h => by
  rcases h with ⟨i, hi, rfl⟩ | h
  · exact hG.2.2.2.2.2.2.2.2.2.1 i hi
  · exact hG.2.2.2.2.2.2.2.2.2.2.1 z (Nat.le_trans hS.1 h)
theorem preH {X : mCx} {q : mMI} {μ : mMem} {H : Heap} {locs : List Loc} {U : State} (hG : Good q X) (hP : va_P (xD X) vwCl (wsOf (xad X) (xcA X) μ) H) (hS : va_S (xA X) (xs X).heap H locs) (hU : U.heap = H) (hW : (xs X).WarmedH U.vm) : PreW (xad X) (xcA X) (xD X) μ H.size U := by
  refine ⟨by rw [hU], by rw [hU]; exact hP, va_K.moved hW.alike hG.2.2.2.2.2.2.2.1, hG.2.2.2.2.2.2.2.2.1, ?_⟩
  rw [hU]
  exact ZS.warm hW ((hG.2.2.2.2.2.2.2.2.2.2.2.kept hS.2.1).narrow (AA_in hG hS))
theorem T_callV {q q2 : mMI} {X : mCx} {tgt : mR} {pc : Nat} {lv : List (Nat × Value)} {μ μ2 : mMem} {v2 : Option Value} {b c n index N : Nat} {TT : u_T} (As rest : List Value) (hm : mokV q2 n) (hlk : Cond.methodLink q.1.cls index q2.1 ∈ gdL) (hb : kd b = (c, 0)) (hc : vwCl[c]? = some (q2.1.cls, TT, N)) (hn : As.length = n) (hdp : q2.2.2.2.2 + 1 ≤ q.2.2.2.2) (hcat : (rest.map fun v => v.category).sum ≤ 8) (hd : decode q.2.1 pc = .ok (.invokevirtual index, 3)) (hB : BS (xl X) q2 (.ref b :: As) μ (some (v2, μ2))) (h : T q X tgt (pc + 3) lv (v2.toList ++ rest) μ2) : T q X tgt pc lv (As.reverse ++ .ref b :: rest) μ := fun hG v μ' ht H locs ls hP hS hl => by
  have hb0 := kd_lt hb (by have := vw_lt hc; omega)
  have hM := hB v2 μ2 rfl (xD X) (xad X) (xcA X) H.size
  have hrv := va_recv hG.2.2.2.2.2.2.2.1 hP hc (q0 := b) (a := xad X b) (fs := fsOf (xad X) c b (μ.1 b)) (by rw [ws_at hb0, cell_obj hb (vw_lt hc)])
  have hr := va_runV (As := As.map (cz (xad X))) (rest := rest.map (cz (xad X))) (g := F0 (xm X) pc ls ((As.reverse ++ .ref b :: rest).map (cz (xad X)))) (locs := locs) (cells := 0) (slots := 0) (below := xb X) (e := xe X) (meth := xM X) (H := H) ⟨hG.1, hG.2.1, hG.2.2.1, hG.2.2.2.2.2.1, hG.2.2.2.2.2.2.1⟩ hM ⟨callB_T hG hm.1 hlk hdp, hG.2.2.2.2.2.2.1 _ hm.2.1, hG.2.2.2.2.2.2.1 _ hm.2.2⟩ ⟨blind, hrv, fun U hU hW => ⟨rfl, preH hG hP hS hU hW⟩⟩ rfl (by rw [List.length_map]; exact hn) hl.1 (by simp [cz]) (lv_room (by rw [cz_sum]; exact hcat)) hd ⟨Nat.zero_le _, Nat.zero_le _⟩
  refine callb hr hS (fun z _ hz => AA_in hG hS z hz) (AA_in hG hS) (fun H1 locs1 hP1 hS1 => ?_)
  have := h hG v μ' ht H1 locs1 ls hP1 hS1 hl
  rw [List.map_append] at this
  cases v2 <;> exact this
theorem T_callS {q q2 : mMI} {X : mCx} {tgt : mR} {pc : Nat} {lv : List (Nat × Value)} {μ μ2 : mMem} {v2 : Option Value} {n index : Nat} (As rest : List Value) (hm : mokS q2 n) (hlk : Cond.methodLink q.1.cls index q2.1 ∈ gdL) (hn : As.length = n) (hdp : q2.2.2.2.2 + 1 ≤ q.2.2.2.2) (hcat : (rest.map fun v => v.category).sum ≤ 8) (hd : decode q.2.1 pc = .ok (.invokestatic index, 3)) (hB : BS (xl X) q2 As μ (some (v2, μ2))) (h : T q X tgt (pc + 3) lv (v2.toList ++ rest) μ2) : T q X tgt pc lv (As.reverse ++ rest) μ := fun hG v μ' ht H locs ls hP hS hl => by
  have hM := hB v2 μ2 rfl (xD X) (xad X) (xcA X) H.size
  have hr := va_runS (As := As.map (cz (xad X))) (rest := rest.map (cz (xad X))) (g := F0 (xm X) pc ls ((As.reverse ++ rest).map (cz (xad X)))) (locs := locs) (cells := 0) (slots := 0) (below := xb X) (e := xe X) (meth := xM X) (H := H) ⟨hG.1, hG.2.1, hG.2.2.1, hG.2.2.2.2.2.1, hG.2.2.2.2.2.2.1⟩ hM ⟨callB_T hG hm.1 hlk hdp, hG.2.2.2.2.2.2.1 _ hm.2⟩ ⟨blind, fun U hU hW => ⟨rfl, preH hG hP hS hU hW⟩⟩ rfl (by rw [List.length_map]; exact hn) hl.1 (by simp) (lv_room (by rw [cz_sum]; exact hcat)) hd ⟨Nat.zero_le _, Nat.zero_le _⟩
  refine callb hr hS (fun z _ hz => AA_in hG hS z hz) (AA_in hG hS) (fun H1 locs1 hP1 hS1 => ?_)
  have := h hG v μ' ht H1 locs1 ls hP1 hS1 hl
  rw [List.map_append] at this
  cases v2 <;> exact this
/-- go on with what a call answered -/
def bI (r : mR) (k : Int32 → mMem → mR) : mR := match r with
  | some (some (.int x), μ) => k x μ
  | _ => none
def bL (r : mR) (k : Int64 → mMem → mR) : mR := match r with
  | some (some (.long x), μ) => k x μ
  | _ => none
def bA (r : mR) (k : Nat → mMem → mR) : mR := match r with
  | some (some (.ref x), μ) => k x μ
  | _ => none
def bV (r : mR) (k : mMem → mR) : mR := match r with
  | some (none, μ) => k μ
  | _ => none
theorem bI_of {r : mR} {k : Int32 → mMem → mR} {z : Option Value × mMem} (h : bI r k = some z) : ∃ x μ, r = some (some (.int x), μ) ∧ k x μ = some z := by
  unfold bI at h
  split at h
  · exact ⟨_, _, rfl, h⟩
  · cases h
theorem bL_of {r : mR} {k : Int64 → mMem → mR} {z : Option Value × mMem} (h : bL r k = some z) : ∃ x μ, r = some (some (.long x), μ) ∧ k x μ = some z := by
  unfold bL at h
  split at h
  · exact ⟨_, _, rfl, h⟩
  · cases h
theorem bA_of {r : mR} {k : Nat → mMem → mR} {z : Option Value × mMem} (h : bA r k = some z) : ∃ x μ, r = some (some (.ref x), μ) ∧ k x μ = some z := by
  unfold bA at h
  split at h
  · exact ⟨_, _, rfl, h⟩
  · cases h
theorem bV_of {r : mR} {k : mMem → mR} {z : Option Value × mMem} (h : bV r k = some z) : ∃ μ, r = some (none, μ) ∧ k μ = some z := by
  unfold bV at h
  split at h
  · exact ⟨_, rfl, h⟩
  · cases h
theorem T_cVI {q q2 : mMI} {X : mCx} {r : mR} {k : Int32 → mMem → mR} {pc : Nat} {lv : List (Nat × Value)} {μ : mMem} {b c n index N : Nat} {TT : u_T} (As rest : List Value) (hm : mokV q2 n) (hlk : Cond.methodLink q.1.cls index q2.1 ∈ gdL) (hc : vwCl[c]? = some (q2.1.cls, TT, N)) (hn : As.length = n) (hdp : q2.2.2.2.2 + 1 ≤ q.2.2.2.2) (hcat : (rest.map fun v => v.category).sum ≤ 8) (hb : kd b = (c, 0)) (hd : decode q.2.1 pc = .ok (.invokevirtual index, 3)) (hB : BS (xl X) q2 (.ref b :: As) μ r) (h : ∀ (x : Int32) (μ2 : mMem), T q X (k x μ2) (pc + 3) lv (.int x :: rest) μ2) : T q X (bI r k) pc lv (As.reverse ++ .ref b :: rest) μ := fun hG v μ' ht H locs ls hP hS hl => by
  obtain ⟨x, μ2, rfl, hk⟩ := bI_of ht
  exact T_callV (v2 := some (.int x)) As rest hm hlk hb hc hn hdp hcat hd hB (h x μ2) hG v μ' hk H locs ls hP hS hl
theorem T_cSI {q q2 : mMI} {X : mCx} {r : mR} {k : Int32 → mMem → mR} {pc : Nat} {lv : List (Nat × Value)} {μ : mMem} {n index : Nat} (As rest : List Value) (hm : mokS q2 n) (hlk : Cond.methodLink q.1.cls index q2.1 ∈ gdL) (hn : As.length = n) (hdp : q2.2.2.2.2 + 1 ≤ q.2.2.2.2) (hcat : (rest.map fun v => v.category).sum ≤ 8) (hd : decode q.2.1 pc = .ok (.invokestatic index, 3)) (hB : BS (xl X) q2 As μ r) (h : ∀ (x : Int32) (μ2 : mMem), T q X (k x μ2) (pc + 3) lv (.int x :: rest) μ2) : T q X (bI r k) pc lv (As.reverse ++ rest) μ := fun hG v μ' ht H locs ls hP hS hl => by
  obtain ⟨x, μ2, rfl, hk⟩ := bI_of ht
  exact T_callS (v2 := some (.int x)) As rest hm hlk hn hdp hcat hd hB (h x μ2) hG v μ' hk H locs ls hP hS hl
theorem T_cVL {q q2 : mMI} {X : mCx} {r : mR} {k : Int64 → mMem → mR} {pc : Nat} {lv : List (Nat × Value)} {μ : mMem} {b c n index N : Nat} {TT : u_T} (As rest : List Value) (hm : mokV q2 n) (hlk : Cond.methodLink q.1.cls index q2.1 ∈ gdL) (hc : vwCl[c]? = some (q2.1.cls, TT, N)) (hn : As.length = n) (hdp : q2.2.2.2.2 + 1 ≤ q.2.2.2.2) (hcat : (rest.map fun v => v.category).sum ≤ 8) (hb : kd b = (c, 0)) (hd : decode q.2.1 pc = .ok (.invokevirtual index, 3)) (hB : BS (xl X) q2 (.ref b :: As) μ r) (h : ∀ (x : Int64) (μ2 : mMem), T q X (k x μ2) (pc + 3) lv (.long x :: rest) μ2) : T q X (bL r k) pc lv (As.reverse ++ .ref b :: rest) μ := fun hG v μ' ht H locs ls hP hS hl => by
  obtain ⟨x, μ2, rfl, hk⟩ := bL_of ht
  exact T_callV (v2 := some (.long x)) As rest hm hlk hb hc hn hdp hcat hd hB (h x μ2) hG v μ' hk H locs ls hP hS hl
theorem T_cSL {q q2 : mMI} {X : mCx} {r : mR} {k : Int64 → mMem → mR} {pc : Nat} {lv : List (Nat × Value)} {μ : mMem} {n index : Nat} (As rest : List Value) (hm : mokS q2 n) (hlk : Cond.methodLink q.1.cls index q2.1 ∈ gdL) (hn : As.length = n) (hdp : q2.2.2.2.2 + 1 ≤ q.2.2.2.2) (hcat : (rest.map fun v => v.category).sum ≤ 8) (hd : decode q.2.1 pc = .ok (.invokestatic index, 3)) (hB : BS (xl X) q2 As μ r) (h : ∀ (x : Int64) (μ2 : mMem), T q X (k x μ2) (pc + 3) lv (.long x :: rest) μ2) : T q X (bL r k) pc lv (As.reverse ++ rest) μ := fun hG v μ' ht H locs ls hP hS hl => by
  obtain ⟨x, μ2, rfl, hk⟩ := bL_of ht
  exact T_callS (v2 := some (.long x)) As rest hm hlk hn hdp hcat hd hB (h x μ2) hG v μ' hk H locs ls hP hS hl
theorem T_cVA {q q2 : mMI} {X : mCx} {r : mR} {k : Nat → mMem → mR} {pc : Nat} {lv : List (Nat × Value)} {μ : mMem} {b c n index N : Nat} {TT : u_T} (As rest : List Value) (hm : mokV q2 n) (hlk : Cond.methodLink q.1.cls index q2.1 ∈ gdL) (hc : vwCl[c]? = some (q2.1.cls, TT, N)) (hn : As.length = n) (hdp : q2.2.2.2.2 + 1 ≤ q.2.2.2.2) (hcat : (rest.map fun v => v.category).sum ≤ 8) (hb : kd b = (c, 0)) (hd : decode q.2.1 pc = .ok (.invokevirtual index, 3)) (hB : BS (xl X) q2 (.ref b :: As) μ r) (h : ∀ (x : Nat) (μ2 : mMem), T q X (k x μ2) (pc + 3) lv (.ref x :: rest) μ2) : T q X (bA r k) pc lv (As.reverse ++ .ref b :: rest) μ := fun hG v μ' ht H locs ls hP hS hl => by
  obtain ⟨x, μ2, rfl, hk⟩ := bA_of ht
  exact T_callV (v2 := some (.ref x)) As rest hm hlk hb hc hn hdp hcat hd hB (h x μ2) hG v μ' hk H locs ls hP hS hl
theorem T_cSA {q q2 : mMI} {X : mCx} {r : mR} {k : Nat → mMem → mR} {pc : Nat} {lv : List (Nat × Value)} {μ : mMem} {n index : Nat} (As rest : List Value) (hm : mokS q2 n) (hlk : Cond.methodLink q.1.cls index q2.1 ∈ gdL) (hn : As.length = n) (hdp : q2.2.2.2.2 + 1 ≤ q.2.2.2.2) (hcat : (rest.map fun v => v.category).sum ≤ 8) (hd : decode q.2.1 pc = .ok (.invokestatic index, 3)) (hB : BS (xl X) q2 As μ r) (h : ∀ (x : Nat) (μ2 : mMem), T q X (k x μ2) (pc + 3) lv (.ref x :: rest) μ2) : T q X (bA r k) pc lv (As.reverse ++ rest) μ := fun hG v μ' ht H locs ls hP hS hl => by
  obtain ⟨x, μ2, rfl, hk⟩ := bA_of ht
  exact T_callS (v2 := some (.ref x)) As rest hm hlk hn hdp hcat hd hB (h x μ2) hG v μ' hk H locs ls hP hS hl
theorem T_cVV {q q2 : mMI} {X : mCx} {r : mR} {k : mMem → mR} {pc : Nat} {lv : List (Nat × Value)} {μ : mMem} {b c n index N : Nat} {TT : u_T} (As rest : List Value) (hm : mokV q2 n) (hlk : Cond.methodLink q.1.cls index q2.1 ∈ gdL) (hc : vwCl[c]? = some (q2.1.cls, TT, N)) (hn : As.length = n) (hdp : q2.2.2.2.2 + 1 ≤ q.2.2.2.2) (hcat : (rest.map fun v => v.category).sum ≤ 8) (hb : kd b = (c, 0)) (hd : decode q.2.1 pc = .ok (.invokevirtual index, 3)) (hB : BS (xl X) q2 (.ref b :: As) μ r) (h : ∀ (μ2 : mMem), T q X (k μ2) (pc + 3) lv rest μ2) : T q X (bV r k) pc lv (As.reverse ++ .ref b :: rest) μ := fun hG v μ' ht H locs ls hP hS hl => by
  obtain ⟨μ2, rfl, hk⟩ := bV_of ht
  exact T_callV (v2 := none) As rest hm hlk hb hc hn hdp hcat hd hB (h μ2) hG v μ' hk H locs ls hP hS hl
theorem T_cSV {q q2 : mMI} {X : mCx} {r : mR} {k : mMem → mR} {pc : Nat} {lv : List (Nat × Value)} {μ : mMem} {n index : Nat} (As rest : List Value) (hm : mokS q2 n) (hlk : Cond.methodLink q.1.cls index q2.1 ∈ gdL) (hn : As.length = n) (hdp : q2.2.2.2.2 + 1 ≤ q.2.2.2.2) (hcat : (rest.map fun v => v.category).sum ≤ 8) (hd : decode q.2.1 pc = .ok (.invokestatic index, 3)) (hB : BS (xl X) q2 As μ r) (h : ∀ (μ2 : mMem), T q X (k μ2) (pc + 3) lv rest μ2) : T q X (bV r k) pc lv (As.reverse ++ rest) μ := fun hG v μ' ht H locs ls hP hS hl => by
  obtain ⟨μ2, rfl, hk⟩ := bV_of ht
  exact T_callS (v2 := none) As rest hm hlk hn hdp hcat hd hB (h μ2) hG v μ' hk H locs ls hP hS hl
theorem BS_of {l : Launch} {q : mMI} {av : List Value} {μ : mMem} {tgt : mR} (hpl : plainName q.1.cls = true) (hln : (lg_sl av).length ≤ q.2.2.1) (h : ∀ X : mCx, xl X = l → T q X tgt 0 (lv_args 0 av) [] μ) : BS l q av μ tgt := by
  intro v μ' ht D ad cA sz
  refine Met.ofW (cc := q.2.1) (maxL := q.2.2.1) (ret := q.2.2.2.1) hpl rfl ?_
  intro p e s m args below meth c s₁ B hml hv
  obtain ⟨rfl, hsz, hP, hK, hj, hZ⟩ := hv
  subst hsz
  have hl := lv_entry (av.map (cz ad)) (n := q.2.2.1) (by rw [ls_am]; exact hln)
  rw [lv_am] at hl
  rw [lg_entry_eq]
  exact h (p, l, e, s, m, (av.map (cz ad)).toArray, below, meth, c, ad, cA, D, AA ad s.heap.size) rfl ⟨B.exec, B.bytes, hml, B.returns, B.notSynchronized, findClass_of_methodNamed B.named, fun w hw => atoms_spec (ws := wsM q) B.pre w (List.mem_cons_of_mem _ hw), hK, hj, fun i hi => Or.inl ⟨i, hi, rfl⟩, fun z hz => Or.inr hz, hZ⟩ v μ' ht s.heap [] _ hP va_S.rf hl
theorem lk_cpy : Cond.native arraycopyName ∈ gdL ∧ Cond.static arraycopyName ∈ gdL ∧ Cond.initialized "java/lang/System" ∈ gdL := by decide +kernel
theorem T_cpyI {q : mMI} {X : mCx} {tgt : mR} {pc : Nat} {lv : List (Nat × Value)} {st : List Value} {μ : mMem} {a b n0 n1 index N : Nat} {n : Int32} (hN : n.toNatClampNeg = N) (h3 : ¬ n < 0) (h4 : N ≤ n0) (h5 : N ≤ n1) (hlk : Cond.methodLink q.1.cls index arraycopyName ∈ gdL) (hdp : 1 ≤ q.2.2.2.2) (hcat : (st.map fun v => v.category).sum ≤ 8) (ha : kd a = (10, n0)) (hb : kd b = (10, n1)) (hd : decode q.2.1 pc = .ok (.invokestatic index, 3)) (h : T q X tgt (pc + 3) lv st (ci μ a b 0 0 N)) : T q X tgt pc lv (.int n :: .int 0 :: .ref b :: .int 0 :: .ref a :: st) μ := fun hG v μ' ht H locs ls hP hS hl => by
  subst hN
  have ha0 := kd_lt ha (by decide)
  have hb0 := kd_lt hb (by decide)
  have hts := hG.2.2.2.2.2.2.1
  refine va_copyi (f := μ.1 a) (g := μ.1 b) (ty := .int) hG.1 hG.2.1 (hG.2.2.1.trans hl.1.symm) hG.2.2.2.2.2.1 (hts _ hlk) (hts _ lk_cpy.1) (hts _ lk_cpy.2.1) (hts _ lk_cpy.2.2) hG.2.2.2.2.2.2.2.1 hP (ws_D hG.2.2.2.2.2.2.2.2.1 hG.2.2.2.2.2.2.2.2.2.1) hS a b 1 1 (by rw [ws_at ha0, cell_int ha (by decide)]) (by rw [ws_at hb0, cell_int hb (by decide)]) rfl rfl rfl (by decide) (by decide) h3 (by simpa using h4) (by simpa using h5) (fun i _ => rfl) hdp ?_ hd (fun H1 locs1 hP1 _ hS1 => ?_)
  · rw [cz_sum]
    have e : nativeFrameWords "java/lang/System" "arraycopy" 5 + 11 ≤ 60 := by decide +kernel
    show _ ≤ 100 * q.2.2.2.2
    omega
  · refine h hG v μ' ht H1 locs1 ls ?_ hS1 hl
    rw [← ws_set (ad := xad X) (cA := xcA X) (μ := μ) (μ' := ci μ a b 0 0 n.toNatClampNeg) (E := .inl (xcA X 10, n1, .inl (va_cpy (μ.1 a) (μ.1 b) 0 0 n.toNatClampNeg))) hb0 (by rw [cell_int hb (by decide)]; simp [ci]) (fun j hj => ⟨by simp [ci, hj], rfl⟩)]
    exact hP1
theorem T_cpyL {q : mMI} {X : mCx} {tgt : mR} {pc : Nat} {lv : List (Nat × Value)} {st : List Value} {μ : mMem} {a b n0 n1 index N : Nat} {n : Int32} (hN : n.toNatClampNeg = N) (h3 : ¬ n < 0) (h4 : N ≤ n0) (h5 : N ≤ n1) (hlk : Cond.methodLink q.1.cls index arraycopyName ∈ gdL) (hdp : 1 ≤ q.2.2.2.2) (hcat : (st.map fun v => v.category).sum ≤ 8) (ha : kd a = (11, n0)) (hb : kd b = (11, n1)) (hd : decode q.2.1 pc = .ok (.invokestatic index, 3)) (h : T q X tgt (pc + 3) lv st (cl μ a b 0 0 N)) : T q X tgt pc lv (.int n :: .int 0 :: .ref b :: .int 0 :: .ref a :: st) μ := fun hG v μ' ht H locs ls hP hS hl => by
  subst hN
  have ha0 := kd_lt ha (by decide)
  have hb0 := kd_lt hb (by decide)
  have hts := hG.2.2.2.2.2.2.1
  refine va_copyl (f := μ.2 a) (g := μ.2 b) (ty := .long) hG.1 hG.2.1 (hG.2.2.1.trans hl.1.symm) hG.2.2.2.2.2.1 (hts _ hlk) (hts _ lk_cpy.1) (hts _ lk_cpy.2.1) (hts _ lk_cpy.2.2) hG.2.2.2.2.2.2.2.1 hP (ws_D hG.2.2.2.2.2.2.2.2.1 hG.2.2.2.2.2.2.2.2.2.1) hS a b 2 2 (by rw [ws_at ha0, cell_long ha]) (by rw [ws_at hb0, cell_long hb]) rfl rfl rfl (by decide) (by decide) h3 (by simpa using h4) (by simpa using h5) (fun i _ => rfl) hdp ?_ hd (fun H1 locs1 hP1 _ hS1 => ?_)
  · rw [cz_sum]
    have e : nativeFrameWords "java/lang/System" "arraycopy" 5 + 11 ≤ 60 := by decide +kernel
    show _ ≤ 100 * q.2.2.2.2
    omega
  · refine h hG v μ' ht H1 locs1 ls ?_ hS1 hl
    rw [← ws_set (ad := xad X) (cA := xcA X) (μ := μ) (μ' := cl μ a b 0 0 n.toNatClampNeg) (E := .inl (xcA X 11, n1, .inr (.inl (va_cpy (μ.2 a) (μ.2 b) 0 0 n.toNatClampNeg)))) hb0 (by rw [cell_long hb]; simp [cl]) (fun j hj => ⟨rfl, by simp [cl, hj]⟩)]
    exact hP1
theorem T_tsIn {q : mMI} {X : mCx} {tgt : mR} {pc : Nat} {lv : List (Nat × Value)} {st : List Value} {μ : mMem} {x : Int32} {dflt lo hi : Int} {offs : Array Int} {len : Nat} {off : Int} (z : Int32) (t : Nat) (hx : x = z) (hd : decode q.2.1 pc = .ok (.tableswitch dflt lo hi offs, len)) (h1 : ¬ z.toInt < lo) (h2 : ¬ hi < z.toInt) (ho : offs[(z.toInt - lo).toNat]? = some off) (htg : (pc : Int) + off = (t : Int)) (h : T q X tgt t lv st μ) : T q X tgt pc lv (.int x :: st) μ := by
  subst hx
  exact fun hG v μ' ht H locs ls hP hS hl => lv_tableIn hG.1 hG.2.1 hd h1 h2 ho htg (h hG v μ' ht H locs ls hP hS hl)
theorem T_tsOut {q : mMI} {X : mCx} {tgt : mR} {pc : Nat} {lv : List (Nat × Value)} {st : List Value} {μ : mMem} {x : Int32} {dflt lo hi : Int} {offs : Array Int} {len : Nat} (t : Nat) (hx : x.toInt < lo ∨ hi < x.toInt) (hd : decode q.2.1 pc = .ok (.tableswitch dflt lo hi offs, len)) (htg : (pc : Int) + dflt = (t : Int)) (h : T q X tgt t lv st μ) : T q X tgt pc lv (.int x :: st) μ :=
  fun hG v μ' ht H locs ls hP hS hl => lv_tableOut hG.1 hG.2.1 hd hx htg (h hG v μ' ht H locs ls hP hS hl)
theorem T_lsw {q : mMI} {X : mCx} {tgt : mR} {pc : Nat} {lv : List (Nat × Value)} {st : List Value} {μ : mMem} {x : Int32} {dflt : Int} {ps : Array (Int × Int)} {len : Nat} {off : Int} (t : Nat) (hd : decode q.2.1 pc = .ok (.lookupswitch dflt ps, len)) (hp : (ps.toList.zip (ps.toList.drop 1)).all (fun (a, next) => a.1 < next.1) = true) (ho : Op.lookupswitch.offset ps.toList dflt x.toInt = off) (htg : (pc : Int) + off = (t : Int)) (h : T q X tgt t lv st μ) : T q X tgt pc lv (.int x :: st) μ :=
  fun hG v μ' ht H locs ls hP hS hl => lv_lookup hG.1 hG.2.1 hd hp ho htg (h hG v μ' ht H locs ls hP hS hl)
theorem T_dup2 {q : mMI} {X : mCx} {tgt : mR} {pc : Nat} {lv : List (Nat × Value)} {st : List Value} {μ : mMem} {x y : Value} (hx : x.category = 1) (hy : y.category = 1) (hd : decode q.2.1 pc = .ok (.dup2, 1)) (h : T q X tgt (pc + 1) lv (x :: y :: x :: y :: st) μ) : T q X tgt pc lv (x :: y :: st) μ :=
  fun hG v μ' ht H locs ls hP hS hl => lv_dup2_11 hG.1 hG.2.1 hd (by rw [cz_cat]; exact hx) (by rw [cz_cat]; exact hy) (h hG v μ' ht H locs ls hP hS hl)
theorem tsO {x : Int32} (n : Nat) (hn : n < 2 ^ 31) (h : ∀ k, k < n → ¬ x = nI k) : x.toInt < 0 ∨ (n : Int) - 1 < x.toInt := by
  by_cases h0 : x.toInt < 0
  · exact Or.inl h0
  · refine Or.inr ?_
    rcases Int.lt_or_le ((n : Int) - 1) x.toInt with q | q
    · exact q
    · exfalso
      have hk : x.toInt.toNat < n := by omega
      refine h _ hk ?_
      apply Int32.toInt_inj.mp
      rw [nI_toInt (by omega)]
      omega
end
section
theorem hZS {q : mMI} {X : mCx} (hG : Good q X) : ZS (xad X) (xA X) (xs X) (xs X).heap := hG.2.2.2.2.2.2.2.2.2.2.2
theorem T_gg {q : mMI} {X : mCx} {r : mR} {pc : Nat} {lv : List (Nat × Value)} {st : List Value} {μ : mMem} {c : Prop} {dc : Decidable c} (h : c → T q X r pc lv st μ) : T q X (gd c r dc) pc lv st μ := by
  unfold gd
  exact T_ite h (fun _ => T_none)
theorem T_gs {q : mMI} {X : mCx} {tgt : mR} {pc : Nat} {lv : List (Nat × Value)} {st : List Value} {μ : mMem} {C nm ds : String} {x : Value} {index : Nat} (hz : ∀ X : mCx, ZS (xad X) (xA X) (xs X) (xs X).heap → va_Z C nm ds (cz (xad X) x) (xA X) (xs X) (xs X).heap) (hw : Cond.fieldLink q.1.cls index C nm ds ∈ gdL) (hd : decode q.2.1 pc = .ok (.getstatic index, 3)) (h : T q X tgt (pc + 3) lv (x :: st) μ) : T q X tgt pc lv st μ := fun hG v μ' ht H locs ls hP hS hl => va_gets hG.1 hG.2.1 (hz X (hZS hG)) hS hG.2.2.2.2.2.1 (hG.2.2.2.2.2.2.1 _ hw) (fun _ h => h) hd (h hG v μ' ht H locs ls hP hS hl)
theorem T_tald {q : mMI} {X : mCx} {tgt : mR} {pc : Nat} {lv : List (Nat × Value)} {st : List Value} {μ : mMem} {z N : Nat} {tb : List Int32} {i : Int32} {dc : Decidable (vp_in i N)} (hz : ∀ X : mCx, ZS (xad X) (xA X) (xs X) (xs X).heap → va_T .int (xad X z) N (fun j => .int (tb.getD j 0)) (xA X) (xs X) (xs X).heap) (hd : decode q.2.1 pc = .ok (.iaload, 1)) (h : T q X tgt (pc + 1) lv (.int (tb.getD i.toNatClampNeg 0) :: st) μ) : T q X (gd (vp_in i N) tgt dc) pc lv (.int i :: .ref z :: st) μ := T_gg (fun hc => fun hG v μ' ht H locs ls hP hS hl => va_ti hG.1 hG.2.1 (hz X (hZS hG)) hS hc rfl hd (h hG v μ' ht H locs ls hP hS hl))
theorem zs114 : ∀ X : mCx, ZS (xad X) (xA X) (xs X) (xs X).heap → va_Z "RankStairs$Tape" "NUMBERS" "[I" (cz (xad X) (.ref 114)) (xA X) (xs X) (xs X).heap := fun _ h => h.1.1
theorem zt114 : ∀ X : mCx, ZS (xad X) (xA X) (xs X) (xs X).heap → va_T .int (xad X 114) 7 (fun j => .int (tb114.getD j 0)) (xA X) (xs X) (xs X).heap := fun _ h => h.1.2
theorem zs115 : ∀ X : mCx, ZS (xad X) (xA X) (xs X) (xs X).heap → va_Z "RankStairs$Tape" "LEAST" "[I" (cz (xad X) (.ref 115)) (xA X) (xs X) (xs X).heap := fun _ h => h.2.1.1
theorem zt115 : ∀ X : mCx, ZS (xad X) (xA X) (xs X) (xs X).heap → va_T .int (xad X 115) 28 (fun j => .int (tb115.getD j 0)) (xA X) (xs X) (xs X).heap := fun _ h => h.2.1.2
theorem zs116 : ∀ X : mCx, ZS (xad X) (xA X) (xs X) (xs X).heap → va_Z "RankStairs$Tape" "MOST" "[I" (cz (xad X) (.ref 116)) (xA X) (xs X) (xs X).heap := fun _ h => h.2.2.1.1
theorem zt116 : ∀ X : mCx, ZS (xad X) (xA X) (xs X) (xs X).heap → va_T .int (xad X 116) 28 (fun j => .int (tb116.getD j 0)) (xA X) (xs X) (xs X).heap := fun _ h => h.2.2.1.2
theorem zsC : ∀ X : mCx, ZS (xad X) (xA X) (xs X) (xs X).heap → va_Z "java/lang/String" "COMPACT_STRINGS" "Z" (cz (xad X) (.int 1)) (xA X) (xs X) (xs X).heap := fun _ h => h.2.2.2.1
theorem T_ldcS {q : mMI} {X : mCx} {tgt : mR} {pc : Nat} {lv : List (Nat × Value)} {st : List Value} {μ : mMem} {index : Nat} (i : Nat) (hi : i < 7) (hx : sIdx.getD i 0 = index) (hc : q.1.cls = "RankStairs$Tape") (hd : decode q.2.1 pc = .ok (.ldc index, 2)) (h : T q X tgt (pc + 2) lv (.ref (100 + i) :: st) μ) : T q X tgt pc lv st μ := fun hG v μ' ht H locs ls hP hS hl => by
  subst hx
  have h1 := hG.2.2.2.2.2.1
  rw [hc] at h1
  exact va_ldcS hG.1 hG.2.1 h1 ((hZS hG).2.2.2.2.2.2 i hi) hd (h hG v μ' ht H locs ls hP hS hl)
theorem T_gSv {q : mMI} {X : mCx} {tgt : mR} {pc : Nat} {lv : List (Nat × Value)} {st : List Value} {μ : mMem} {b index : Nat} (hb : 100 ≤ b ∧ b < 107) (hw : Cond.fieldLink q.1.cls index "java/lang/String" "value" "[B" ∈ gdL) (hd : decode q.2.1 pc = .ok (.getfield index, 3)) (h : T q X tgt (pc + 3) lv (.ref (b + 7) :: st) μ) : T q X tgt pc lv (.ref b :: st) μ := fun hG v μ' ht H locs ls hP hS hl => by
  obtain ⟨i, hi⟩ : ∃ i, b = 100 + i := ⟨b - 100, by omega⟩
  subst hi
  have e : 100 + i + 7 = 107 + i := by omega
  rw [e] at h
  exact vk_getf hG.1 hG.2.1 ((hZS hG).2.2.2.2.2.1.1 i (by omega)).2.2.1 hS hG.2.2.2.2.2.1 (hG.2.2.2.2.2.2.1 _ hw) (fun _ h => h) hd (h hG v μ' ht H locs ls hP hS hl)
theorem T_gSc {q : mMI} {X : mCx} {tgt : mR} {pc : Nat} {lv : List (Nat × Value)} {st : List Value} {μ : mMem} {b index : Nat} (hb : 100 ≤ b ∧ b < 107) (hw : Cond.fieldLink q.1.cls index "java/lang/String" "coder" "B" ∈ gdL) (hd : decode q.2.1 pc = .ok (.getfield index, 3)) (h : T q X tgt (pc + 3) lv (.int 0 :: st) μ) : T q X tgt pc lv (.ref b :: st) μ := fun hG v μ' ht H locs ls hP hS hl => by
  obtain ⟨i, hi⟩ : ∃ i, b = 100 + i := ⟨b - 100, by omega⟩
  subst hi
  exact vk_getf hG.1 hG.2.1 ((hZS hG).2.2.2.2.2.1.1 i (by omega)).2.1 hS hG.2.2.2.2.2.1 (hG.2.2.2.2.2.2.1 _ hw) (fun _ h => h) hd (h hG v μ' ht H locs ls hP hS hl)
theorem T_Slen {q : mMI} {X : mCx} {tgt : mR} {pc : Nat} {lv : List (Nat × Value)} {st : List Value} {μ : mMem} {b : Nat} (hb : 100 ≤ b ∧ b < 107) (hd : decode q.2.1 pc = .ok (.arraylength, 1)) (h : T q X tgt (pc + 1) lv (.int (Int32.ofNat (sLen.getD (b - 100) 0)) :: st) μ) : T q X tgt pc lv (.ref (b + 7) :: st) μ := fun hG v μ' ht H locs ls hP hS hl => by
  obtain ⟨i, hi⟩ : ∃ i, b = 100 + i := ⟨b - 100, by omega⟩
  subst hi
  have e : 100 + i + 7 = 107 + i := by omega
  have e2 : 100 + i - 100 = i := by omega
  rw [e2] at h
  rw [e]
  exact va_tlen hG.1 hG.2.1 ((hZS hG).2.2.2.2.2.1.1 i (by omega)).2.2.2 hS rfl hd (h hG v μ' ht H locs ls hP hS hl)
theorem T_Sbald {q : mMI} {X : mCx} {tgt : mR} {pc : Nat} {lv : List (Nat × Value)} {st : List Value} {μ : mMem} {b : Nat} {x : Int32} (hb : 100 ≤ b ∧ b < 107) (hx : vp_in x (sLen.getD (b - 100) 0)) (hd : decode q.2.1 pc = .ok (.baload, 1)) (h : T q X tgt (pc + 1) lv (.int ((sByt.getD (b - 100) []).getD x.toNatClampNeg 0) :: st) μ) : T q X tgt pc lv (.int x :: .ref (b + 7) :: st) μ := fun hG v μ' ht H locs ls hP hS hl => by
  obtain ⟨i, hi⟩ : ∃ i, b = 100 + i := ⟨b - 100, by omega⟩
  subst hi
  have e : 100 + i + 7 = 107 + i := by omega
  have e2 : 100 + i - 100 = i := by omega
  rw [e2] at h hx
  rw [e]
  exact va_tb hG.1 hG.2.1 ((hZS hG).2.2.2.2.2.1.1 i (by omega)).2.2.2 hS hx rfl hd (h hG v μ' ht H locs ls hP hS hl)
theorem T_callVS {q q2 : mMI} {X : mCx} {tgt : mR} {pc : Nat} {lv : List (Nat × Value)} {μ μ2 : mMem} {v2 : Option Value} {b n index : Nat} (As rest : List Value) (hm : mokV q2 n) (hlk : Cond.methodLink q.1.cls index q2.1 ∈ gdL) (hb : 100 ≤ b ∧ b < 107) (hc : q2.1.cls = "java/lang/String") (hn : As.length = n) (hdp : q2.2.2.2.2 + 1 ≤ q.2.2.2.2) (hcat : (rest.map fun v => v.category).sum ≤ 8) (hd : decode q.2.1 pc = .ok (.invokevirtual index, 3)) (hB : BS (xl X) q2 (.ref b :: As) μ (some (v2, μ2))) (h : T q X tgt (pc + 3) lv (v2.toList ++ rest) μ2) : T q X tgt pc lv (As.reverse ++ .ref b :: rest) μ := fun hG v μ' ht H locs ls hP hS hl => by
  have hM := hB v2 μ2 rfl (xD X) (xad X) (xcA X) H.size
  have hrv := vk_recv (i := b - 100) (hZS hG).2.2.2.2.2.1 (by omega) hS
  have e : 100 + (b - 100) = b := by omega
  rw [e, ← hc] at hrv
  have hr := va_runV (As := As.map (cz (xad X))) (rest := rest.map (cz (xad X))) (g := F0 (xm X) pc ls ((As.reverse ++ .ref b :: rest).map (cz (xad X)))) (locs := locs) (cells := 0) (slots := 0) (below := xb X) (e := xe X) (meth := xM X) (H := H) ⟨hG.1, hG.2.1, hG.2.2.1, hG.2.2.2.2.2.1, hG.2.2.2.2.2.2.1⟩ hM ⟨callB_T hG hm.1 hlk hdp, hG.2.2.2.2.2.2.1 _ hm.2.1, hG.2.2.2.2.2.2.1 _ hm.2.2⟩ ⟨blind, hrv, fun U hU hW => ⟨rfl, preH hG hP hS hU hW⟩⟩ rfl (by rw [List.length_map]; exact hn) hl.1 (by simp [cz]) (lv_room (by rw [cz_sum]; exact hcat)) hd ⟨Nat.zero_le _, Nat.zero_le _⟩
  refine callb hr hS (fun z _ hz => AA_in hG hS z hz) (AA_in hG hS) (fun H1 locs1 hP1 hS1 => ?_)
  have := h hG v μ' ht H1 locs1 ls hP1 hS1 hl
  rw [List.map_append] at this
  cases v2 <;> exact this
theorem T_cVIS {q q2 : mMI} {X : mCx} {r : mR} {k : Int32 → mMem → mR} {pc : Nat} {lv : List (Nat × Value)} {μ : mMem} {b n index : Nat} (As rest : List Value) (hm : mokV q2 n) (hlk : Cond.methodLink q.1.cls index q2.1 ∈ gdL) (hc : q2.1.cls = "java/lang/String") (hn : As.length = n) (hdp : q2.2.2.2.2 + 1 ≤ q.2.2.2.2) (hcat : (rest.map fun v => v.category).sum ≤ 8) (hb : 100 ≤ b ∧ b < 107) (hd : decode q.2.1 pc = .ok (.invokevirtual index, 3)) (hB : BS (xl X) q2 (.ref b :: As) μ r) (h : ∀ (x : Int32) (μ2 : mMem), T q X (k x μ2) (pc + 3) lv (.int x :: rest) μ2) : T q X (bI r k) pc lv (As.reverse ++ .ref b :: rest) μ := fun hG v μ' ht H locs ls hP hS hl => by
  obtain ⟨x, μ2, rfl, hk⟩ := bI_of ht
  exact T_callVS (v2 := some (.int x)) As rest hm hlk hb hc hn hdp hcat hd hB (h x μ2) hG v μ' hk H locs ls hP hS hl
theorem T_nret {q : mMI} {X : mCx} {pc : Nat} {lv : List (Nat × Value)} {μ : mMem} {x : Int32} {ty : FieldType} (hc : narrow ty (.int x) = .int x) (hr : q.2.2.2.1 = some ty) (hd : decode q.2.1 pc = .ok (.ireturn, 1)) : T q X (some (some (.int x), μ)) pc lv [.int x] μ := fun hG v μ' ht H locs ls hP hS hl => by
  obtain ⟨rfl, rfl⟩ : some (.int x) = v ∧ μ = μ' := by simpa using ht
  exact W.zret (v := x) hG.1 hG.2.1 (hG.2.2.2.1.trans hr) hc (Qb_ret (v := some (.int x)) hP hS) hS.2.2 hd (hlocks := hG.2.2.2.2.1)
theorem T_i2c {q : mMI} {X : mCx} {tgt : mR} {pc : Nat} {lv : List (Nat × Value)} {st : List Value} {μ : mMem} {x : Int32} (hd : decode q.2.1 pc = .ok (.i2c, 1)) (h : T q X tgt (pc + 1) lv (.int ((x.toUInt32 % 65536).toInt32) :: st) μ) : T q X tgt pc lv (.int x :: st) μ := fun hG v μ' ht H locs ls hP hS hl => lv_i2c hG.1 hG.2.1 hd rfl (h hG v μ' ht H locs ls hP hS hl)
/-- a static of which only 'a reference or null' is known -/
theorem T_gsQ {q : mMI} {X : mCx} {tgt : mR} {pc : Nat} {lv : List (Nat × Value)} {st : List Value} {μ : mMem} {index : Nat} (hw : Cond.fieldLink q.1.cls index "jdk/internal/util/Preconditions" "SIOOBE_FORMATTER" "Ljava/util/function/BiFunction;" ∈ gdL) (hd : decode q.2.1 pc = .ok (.getstatic index, 3)) (h : T q X tgt (pc + 3) lv (.null :: st) μ) (h2 : T q X tgt (pc + 3) lv (.ref 117 :: st) μ) : T q X tgt pc lv st μ := fun hG v μ' ht H locs ls hP hS hl => by
  rcases (hZS hG).2.2.2.2.1 with hz | hz
  · exact va_gets hG.1 hG.2.1 hz hS hG.2.2.2.2.2.1 (hG.2.2.2.2.2.2.1 _ hw) (fun _ h => h) hd (h hG v μ' ht H locs ls hP hS hl)
  · exact va_gets hG.1 hG.2.1 hz hS hG.2.2.2.2.2.1 (hG.2.2.2.2.2.2.1 _ hw) (fun _ h => h) hd (h2 hG v μ' ht H locs ls hP hS hl)
end
section
def FU : Nat := 20000
def vpd (i : Int32) (n : Nat) : Decidable (vp_in i n) := by unfold vp_in; infer_instance
abbrev ga (i : Int32) (n : Nat) (r : mR) : mR := gd (vp_in i n) r (vpd i n)
abbrev g0i (y : Int32) (r : mR) : mR := gd (¬ y = 0) r inferInstance
abbrev g0l (y : Int64) (r : mR) : mR := gd (¬ y = 0) r inferInstance
abbrev gb (x : Int32) (r : mR) : mR := gd (x = 0 ∨ x = 1) r inferInstance
def li (e : Int32) (k : Int32 → mR) : mR := k e
def ll (e : Int64) (k : Int64 → mR) : mR := k e
def lt (e : mMem) (k : mMem → mR) : mR := k e
theorem T_li {q : mMI} {X : mCx} {pc : Nat} {lv : List (Nat × Value)} {st : List Value} {μ : mMem} {i : Nat} {e : Int32} {k : Int32 → mR} (h : ∀ y, T q X (k y) pc ((i, .int y) :: lv) st μ) : T q X (li e k) pc ((i, .int e) :: lv) st μ := h e
theorem T_ll {q : mMI} {X : mCx} {pc : Nat} {lv : List (Nat × Value)} {st : List Value} {μ : mMem} {i : Nat} {e : Int64} {k : Int64 → mR} (h : ∀ y, T q X (k y) pc ((i, .long y) :: lv) st μ) : T q X (ll e k) pc ((i, .long e) :: lv) st μ := h e
theorem T_lt {q : mMI} {X : mCx} {pc : Nat} {lv : List (Nat × Value)} {st : List Value} {e : mMem} {k : mMem → mR} (h : ∀ y, T q X (k y) pc lv st y) : T q X (lt e k) pc lv st e := h e
theorem neT {x z : Int32} {k : Int} (h : ¬ x = z) (hz : z.toInt = k) : x.toInt ≠ k := fun e => h (Int32.toInt_inj.mp (e.trans hz.symm))
def imax (x y : Int32) : Int32 := if x < y then y else x
theorem lk_max : Cond.static Lib.Math.max.name ∈ gdL ∧ Cond.initialized "java/lang/Math" ∈ gdL ∧ Cond.code Lib.Math.max.name Lib.Math.max.code 2 (some .int) ∈ gdL := ⟨gd_mem 530 (by decide +kernel) (by decide +kernel), gd_mem 65 (by decide +kernel) (by decide +kernel), gd_mem 531 (by decide +kernel) (by decide +kernel)⟩
theorem T_mmax {q : mMI} {X : mCx} {tgt : mR} {pc : Nat} {lv : List (Nat × Value)} {st : List Value} {μ : mMem} {index : Nat} {x y : Int32} (hlk : Cond.methodLink q.1.cls index Lib.Math.max.name ∈ gdL) (hdp : 1 ≤ q.2.2.2.2) (hcat : (st.map fun v => v.category).sum ≤ 8) (hd : decode q.2.1 pc = .ok (.invokestatic index, 3)) (h : T q X tgt (pc + 3) lv (.int (imax x y) :: st) μ) : T q X tgt pc lv (.int y :: .int x :: st) μ := fun hG v μ' ht H locs ls hP hS hl => by
  have hts := hG.2.2.2.2.2.2.1
  refine va_mmax hG.1 hG.2.1 (hG.2.2.1.trans hl.1.symm) hG.2.2.2.2.2.1 (hts _ hlk) (hts _ lk_max.1) (hts _ lk_max.2.1) (hts _ lk_max.2.2) hdp ?_ (Nat.zero_le _) (Nat.zero_le _) hd (h hG v μ' ht H locs ls hP hS hl)
  show _ ≤ 100 * q.2.2.2.2
  rw [cz_sum]
  omega
def imin (x y : Int32) : Int32 := if y < x then y else x
theorem lk_min : Cond.static Lib.Math.min.name ∈ gdL ∧ Cond.initialized "java/lang/Math" ∈ gdL ∧ Cond.code Lib.Math.min.name Lib.Math.min.code 2 (some .int) ∈ gdL := ⟨gd_mem 507 (by decide +kernel) (by decide +kernel), gd_mem 65 (by decide +kernel) (by decide +kernel), gd_mem 508 (by decide +kernel) (by decide +kernel)⟩
theorem T_mmin {q : mMI} {X : mCx} {tgt : mR} {pc : Nat} {lv : List (Nat × Value)} {st : List Value} {μ : mMem} {index : Nat} {x y : Int32} (hlk : Cond.methodLink q.1.cls index Lib.Math.min.name ∈ gdL) (hdp : 1 ≤ q.2.2.2.2) (hcat : (st.map fun v => v.category).sum ≤ 8) (hd : decode q.2.1 pc = .ok (.invokestatic index, 3)) (h : T q X tgt (pc + 3) lv (.int (imin x y) :: st) μ) : T q X tgt pc lv (.int y :: .int x :: st) μ := fun hG v μ' ht H locs ls hP hS hl => by
  have hts := hG.2.2.2.2.2.2.1
  refine va_mmin hG.1 hG.2.1 (hG.2.2.1.trans hl.1.symm) hG.2.2.2.2.2.1 (hts _ hlk) (hts _ lk_min.1) (hts _ lk_min.2.1) (hts _ lk_min.2.2) hdp ?_ (Nat.zero_le _) (Nat.zero_le _) hd (h hG v μ' ht H locs ls hP hS hl)
  show _ ≤ 100 * q.2.2.2.2
  rw [cz_sum]
  omega
def iabs (x : Int32) : Int32 := if 0 ≤ x then x else 0 - x
theorem lk_abs : Cond.static Lib.Math.abs.name ∈ gdL ∧ Cond.initialized "java/lang/Math" ∈ gdL ∧ Cond.code Lib.Math.abs.name Lib.Math.abs.code 1 (some .int) ∈ gdL := ⟨gd_mem 543 (by decide +kernel) (by decide +kernel), gd_mem 65 (by decide +kernel) (by decide +kernel), gd_mem 544 (by decide +kernel) (by decide +kernel)⟩
theorem T_mabs {q : mMI} {X : mCx} {tgt : mR} {pc : Nat} {lv : List (Nat × Value)} {st : List Value} {μ : mMem} {index : Nat} {x : Int32} (hlk : Cond.methodLink q.1.cls index Lib.Math.abs.name ∈ gdL) (hdp : 1 ≤ q.2.2.2.2) (hcat : (st.map fun v => v.category).sum ≤ 8) (hd : decode q.2.1 pc = .ok (.invokestatic index, 3)) (h : T q X tgt (pc + 3) lv (.int (iabs x) :: st) μ) : T q X tgt pc lv (.int x :: st) μ := fun hG v μ' ht H locs ls hP hS hl => by
  have hts := hG.2.2.2.2.2.2.1
  refine va_mabs hG.1 hG.2.1 (hG.2.2.1.trans hl.1.symm) hG.2.2.2.2.2.1 (hts _ hlk) (hts _ lk_abs.1) (hts _ lk_abs.2.1) (hts _ lk_abs.2.2) hdp ?_ (Nat.zero_le _) (Nat.zero_le _) hd (h hG v μ' ht H locs ls hP hS hl)
  show _ ≤ 100 * q.2.2.2.2
  rw [cz_sum]
  omega
theorem kd_0 : kd 0 = (4, 0) := rfl
theorem kd_1 : kd 1 = (10, 10) := rfl
theorem kd_2 : kd 2 = (10, 10) := rfl
theorem kd_3 : kd 3 = (10, 10) := rfl
theorem kd_4 : kd 4 = (10, 4) := rfl
theorem kd_5 : kd 5 = (10, 4) := rfl
theorem kd_6 : kd 6 = (10, 4) := rfl
theorem kd_7 : kd 7 = (10, 4) := rfl
theorem kd_8 : kd 8 = (4, 0) := rfl
theorem kd_9 : kd 9 = (10, 10) := rfl
theorem kd_10 : kd 10 = (10, 10) := rfl
theorem kd_11 : kd 11 = (10, 10) := rfl
theorem kd_12 : kd 12 = (10, 4) := rfl
theorem kd_13 : kd 13 = (10, 4) := rfl
theorem kd_14 : kd 14 = (10, 4) := rfl
theorem kd_15 : kd 15 = (10, 4) := rfl
theorem kd_16 : kd 16 = (4, 0) := rfl
theorem kd_17 : kd 17 = (10, 10) := rfl
theorem kd_18 : kd 18 = (10, 10) := rfl
theorem kd_19 : kd 19 = (10, 10) := rfl
theorem kd_20 : kd 20 = (10, 4) := rfl
theorem kd_21 : kd 21 = (10, 4) := rfl
theorem kd_22 : kd 22 = (10, 4) := rfl
theorem kd_23 : kd 23 = (10, 4) := rfl
theorem kd_24 : kd 24 = (4, 0) := rfl
theorem kd_25 : kd 25 = (10, 10) := rfl
theorem kd_26 : kd 26 = (10, 10) := rfl
theorem kd_27 : kd 27 = (10, 10) := rfl
theorem kd_28 : kd 28 = (10, 4) := rfl
theorem kd_29 : kd 29 = (10, 4) := rfl
theorem kd_30 : kd 30 = (10, 4) := rfl
theorem kd_31 : kd 31 = (10, 4) := rfl
theorem kd_32 : kd 32 = (4, 0) := rfl
theorem kd_33 : kd 33 = (10, 10) := rfl
theorem kd_34 : kd 34 = (10, 10) := rfl
theorem kd_35 : kd 35 = (10, 10) := rfl
theorem kd_36 : kd 36 = (10, 4) := rfl
theorem kd_37 : kd 37 = (10, 4) := rfl
theorem kd_38 : kd 38 = (10, 4) := rfl
theorem kd_39 : kd 39 = (10, 4) := rfl
theorem kd_40 : kd 40 = (5, 0) := rfl
theorem kd_41 : kd 41 = (10, 40) := rfl
theorem kd_42 : kd 42 = (5, 0) := rfl
theorem kd_43 : kd 43 = (10, 40) := rfl
theorem kd_44 : kd 44 = (5, 0) := rfl
theorem kd_45 : kd 45 = (10, 40) := rfl
theorem kd_46 : kd 46 = (5, 0) := rfl
theorem kd_47 : kd 47 = (10, 40) := rfl
theorem kd_48 : kd 48 = (7, 0) := rfl
theorem kd_49 : kd 49 = (6, 0) := rfl
theorem kd_50 : kd 50 = (9, 160) := rfl
theorem kd_51 : kd 51 = (10, 4) := rfl
theorem kd_52 : kd 52 = (13, 2) := rfl
theorem kd_53 : kd 53 = (12, 2) := rfl
theorem kd_54 : kd 54 = (1, 0) := rfl
theorem kd_55 : kd 55 = (10, 10) := rfl
theorem kd_56 : kd 56 = (10, 10) := rfl
theorem kd_57 : kd 57 = (3, 0) := rfl
theorem kd_58 : kd 58 = (10, 4) := rfl
theorem kd_59 : kd 59 = (10, 4) := rfl
theorem kd_60 : kd 60 = (10, 10) := rfl
theorem kd_61 : kd 61 = (10, 16) := rfl
theorem kd_62 : kd 62 = (0, 0) := rfl
theorem kd_63 : kd 63 = (11, 16) := rfl
theorem kd_64 : kd 64 = (11, 16) := rfl
theorem kd_65 : kd 65 = (2, 0) := rfl
theorem kd_66 : kd 66 = (10, 4) := rfl
theorem kd_67 : kd 67 = (10, 6) := rfl
theorem kd_68 : kd 68 = (10, 6) := rfl
theorem kd_69 : kd 69 = (15, 5) := rfl
theorem kd_70 : kd 70 = (10, 10) := rfl
theorem kd_71 : kd 71 = (10, 10) := rfl
theorem kd_72 : kd 72 = (10, 10) := rfl
theorem kd_73 : kd 73 = (10, 10) := rfl
theorem kd_74 : kd 74 = (10, 10) := rfl
theorem kd_75 : kd 75 = (15, 4) := rfl
theorem kd_76 : kd 76 = (10, 10) := rfl
theorem kd_77 : kd 77 = (10, 10) := rfl
theorem kd_78 : kd 78 = (10, 10) := rfl
theorem kd_79 : kd 79 = (10, 10) := rfl
theorem kd_80 : kd 80 = (14, 4) := rfl
theorem kd_81 : kd 81 = (8, 0) := rfl
theorem kd_82 : kd 82 = (10, 210) := rfl
theorem kd_83 : kd 83 = (10, 10) := rfl
theorem kd_84 : kd 84 = (10, 4) := rfl
theorem kd_85 : kd 85 = (10, 35) := rfl
theorem kd_86 : kd 86 = (10, 10) := rfl
theorem kd_87 : kd 87 = (10, 4) := rfl
theorem kd_88 : kd 88 = (10, 160) := rfl
theorem kd_89 : kd 89 = (10, 8) := rfl
theorem kd_90 : kd 90 = (10, 33) := rfl
theorem kd_91 : kd 91 = (10, 11) := rfl
theorem kd_92 : kd 92 = (10, 10) := rfl
theorem kd_93 : kd 93 = (10, 11) := rfl
theorem kd_94 : kd 94 = (10, 4) := rfl
theorem kd_95 : kd 95 = (10, 12) := rfl
theorem kd_96 : kd 96 = (12, 2) := rfl
theorem kd_97 : kd 97 = (10, 4) := rfl
theorem kd_98 : kd 98 = (10, 4) := rfl
theorem kd_99 : kd 99 = (10, 160) := rfl
theorem kdH5 {b : Nat} (h : kd b = (4, 0)) : kd (b + 1) = (10, 10) := (show ∀ b, b < 100 → kd b = (4, 0) → kd (b + 1) = (10, 10) by decide +kernel) b (kd_lt h (by decide)) h
theorem rfH5 {b : Nat} (h : kd b = (4, 0)) : rf b 5 = b + 1 := (show ∀ b, b < 100 → kd b = (4, 0) → rf b 5 = b + 1 by decide +kernel) b (kd_lt h (by decide)) h
theorem kdH6 {b : Nat} (h : kd b = (4, 0)) : kd (b + 2) = (10, 10) := (show ∀ b, b < 100 → kd b = (4, 0) → kd (b + 2) = (10, 10) by decide +kernel) b (kd_lt h (by decide)) h
theorem rfH6 {b : Nat} (h : kd b = (4, 0)) : rf b 6 = b + 2 := (show ∀ b, b < 100 → kd b = (4, 0) → rf b 6 = b + 2 by decide +kernel) b (kd_lt h (by decide)) h
theorem kdH7 {b : Nat} (h : kd b = (4, 0)) : kd (b + 3) = (10, 10) := (show ∀ b, b < 100 → kd b = (4, 0) → kd (b + 3) = (10, 10) by decide +kernel) b (kd_lt h (by decide)) h
theorem rfH7 {b : Nat} (h : kd b = (4, 0)) : rf b 7 = b + 3 := (show ∀ b, b < 100 → kd b = (4, 0) → rf b 7 = b + 3 by decide +kernel) b (kd_lt h (by decide)) h
theorem kdH8 {b : Nat} (h : kd b = (4, 0)) : kd (b + 4) = (10, 4) := (show ∀ b, b < 100 → kd b = (4, 0) → kd (b + 4) = (10, 4) by decide +kernel) b (kd_lt h (by decide)) h
theorem rfH8 {b : Nat} (h : kd b = (4, 0)) : rf b 8 = b + 4 := (show ∀ b, b < 100 → kd b = (4, 0) → rf b 8 = b + 4 by decide +kernel) b (kd_lt h (by decide)) h
theorem kdH9 {b : Nat} (h : kd b = (4, 0)) : kd (b + 5) = (10, 4) := (show ∀ b, b < 100 → kd b = (4, 0) → kd (b + 5) = (10, 4) by decide +kernel) b (kd_lt h (by decide)) h
theorem rfH9 {b : Nat} (h : kd b = (4, 0)) : rf b 9 = b + 5 := (show ∀ b, b < 100 → kd b = (4, 0) → rf b 9 = b + 5 by decide +kernel) b (kd_lt h (by decide)) h
theorem kdH10 {b : Nat} (h : kd b = (4, 0)) : kd (b + 6) = (10, 4) := (show ∀ b, b < 100 → kd b = (4, 0) → kd (b + 6) = (10, 4) by decide +kernel) b (kd_lt h (by decide)) h
theorem rfH10 {b : Nat} (h : kd b = (4, 0)) : rf b 10 = b + 6 := (show ∀ b, b < 100 → kd b = (4, 0) → rf b 10 = b + 6 by decide +kernel) b (kd_lt h (by decide)) h
theorem kdH11 {b : Nat} (h : kd b = (4, 0)) : kd (b + 7) = (10, 4) := (show ∀ b, b < 100 → kd b = (4, 0) → kd (b + 7) = (10, 4) by decide +kernel) b (kd_lt h (by decide)) h
theorem rfH11 {b : Nat} (h : kd b = (4, 0)) : rf b 11 = b + 7 := (show ∀ b, b < 100 → kd b = (4, 0) → rf b 11 = b + 7 by decide +kernel) b (kd_lt h (by decide)) h
theorem kdS1 {b : Nat} (h : kd b = (5, 0)) : kd (b + 1) = (10, 40) := (show ∀ b, b < 100 → kd b = (5, 0) → kd (b + 1) = (10, 40) by decide +kernel) b (kd_lt h (by decide)) h
theorem rfS1 {b : Nat} (h : kd b = (5, 0)) : rf b 1 = b + 1 := (show ∀ b, b < 100 → kd b = (5, 0) → rf b 1 = b + 1 by decide +kernel) b (kd_lt h (by decide)) h
theorem kdA52 {i : Int32} (h : vp_in i 2) : kd (rf 52 i.toNatClampNeg) = (4, 0) := (show ∀ j, j < 2 → kd (rf 52 j) = (4, 0) by decide +kernel) _ (Nat.not_le.mp fun z => h (Or.inr z))
theorem kdA80 {i : Int32} (h : vp_in i 4) : kd (rf 80 i.toNatClampNeg) = (5, 0) := (show ∀ j, j < 4 → kd (rf 80 j) = (5, 0) by decide +kernel) _ (Nat.not_le.mp fun z => h (Or.inr z))
theorem kdA69 {i : Int32} (h : vp_in i 5) : kd (rf 69 i.toNatClampNeg) = (10, 10) := (show ∀ j, j < 5 → kd (rf 69 j) = (10, 10) by decide +kernel) _ (Nat.not_le.mp fun z => h (Or.inr z))
theorem kdA75 {i : Int32} (h : vp_in i 4) : kd (rf 75 i.toNatClampNeg) = (10, 10) := (show ∀ j, j < 4 → kd (rf 75 j) = (10, 10) by decide +kernel) _ (Nat.not_le.mp fun z => h (Or.inr z))
end
section
abbrev qJ0_coder_7d493 : mMI := (yJ0_coder_7d493, cJ0_coder_7d493, 1, (some .byte), 0)
theorem dJ0_coder_7d493_0 : decode cJ0_coder_7d493 0 = .ok (.getstatic 38, 3) := by decide +kernel
theorem dJ0_coder_7d493_3 : decode cJ0_coder_7d493 3 = .ok (.ifCond .eq 10, 3) := by decide +kernel
theorem dJ0_coder_7d493_6 : decode cJ0_coder_7d493 6 = .ok (.aload_n 0, 1) := by decide +kernel
theorem dJ0_coder_7d493_7 : decode cJ0_coder_7d493 7 = .ok (.getfield 15, 3) := by decide +kernel
theorem dJ0_coder_7d493_10 : decode cJ0_coder_7d493 10 = .ok (.goto 4, 3) := by decide +kernel
theorem dJ0_coder_7d493_13 : decode cJ0_coder_7d493 13 = .ok (.iconst 1, 1) := by decide +kernel
theorem dJ0_coder_7d493_14 : decode cJ0_coder_7d493 14 = .ok (.ireturn, 1) := by decide +kernel
theorem mkJ0_coder_7d493 : mokV qJ0_coder_7d493 0 := ⟨⟨⟨⟨by decide, by decide, by decide +kernel⟩, by decide⟩, gd_mem 60 (by decide +kernel) (by decide +kernel), gd_mem 401 (by decide +kernel) (by decide +kernel)⟩, gd_mem 399 (by decide +kernel) (by decide +kernel), gd_mem 400 (by decide +kernel) (by decide +kernel)⟩
abbrev qJ0_length_8abf5 : mMI := (yJ0_length_8abf5, cJ0_length_8abf5, 1, (some .int), 1)
theorem dJ0_length_8abf5_0 : decode cJ0_length_8abf5 0 = .ok (.aload_n 0, 1) := by decide +kernel
theorem dJ0_length_8abf5_1 : decode cJ0_length_8abf5 1 = .ok (.getfield 9, 3) := by decide +kernel
theorem dJ0_length_8abf5_4 : decode cJ0_length_8abf5 4 = .ok (.arraylength, 1) := by decide +kernel
theorem dJ0_length_8abf5_5 : decode cJ0_length_8abf5 5 = .ok (.aload_n 0, 1) := by decide +kernel
theorem dJ0_length_8abf5_6 : decode cJ0_length_8abf5 6 = .ok (.invokevirtual 335, 3) := by decide +kernel
theorem dJ0_length_8abf5_9 : decode cJ0_length_8abf5 9 = .ok (.ishr, 1) := by decide +kernel
theorem dJ0_length_8abf5_10 : decode cJ0_length_8abf5 10 = .ok (.ireturn, 1) := by decide +kernel
theorem mkJ0_length_8abf5 : mokV qJ0_length_8abf5 0 := ⟨⟨⟨⟨by decide, by decide, by decide +kernel⟩, by decide⟩, gd_mem 60 (by decide +kernel) (by decide +kernel), gd_mem 397 (by decide +kernel) (by decide +kernel)⟩, gd_mem 395 (by decide +kernel) (by decide +kernel), gd_mem 396 (by decide +kernel) (by decide +kernel)⟩
abbrev qJ0_isLatin1_aae02 : mMI := (yJ0_isLatin1_aae02, cJ0_isLatin1_aae02, 1, (some .boolean), 0)
theorem dJ0_isLatin1_aae02_0 : decode cJ0_isLatin1_aae02 0 = .ok (.getstatic 38, 3) := by decide +kernel
theorem dJ0_isLatin1_aae02_3 : decode cJ0_isLatin1_aae02 3 = .ok (.ifCond .eq 14, 3) := by decide +kernel
theorem dJ0_isLatin1_aae02_6 : decode cJ0_isLatin1_aae02 6 = .ok (.aload_n 0, 1) := by decide +kernel
theorem dJ0_isLatin1_aae02_7 : decode cJ0_isLatin1_aae02 7 = .ok (.getfield 15, 3) := by decide +kernel
theorem dJ0_isLatin1_aae02_10 : decode cJ0_isLatin1_aae02 10 = .ok (.ifCond .ne 7, 3) := by decide +kernel
theorem dJ0_isLatin1_aae02_13 : decode cJ0_isLatin1_aae02 13 = .ok (.iconst 1, 1) := by decide +kernel
theorem dJ0_isLatin1_aae02_14 : decode cJ0_isLatin1_aae02 14 = .ok (.goto 4, 3) := by decide +kernel
theorem dJ0_isLatin1_aae02_17 : decode cJ0_isLatin1_aae02 17 = .ok (.iconst 0, 1) := by decide +kernel
theorem dJ0_isLatin1_aae02_18 : decode cJ0_isLatin1_aae02 18 = .ok (.ireturn, 1) := by decide +kernel
theorem mkJ0_isLatin1_aae02 : mokV qJ0_isLatin1_aae02 0 := ⟨⟨⟨⟨by decide, by decide, by decide +kernel⟩, by decide⟩, gd_mem 60 (by decide +kernel) (by decide +kernel), gd_mem 411 (by decide +kernel) (by decide +kernel)⟩, gd_mem 409 (by decide +kernel) (by decide +kernel), gd_mem 410 (by decide +kernel) (by decide +kernel)⟩
abbrev qJ3_checkIndex_8e157 : mMI := (yJ3_checkIndex_8e157, cJ3_checkIndex_8e157, 3, (some .int), 0)
theorem dJ3_checkIndex_8e157_0 : decode cJ3_checkIndex_8e157 0 = .ok (.iload_n 0, 1) := by decide +kernel
theorem dJ3_checkIndex_8e157_1 : decode cJ3_checkIndex_8e157 1 = .ok (.ifCond .lt 8, 3) := by decide +kernel
theorem dJ3_checkIndex_8e157_4 : decode cJ3_checkIndex_8e157 4 = .ok (.iload_n 0, 1) := by decide +kernel
theorem dJ3_checkIndex_8e157_5 : decode cJ3_checkIndex_8e157 5 = .ok (.iload_n 1, 1) := by decide +kernel
theorem dJ3_checkIndex_8e157_6 : decode cJ3_checkIndex_8e157 6 = .ok (.if_icmp .lt 10, 3) := by decide +kernel
theorem dJ3_checkIndex_8e157_9 : decode cJ3_checkIndex_8e157 9 = .ok (.aload_n 2, 1) := by decide +kernel
theorem dJ3_checkIndex_8e157_10 : decode cJ3_checkIndex_8e157 10 = .ok (.iload_n 0, 1) := by decide +kernel
theorem dJ3_checkIndex_8e157_11 : decode cJ3_checkIndex_8e157 11 = .ok (.iload_n 1, 1) := by decide +kernel
theorem dJ3_checkIndex_8e157_12 : decode cJ3_checkIndex_8e157 12 = .ok (.invokestatic 95, 3) := by decide +kernel
theorem dJ3_checkIndex_8e157_15 : decode cJ3_checkIndex_8e157 15 = .ok (.athrow, 1) := by decide +kernel
theorem dJ3_checkIndex_8e157_16 : decode cJ3_checkIndex_8e157 16 = .ok (.iload_n 0, 1) := by decide +kernel
theorem dJ3_checkIndex_8e157_17 : decode cJ3_checkIndex_8e157 17 = .ok (.ireturn, 1) := by decide +kernel
theorem mkJ3_checkIndex_8e157 : mokS qJ3_checkIndex_8e157 3 := ⟨⟨⟨⟨by decide, by decide, by decide +kernel⟩, by decide⟩, gd_mem 62 (by decide +kernel) (by decide +kernel), gd_mem 422 (by decide +kernel) (by decide +kernel)⟩, gd_mem 421 (by decide +kernel) (by decide +kernel)⟩
abbrev qJ0_checkIndex_df160 : mMI := (yJ0_checkIndex_df160, cJ0_checkIndex_df160, 2, none, 1)
theorem dJ0_checkIndex_df160_0 : decode cJ0_checkIndex_df160 0 = .ok (.iload_n 0, 1) := by decide +kernel
theorem dJ0_checkIndex_df160_1 : decode cJ0_checkIndex_df160 1 = .ok (.iload_n 1, 1) := by decide +kernel
theorem dJ0_checkIndex_df160_2 : decode cJ0_checkIndex_df160 2 = .ok (.getstatic 1053, 3) := by decide +kernel
theorem dJ0_checkIndex_df160_5 : decode cJ0_checkIndex_df160 5 = .ok (.invokestatic 1059, 3) := by decide +kernel
theorem dJ0_checkIndex_df160_8 : decode cJ0_checkIndex_df160 8 = .ok (.pop, 1) := by decide +kernel
theorem dJ0_checkIndex_df160_9 : decode cJ0_checkIndex_df160 9 = .ok (.return_, 1) := by decide +kernel
theorem mkJ0_checkIndex_df160 : mokS qJ0_checkIndex_df160 2 := ⟨⟨⟨⟨by decide, by decide, by decide +kernel⟩, by decide⟩, gd_mem 60 (by decide +kernel) (by decide +kernel), gd_mem 417 (by decide +kernel) (by decide +kernel)⟩, gd_mem 416 (by decide +kernel) (by decide +kernel)⟩
abbrev qJ1_charAt_3b067 : mMI := (yJ1_charAt_3b067, cJ1_charAt_3b067, 2, (some .char), 2)
theorem dJ1_charAt_3b067_0 : decode cJ1_charAt_3b067 0 = .ok (.iload_n 1, 1) := by decide +kernel
theorem dJ1_charAt_3b067_1 : decode cJ1_charAt_3b067 1 = .ok (.aload_n 0, 1) := by decide +kernel
theorem dJ1_charAt_3b067_2 : decode cJ1_charAt_3b067 2 = .ok (.arraylength, 1) := by decide +kernel
theorem dJ1_charAt_3b067_3 : decode cJ1_charAt_3b067 3 = .ok (.invokestatic 9, 3) := by decide +kernel
theorem dJ1_charAt_3b067_6 : decode cJ1_charAt_3b067 6 = .ok (.aload_n 0, 1) := by decide +kernel
theorem dJ1_charAt_3b067_7 : decode cJ1_charAt_3b067 7 = .ok (.iload_n 1, 1) := by decide +kernel
theorem dJ1_charAt_3b067_8 : decode cJ1_charAt_3b067 8 = .ok (.baload, 1) := by decide +kernel
theorem dJ1_charAt_3b067_9 : decode cJ1_charAt_3b067 9 = .ok (.sipush 255, 3) := by decide +kernel
theorem dJ1_charAt_3b067_12 : decode cJ1_charAt_3b067 12 = .ok (.iand, 1) := by decide +kernel
theorem dJ1_charAt_3b067_13 : decode cJ1_charAt_3b067 13 = .ok (.i2c, 1) := by decide +kernel
theorem dJ1_charAt_3b067_14 : decode cJ1_charAt_3b067 14 = .ok (.ireturn, 1) := by decide +kernel
theorem mkJ1_charAt_3b067 : mokS qJ1_charAt_3b067 2 := ⟨⟨⟨⟨by decide, by decide, by decide +kernel⟩, by decide⟩, gd_mem 61 (by decide +kernel) (by decide +kernel), gd_mem 414 (by decide +kernel) (by decide +kernel)⟩, gd_mem 413 (by decide +kernel) (by decide +kernel)⟩
abbrev qJ0_charAt_5068e : mMI := (yJ0_charAt_5068e, cJ0_charAt_5068e, 2, (some .char), 3)
theorem dJ0_charAt_5068e_0 : decode cJ0_charAt_5068e 0 = .ok (.aload_n 0, 1) := by decide +kernel
theorem dJ0_charAt_5068e_1 : decode cJ0_charAt_5068e 1 = .ok (.invokevirtual 492, 3) := by decide +kernel
theorem dJ0_charAt_5068e_4 : decode cJ0_charAt_5068e 4 = .ok (.ifCond .eq 12, 3) := by decide +kernel
theorem dJ0_charAt_5068e_7 : decode cJ0_charAt_5068e 7 = .ok (.aload_n 0, 1) := by decide +kernel
theorem dJ0_charAt_5068e_8 : decode cJ0_charAt_5068e 8 = .ok (.getfield 9, 3) := by decide +kernel
theorem dJ0_charAt_5068e_11 : decode cJ0_charAt_5068e 11 = .ok (.iload_n 1, 1) := by decide +kernel
theorem dJ0_charAt_5068e_12 : decode cJ0_charAt_5068e 12 = .ok (.invokestatic 495, 3) := by decide +kernel
theorem dJ0_charAt_5068e_15 : decode cJ0_charAt_5068e 15 = .ok (.ireturn, 1) := by decide +kernel
theorem dJ0_charAt_5068e_16 : decode cJ0_charAt_5068e 16 = .ok (.aload_n 0, 1) := by decide +kernel
theorem dJ0_charAt_5068e_17 : decode cJ0_charAt_5068e 17 = .ok (.getfield 9, 3) := by decide +kernel
theorem dJ0_charAt_5068e_20 : decode cJ0_charAt_5068e 20 = .ok (.iload_n 1, 1) := by decide +kernel
theorem dJ0_charAt_5068e_21 : decode cJ0_charAt_5068e 21 = .ok (.invokestatic 498, 3) := by decide +kernel
theorem dJ0_charAt_5068e_24 : decode cJ0_charAt_5068e 24 = .ok (.ireturn, 1) := by decide +kernel
theorem mkJ0_charAt_5068e : mokV qJ0_charAt_5068e 1 := ⟨⟨⟨⟨by decide, by decide, by decide +kernel⟩, by decide⟩, gd_mem 60 (by decide +kernel) (by decide +kernel), gd_mem 407 (by decide +kernel) (by decide +kernel)⟩, gd_mem 405 (by decide +kernel) (by decide +kernel), gd_mem 406 (by decide +kernel) (by decide +kernel)⟩
theorem lfJ0_38 : Cond.fieldLink RJ0 38 "java/lang/String" "COMPACT_STRINGS" "Z" ∈ gdL := gd_mem 402 (by decide +kernel) (by decide +kernel)
theorem lfJ0_15 : Cond.fieldLink RJ0 15 "java/lang/String" "coder" "B" ∈ gdL := gd_mem 1318 (by decide +kernel) (by decide +kernel)
theorem lfJ0_9 : Cond.fieldLink RJ0 9 "java/lang/String" "value" "[B" ∈ gdL := gd_mem 1317 (by decide +kernel) (by decide +kernel)
theorem lfJ0_1053 : Cond.fieldLink RJ0 1053 "jdk/internal/util/Preconditions" "SIOOBE_FORMATTER" "Ljava/util/function/BiFunction;" ∈ gdL := gd_mem 418 (by decide +kernel) (by decide +kernel)
theorem lmJ0_335 : Cond.methodLink RJ0 335 yJ0_coder_7d493 ∈ gdL := gd_mem 398 (by decide +kernel) (by decide +kernel)
theorem lmJ0_492 : Cond.methodLink RJ0 492 yJ0_isLatin1_aae02 ∈ gdL := gd_mem 408 (by decide +kernel) (by decide +kernel)
theorem lmJ0_495 : Cond.methodLink RJ0 495 yJ1_charAt_3b067 ∈ gdL := gd_mem 412 (by decide +kernel) (by decide +kernel)
theorem lmJ0_1059 : Cond.methodLink RJ0 1059 yJ3_checkIndex_8e157 ∈ gdL := gd_mem 420 (by decide +kernel) (by decide +kernel)
theorem lmJ1_9 : Cond.methodLink RJ1 9 yJ0_checkIndex_df160 ∈ gdL := gd_mem 415 (by decide +kernel) (by decide +kernel)
theorem bsJ0_coder_7d493 (l : Launch) (r0 : Nat) (m : mMem) (h0 : 100 ≤ r0 ∧ r0 < 107) : BS l qJ0_coder_7d493 [.ref r0] m (some (some (.int 0), m)) := BS_of (by decide) (Nat.le_of_ble_eq_true rfl) (fun X _ => by
    show T qJ0_coder_7d493 X (some (some (.int 0), m)) 0 [(0, .ref r0)] [] m
    refine T_gs zsC lfJ0_38 dJ0_coder_7d493_0 ?_
    rw [show (some (some (Value.int 0), m) : mR) = if (1 : Int32) = 0 then none else some (some (.int 0), m) from (if_neg (by decide)).symm]
    refine T_if_eq 13 dJ0_coder_7d493_3 (by decide) (fun _ => T_none) (fun _ => ?_)
    refine T_aload_n 0 rfl rfl dJ0_coder_7d493_6 ?_
    refine T_gSc h0 lfJ0_15 dJ0_coder_7d493_7 ?_
    refine T_goto 14 dJ0_coder_7d493_10 (by decide) ?_
    exact T_nret rfl rfl dJ0_coder_7d493_14)
def fJ0_length_8abf5 (r0 : Nat) (m : mMem) : mR := some (some (.int (nI (sLen.getD (r0 - 100) 0))), m)
theorem sl_sh : ∀ i, i < 7 → Int32.ofNat (sLen.getD i 0) >>> ((0 : Int32) &&& 31) = nI (sLen.getD i 0) := by decide +kernel
theorem bsJ0_length_8abf5 (l : Launch) (r0 : Nat) (m : mMem) (h0 : 100 ≤ r0 ∧ r0 < 107) : BS l qJ0_length_8abf5 [.ref r0] m (fJ0_length_8abf5 r0 m) := BS_of (by decide) (Nat.le_of_ble_eq_true rfl) (fun X _ => by
    show T qJ0_length_8abf5 X (fJ0_length_8abf5 r0 m) 0 [(0, .ref r0)] [] m
    refine T_aload_n 0 rfl rfl dJ0_length_8abf5_0 ?_
    refine T_gSv h0 lfJ0_9 dJ0_length_8abf5_1 ?_
    refine T_Slen h0 dJ0_length_8abf5_4 ?_
    refine T_aload_n 0 rfl rfl dJ0_length_8abf5_5 ?_
    refine T_callVS (v2 := some (.int 0)) [] [.int (Int32.ofNat (sLen.getD (r0 - 100) 0))] mkJ0_coder_7d493 lmJ0_335 h0 rfl rfl (by decide) (Nat.le_of_ble_eq_true rfl) dJ0_length_8abf5_6 (bsJ0_coder_7d493 _ r0 m h0) ?_
    refine T_ishr (x := Int32.ofNat (sLen.getD (r0 - 100) 0)) (y := 0) (st := []) dJ0_length_8abf5_9 ?_
    unfold fJ0_length_8abf5
    rw [← sl_sh (r0 - 100) (by omega)]
    exact T_iret rfl dJ0_length_8abf5_10)
theorem bsJ0_isLatin1_aae02 (l : Launch) (r0 : Nat) (m : mMem) (h0 : 100 ≤ r0 ∧ r0 < 107) : BS l qJ0_isLatin1_aae02 [.ref r0] m (some (some (.int 1), m)) := BS_of (by decide) (Nat.le_of_ble_eq_true rfl) (fun X _ => by
    show T qJ0_isLatin1_aae02 X (some (some (.int 1), m)) 0 [(0, .ref r0)] [] m
    refine T_gs zsC lfJ0_38 dJ0_isLatin1_aae02_0 ?_
    rw [show (some (some (Value.int 1), m) : mR) = if (1 : Int32) = 0 then none else some (some (.int 1), m) from (if_neg (by decide)).symm]
    refine T_if_eq 17 dJ0_isLatin1_aae02_3 (by decide) (fun _ => T_none) (fun _ => ?_)
    refine T_aload_n 0 rfl rfl dJ0_isLatin1_aae02_6 ?_
    refine T_gSc h0 lfJ0_15 dJ0_isLatin1_aae02_7 ?_
    rw [show (some (some (Value.int 1), m) : mR) = if (0 : Int32) = 0 then some (some (.int 1), m) else none from (if_pos rfl).symm]
    refine T_if_ne 17 dJ0_isLatin1_aae02_10 (by decide) (fun _ => ?_) (fun _ => T_none)
    refine T_iconst (1 : Int32) (by decide) dJ0_isLatin1_aae02_13 ?_
    refine T_goto 18 dJ0_isLatin1_aae02_14 (by decide) ?_
    exact T_nret rfl rfl dJ0_isLatin1_aae02_18)
theorem bsJ3_checkIndex_8e157 (l : Launch) (x n : Int32) (v : Value) (hv : v.category = 1) (m : mMem) (h1 : ¬ x < 0) (h2 : x < n) : BS l qJ3_checkIndex_8e157 [.int x, .int n, v] m (some (some (.int x), m)) := BS_of (by decide) (by cases v <;> first | exact Nat.le_of_ble_eq_true rfl | (simp [Value.category] at hv)) (fun X _ => by
    show T qJ3_checkIndex_8e157 X (some (some (.int x), m)) 0 [(0, .int x), (1, .int n), (2, v)] [] m
    refine T_iload_n 0 rfl rfl dJ3_checkIndex_8e157_0 ?_
    rw [show (some (some (Value.int x), m) : mR) = if x < 0 then none else some (some (.int x), m) from (if_neg h1).symm]
    refine T_if_lt 9 dJ3_checkIndex_8e157_1 (by decide) (fun _ => T_none) (fun _ => ?_)
    refine T_iload_n 0 rfl rfl dJ3_checkIndex_8e157_4 ?_
    refine T_iload_n 1 rfl rfl dJ3_checkIndex_8e157_5 ?_
    rw [show (some (some (Value.int x), m) : mR) = if x < n then some (some (.int x), m) else none from (if_pos h2).symm]
    refine T_icmp_lt 16 dJ3_checkIndex_8e157_6 (by decide) (fun _ => ?_) (fun _ => T_none)
    refine T_iload_n 0 rfl rfl dJ3_checkIndex_8e157_16 ?_
    exact T_iret rfl dJ3_checkIndex_8e157_17)
theorem bsJ0_checkIndex_df160 (l : Launch) (x n : Int32) (m : mMem) (h1 : ¬ x < 0) (h2 : x < n) : BS l qJ0_checkIndex_df160 [.int x, .int n] m (some (none, m)) := BS_of (by decide) (Nat.le_of_ble_eq_true rfl) (fun X _ => by
    show T qJ0_checkIndex_df160 X (some (none, m)) 0 [(0, .int x), (1, .int n)] [] m
    refine T_iload_n 0 rfl rfl dJ0_checkIndex_df160_0 ?_
    refine T_iload_n 1 rfl rfl dJ0_checkIndex_df160_1 ?_
    refine T_gsQ lfJ0_1053 dJ0_checkIndex_df160_2 ?_ ?_
    · refine T_callS (v2 := some (.int x)) [.int x, .int n, .null] [] mkJ3_checkIndex_8e157 lmJ0_1059 rfl (by decide) (Nat.le_of_ble_eq_true rfl) dJ0_checkIndex_df160_5 (bsJ3_checkIndex_8e157 _ x n .null rfl m h1 h2) ?_
      refine T_pop (x := .int x) (st := []) rfl dJ0_checkIndex_df160_8 ?_
      exact T_vret rfl dJ0_checkIndex_df160_9
    · refine T_callS (v2 := some (.int x)) [.int x, .int n, .ref 117] [] mkJ3_checkIndex_8e157 lmJ0_1059 rfl (by decide) (Nat.le_of_ble_eq_true rfl) dJ0_checkIndex_df160_5 (bsJ3_checkIndex_8e157 _ x n (.ref 117) rfl m h1 h2) ?_
      refine T_pop (x := .int x) (st := []) rfl dJ0_checkIndex_df160_8 ?_
      exact T_vret rfl dJ0_checkIndex_df160_9)
def fJ0_charAt_5068e (r0 : Nat) (x1 : Int32) (m : mMem) : mR := ga x1 (sLen.getD (r0 - 100) 0) (some (some (.int ((sByt.getD (r0 - 100) []).getD x1.toNatClampNeg 0)), m))
theorem sb_ch : ∀ i, i < 7 → ∀ k, k < 8 → ((((sByt.getD i []).getD k 0) &&& 255).toUInt32 % 65536).toInt32 = (sByt.getD i []).getD k 0 ∧ narrow .char (.int ((sByt.getD i []).getD k 0)) = .int ((sByt.getD i []).getD k 0) := by decide +kernel
theorem sl_8 : ∀ i, i < 7 → sLen.getD i 0 ≤ 8 := by decide +kernel
theorem vp_lt {x : Int32} {n : Nat} (h : vp_in x n) (hn : n ≤ 8) : ¬ x < 0 ∧ x < Int32.ofNat n ∧ x.toNatClampNeg < n := by
  obtain ⟨j, hj, rfl⟩ := vp_in_of h (by omega)
  exact ⟨nI_pos (by omega), nI_lt hj (by omega), by rw [nI_clamp (by omega)]; exact hj⟩
theorem bsJ1_charAt_3b067 (l : Launch) (r0 : Nat) (x1 : Int32) (m : mMem) (h0 : 100 ≤ r0 ∧ r0 < 107) (hx : vp_in x1 (sLen.getD (r0 - 100) 0)) : BS l qJ1_charAt_3b067 [.ref (r0 + 7), .int x1] m (some (some (.int ((sByt.getD (r0 - 100) []).getD x1.toNatClampNeg 0)), m)) := BS_of (by decide) (Nat.le_of_ble_eq_true rfl) (fun X _ => by
    obtain ⟨hx1, hx2, hx3⟩ := vp_lt hx (sl_8 _ (by omega))
    obtain ⟨e1, e2⟩ := sb_ch (r0 - 100) (by omega) x1.toNatClampNeg (by have := sl_8 (r0 - 100) (by omega); omega)
    show T qJ1_charAt_3b067 X _ 0 [(0, .ref (r0 + 7)), (1, .int x1)] [] m
    refine T_iload_n 1 rfl rfl dJ1_charAt_3b067_0 ?_
    refine T_aload_n 0 rfl rfl dJ1_charAt_3b067_1 ?_
    refine T_Slen h0 dJ1_charAt_3b067_2 ?_
    refine T_callS (v2 := none) [.int x1, .int (Int32.ofNat (sLen.getD (r0 - 100) 0))] [] mkJ0_checkIndex_df160 lmJ1_9 rfl (by decide) (Nat.le_of_ble_eq_true rfl) dJ1_charAt_3b067_3 (bsJ0_checkIndex_df160 _ _ _ m hx1 hx2) ?_
    refine T_aload_n (st := []) 0 rfl rfl dJ1_charAt_3b067_6 ?_
    refine T_iload_n 1 rfl rfl dJ1_charAt_3b067_7 ?_
    refine T_Sbald h0 hx dJ1_charAt_3b067_8 ?_
    refine T_sipush (255 : Int32) (by decide) dJ1_charAt_3b067_9 ?_
    refine T_iand dJ1_charAt_3b067_12 ?_
    refine T_i2c dJ1_charAt_3b067_13 ?_
    rw [e1]
    exact T_nret e2 rfl dJ1_charAt_3b067_14)
theorem bsJ0_charAt_5068e (l : Launch) (r0 : Nat) (x1 : Int32) (m : mMem) (h0 : 100 ≤ r0 ∧ r0 < 107) : BS l qJ0_charAt_5068e [.ref r0, .int x1] m (fJ0_charAt_5068e r0 x1 m) := BS_of (by decide) (Nat.le_of_ble_eq_true rfl) (fun X _ => by
    show T qJ0_charAt_5068e X (fJ0_charAt_5068e r0 x1 m) 0 [(0, .ref r0), (1, .int x1)] [] m
    unfold fJ0_charAt_5068e
    refine T_gg (fun hx => ?_)
    obtain ⟨hx1, hx2, hx3⟩ := vp_lt hx (sl_8 _ (by omega))
    obtain ⟨e1, e2⟩ := sb_ch (r0 - 100) (by omega) x1.toNatClampNeg (by have := sl_8 (r0 - 100) (by omega); omega)
    refine T_aload_n 0 rfl rfl dJ0_charAt_5068e_0 ?_
    refine T_callVS (v2 := some (.int 1)) [] [] mkJ0_isLatin1_aae02 lmJ0_492 h0 rfl rfl (by decide) (Nat.le_of_ble_eq_true rfl) dJ0_charAt_5068e_1 (bsJ0_isLatin1_aae02 _ r0 m h0) ?_
    generalize hz : (some (some (Value.int ((sByt.getD (r0 - 100) []).getD x1.toNatClampNeg 0)), m) : mR) = z
    rw [show z = if (1 : Int32) = 0 then none else z from (if_neg (by decide)).symm]
    refine T_if_eq (x := 1) (st := []) 16 dJ0_charAt_5068e_4 (by decide) (fun _ => T_none) (fun _ => ?_)
    subst hz
    refine T_aload_n 0 rfl rfl dJ0_charAt_5068e_7 ?_
    refine T_gSv h0 lfJ0_9 dJ0_charAt_5068e_8 ?_
    refine T_iload_n 1 rfl rfl dJ0_charAt_5068e_11 ?_
    refine T_callS (v2 := some (.int ((sByt.getD (r0 - 100) []).getD x1.toNatClampNeg 0))) [.ref (r0 + 7), .int x1] [] mkJ1_charAt_3b067 lmJ0_495 rfl (by decide) (Nat.le_of_ble_eq_true rfl) dJ0_charAt_5068e_12 (bsJ1_charAt_3b067 _ r0 x1 m h0 hx) ?_
    exact T_nret e2 rfl dJ0_charAt_5068e_15)
end
section
abbrev qJ6_numberOfTrailingZeros_0f7a4 : mMI := (yJ6_numberOfTrailingZeros_0f7a4, cJ6_numberOfTrailingZeros_0f7a4, 2, (some .int), 0)
theorem dJ6_numberOfTrailingZeros_0f7a4_0 : decode cJ6_numberOfTrailingZeros_0f7a4 0 = .ok (.iload_n 0, 1) := by decide +kernel
theorem dJ6_numberOfTrailingZeros_0f7a4_1 : decode cJ6_numberOfTrailingZeros_0f7a4 1 = .ok (.iconst (-1), 1) := by decide +kernel
theorem dJ6_numberOfTrailingZeros_0f7a4_2 : decode cJ6_numberOfTrailingZeros_0f7a4 2 = .ok (.ixor, 1) := by decide +kernel
theorem dJ6_numberOfTrailingZeros_0f7a4_3 : decode cJ6_numberOfTrailingZeros_0f7a4 3 = .ok (.iload_n 0, 1) := by decide +kernel
theorem dJ6_numberOfTrailingZeros_0f7a4_4 : decode cJ6_numberOfTrailingZeros_0f7a4 4 = .ok (.iconst 1, 1) := by decide +kernel
theorem dJ6_numberOfTrailingZeros_0f7a4_5 : decode cJ6_numberOfTrailingZeros_0f7a4 5 = .ok (.isub, 1) := by decide +kernel
theorem dJ6_numberOfTrailingZeros_0f7a4_6 : decode cJ6_numberOfTrailingZeros_0f7a4 6 = .ok (.iand, 1) := by decide +kernel
theorem dJ6_numberOfTrailingZeros_0f7a4_7 : decode cJ6_numberOfTrailingZeros_0f7a4 7 = .ok (.istore_n 0, 1) := by decide +kernel
theorem dJ6_numberOfTrailingZeros_0f7a4_8 : decode cJ6_numberOfTrailingZeros_0f7a4 8 = .ok (.iload_n 0, 1) := by decide +kernel
theorem dJ6_numberOfTrailingZeros_0f7a4_9 : decode cJ6_numberOfTrailingZeros_0f7a4 9 = .ok (.ifCond .gt 8, 3) := by decide +kernel
theorem dJ6_numberOfTrailingZeros_0f7a4_12 : decode cJ6_numberOfTrailingZeros_0f7a4 12 = .ok (.iload_n 0, 1) := by decide +kernel
theorem dJ6_numberOfTrailingZeros_0f7a4_13 : decode cJ6_numberOfTrailingZeros_0f7a4 13 = .ok (.bipush 32, 2) := by decide +kernel
theorem dJ6_numberOfTrailingZeros_0f7a4_15 : decode cJ6_numberOfTrailingZeros_0f7a4 15 = .ok (.iand, 1) := by decide +kernel
theorem dJ6_numberOfTrailingZeros_0f7a4_16 : decode cJ6_numberOfTrailingZeros_0f7a4 16 = .ok (.ireturn, 1) := by decide +kernel
theorem dJ6_numberOfTrailingZeros_0f7a4_17 : decode cJ6_numberOfTrailingZeros_0f7a4 17 = .ok (.iconst 1, 1) := by decide +kernel
theorem dJ6_numberOfTrailingZeros_0f7a4_18 : decode cJ6_numberOfTrailingZeros_0f7a4 18 = .ok (.istore_n 1, 1) := by decide +kernel
theorem dJ6_numberOfTrailingZeros_0f7a4_19 : decode cJ6_numberOfTrailingZeros_0f7a4 19 = .ok (.iload_n 0, 1) := by decide +kernel
theorem dJ6_numberOfTrailingZeros_0f7a4_20 : decode cJ6_numberOfTrailingZeros_0f7a4 20 = .ok (.ldc_w 264, 3) := by decide +kernel
theorem dJ6_numberOfTrailingZeros_0f7a4_23 : decode cJ6_numberOfTrailingZeros_0f7a4 23 = .ok (.if_icmp .le 11, 3) := by decide +kernel
theorem dJ6_numberOfTrailingZeros_0f7a4_26 : decode cJ6_numberOfTrailingZeros_0f7a4 26 = .ok (.iinc 1 16, 3) := by decide +kernel
theorem dJ6_numberOfTrailingZeros_0f7a4_29 : decode cJ6_numberOfTrailingZeros_0f7a4 29 = .ok (.iload_n 0, 1) := by decide +kernel
theorem dJ6_numberOfTrailingZeros_0f7a4_30 : decode cJ6_numberOfTrailingZeros_0f7a4 30 = .ok (.bipush 16, 2) := by decide +kernel
theorem dJ6_numberOfTrailingZeros_0f7a4_32 : decode cJ6_numberOfTrailingZeros_0f7a4 32 = .ok (.iushr, 1) := by decide +kernel
theorem dJ6_numberOfTrailingZeros_0f7a4_33 : decode cJ6_numberOfTrailingZeros_0f7a4 33 = .ok (.istore_n 0, 1) := by decide +kernel
theorem dJ6_numberOfTrailingZeros_0f7a4_34 : decode cJ6_numberOfTrailingZeros_0f7a4 34 = .ok (.iload_n 0, 1) := by decide +kernel
theorem dJ6_numberOfTrailingZeros_0f7a4_35 : decode cJ6_numberOfTrailingZeros_0f7a4 35 = .ok (.sipush 256, 3) := by decide +kernel
theorem dJ6_numberOfTrailingZeros_0f7a4_38 : decode cJ6_numberOfTrailingZeros_0f7a4 38 = .ok (.if_icmp .le 11, 3) := by decide +kernel
theorem dJ6_numberOfTrailingZeros_0f7a4_41 : decode cJ6_numberOfTrailingZeros_0f7a4 41 = .ok (.iinc 1 8, 3) := by decide +kernel
theorem dJ6_numberOfTrailingZeros_0f7a4_44 : decode cJ6_numberOfTrailingZeros_0f7a4 44 = .ok (.iload_n 0, 1) := by decide +kernel
theorem dJ6_numberOfTrailingZeros_0f7a4_45 : decode cJ6_numberOfTrailingZeros_0f7a4 45 = .ok (.bipush 8, 2) := by decide +kernel
theorem dJ6_numberOfTrailingZeros_0f7a4_47 : decode cJ6_numberOfTrailingZeros_0f7a4 47 = .ok (.iushr, 1) := by decide +kernel
theorem dJ6_numberOfTrailingZeros_0f7a4_48 : decode cJ6_numberOfTrailingZeros_0f7a4 48 = .ok (.istore_n 0, 1) := by decide +kernel
theorem dJ6_numberOfTrailingZeros_0f7a4_49 : decode cJ6_numberOfTrailingZeros_0f7a4 49 = .ok (.iload_n 0, 1) := by decide +kernel
theorem dJ6_numberOfTrailingZeros_0f7a4_50 : decode cJ6_numberOfTrailingZeros_0f7a4 50 = .ok (.bipush 16, 2) := by decide +kernel
theorem dJ6_numberOfTrailingZeros_0f7a4_52 : decode cJ6_numberOfTrailingZeros_0f7a4 52 = .ok (.if_icmp .le 10, 3) := by decide +kernel
theorem dJ6_numberOfTrailingZeros_0f7a4_55 : decode cJ6_numberOfTrailingZeros_0f7a4 55 = .ok (.iinc 1 4, 3) := by decide +kernel
theorem dJ6_numberOfTrailingZeros_0f7a4_58 : decode cJ6_numberOfTrailingZeros_0f7a4 58 = .ok (.iload_n 0, 1) := by decide +kernel
theorem dJ6_numberOfTrailingZeros_0f7a4_59 : decode cJ6_numberOfTrailingZeros_0f7a4 59 = .ok (.iconst 4, 1) := by decide +kernel
theorem dJ6_numberOfTrailingZeros_0f7a4_60 : decode cJ6_numberOfTrailingZeros_0f7a4 60 = .ok (.iushr, 1) := by decide +kernel
theorem dJ6_numberOfTrailingZeros_0f7a4_61 : decode cJ6_numberOfTrailingZeros_0f7a4 61 = .ok (.istore_n 0, 1) := by decide +kernel
theorem dJ6_numberOfTrailingZeros_0f7a4_62 : decode cJ6_numberOfTrailingZeros_0f7a4 62 = .ok (.iload_n 0, 1) := by decide +kernel
theorem dJ6_numberOfTrailingZeros_0f7a4_63 : decode cJ6_numberOfTrailingZeros_0f7a4 63 = .ok (.iconst 4, 1) := by decide +kernel
theorem dJ6_numberOfTrailingZeros_0f7a4_64 : decode cJ6_numberOfTrailingZeros_0f7a4 64 = .ok (.if_icmp .le 10, 3) := by decide +kernel
theorem dJ6_numberOfTrailingZeros_0f7a4_67 : decode cJ6_numberOfTrailingZeros_0f7a4 67 = .ok (.iinc 1 2, 3) := by decide +kernel
theorem dJ6_numberOfTrailingZeros_0f7a4_70 : decode cJ6_numberOfTrailingZeros_0f7a4 70 = .ok (.iload_n 0, 1) := by decide +kernel
theorem dJ6_numberOfTrailingZeros_0f7a4_71 : decode cJ6_numberOfTrailingZeros_0f7a4 71 = .ok (.iconst 2, 1) := by decide +kernel
theorem dJ6_numberOfTrailingZeros_0f7a4_72 : decode cJ6_numberOfTrailingZeros_0f7a4 72 = .ok (.iushr, 1) := by decide +kernel
theorem dJ6_numberOfTrailingZeros_0f7a4_73 : decode cJ6_numberOfTrailingZeros_0f7a4 73 = .ok (.istore_n 0, 1) := by decide +kernel
theorem dJ6_numberOfTrailingZeros_0f7a4_74 : decode cJ6_numberOfTrailingZeros_0f7a4 74 = .ok (.iload_n 1, 1) := by decide +kernel
theorem dJ6_numberOfTrailingZeros_0f7a4_75 : decode cJ6_numberOfTrailingZeros_0f7a4 75 = .ok (.iload_n 0, 1) := by decide +kernel
theorem dJ6_numberOfTrailingZeros_0f7a4_76 : decode cJ6_numberOfTrailingZeros_0f7a4 76 = .ok (.iconst 1, 1) := by decide +kernel
theorem dJ6_numberOfTrailingZeros_0f7a4_77 : decode cJ6_numberOfTrailingZeros_0f7a4 77 = .ok (.iushr, 1) := by decide +kernel
theorem dJ6_numberOfTrailingZeros_0f7a4_78 : decode cJ6_numberOfTrailingZeros_0f7a4 78 = .ok (.iadd, 1) := by decide +kernel
theorem dJ6_numberOfTrailingZeros_0f7a4_79 : decode cJ6_numberOfTrailingZeros_0f7a4 79 = .ok (.ireturn, 1) := by decide +kernel
theorem mkJ6_numberOfTrailingZeros_0f7a4 : mokS qJ6_numberOfTrailingZeros_0f7a4 1 := ⟨⟨⟨⟨by decide, by decide, by decide +kernel⟩, by decide⟩, gd_mem 66 (by decide +kernel) (by decide +kernel), gd_mem 616 (by decide +kernel) (by decide +kernel)⟩, gd_mem 615 (by decide +kernel) (by decide +kernel)⟩
abbrev qJ6_bitCount_0f7a4 : mMI := (yJ6_bitCount_0f7a4, cJ6_bitCount_0f7a4, 1, (some .int), 0)
theorem dJ6_bitCount_0f7a4_0 : decode cJ6_bitCount_0f7a4 0 = .ok (.iload_n 0, 1) := by decide +kernel
theorem dJ6_bitCount_0f7a4_1 : decode cJ6_bitCount_0f7a4 1 = .ok (.iload_n 0, 1) := by decide +kernel
theorem dJ6_bitCount_0f7a4_2 : decode cJ6_bitCount_0f7a4 2 = .ok (.iconst 1, 1) := by decide +kernel
theorem dJ6_bitCount_0f7a4_3 : decode cJ6_bitCount_0f7a4 3 = .ok (.iushr, 1) := by decide +kernel
theorem dJ6_bitCount_0f7a4_4 : decode cJ6_bitCount_0f7a4 4 = .ok (.ldc_w 265, 3) := by decide +kernel
theorem dJ6_bitCount_0f7a4_7 : decode cJ6_bitCount_0f7a4 7 = .ok (.iand, 1) := by decide +kernel
theorem dJ6_bitCount_0f7a4_8 : decode cJ6_bitCount_0f7a4 8 = .ok (.isub, 1) := by decide +kernel
theorem dJ6_bitCount_0f7a4_9 : decode cJ6_bitCount_0f7a4 9 = .ok (.istore_n 0, 1) := by decide +kernel
theorem dJ6_bitCount_0f7a4_10 : decode cJ6_bitCount_0f7a4 10 = .ok (.iload_n 0, 1) := by decide +kernel
theorem dJ6_bitCount_0f7a4_11 : decode cJ6_bitCount_0f7a4 11 = .ok (.ldc_w 266, 3) := by decide +kernel
theorem dJ6_bitCount_0f7a4_14 : decode cJ6_bitCount_0f7a4 14 = .ok (.iand, 1) := by decide +kernel
theorem dJ6_bitCount_0f7a4_15 : decode cJ6_bitCount_0f7a4 15 = .ok (.iload_n 0, 1) := by decide +kernel
theorem dJ6_bitCount_0f7a4_16 : decode cJ6_bitCount_0f7a4 16 = .ok (.iconst 2, 1) := by decide +kernel
theorem dJ6_bitCount_0f7a4_17 : decode cJ6_bitCount_0f7a4 17 = .ok (.iushr, 1) := by decide +kernel
theorem dJ6_bitCount_0f7a4_18 : decode cJ6_bitCount_0f7a4 18 = .ok (.ldc_w 266, 3) := by decide +kernel
theorem dJ6_bitCount_0f7a4_21 : decode cJ6_bitCount_0f7a4 21 = .ok (.iand, 1) := by decide +kernel
theorem dJ6_bitCount_0f7a4_22 : decode cJ6_bitCount_0f7a4 22 = .ok (.iadd, 1) := by decide +kernel
theorem dJ6_bitCount_0f7a4_23 : decode cJ6_bitCount_0f7a4 23 = .ok (.istore_n 0, 1) := by decide +kernel
theorem dJ6_bitCount_0f7a4_24 : decode cJ6_bitCount_0f7a4 24 = .ok (.iload_n 0, 1) := by decide +kernel
theorem dJ6_bitCount_0f7a4_25 : decode cJ6_bitCount_0f7a4 25 = .ok (.iload_n 0, 1) := by decide +kernel
theorem dJ6_bitCount_0f7a4_26 : decode cJ6_bitCount_0f7a4 26 = .ok (.iconst 4, 1) := by decide +kernel
theorem dJ6_bitCount_0f7a4_27 : decode cJ6_bitCount_0f7a4 27 = .ok (.iushr, 1) := by decide +kernel
theorem dJ6_bitCount_0f7a4_28 : decode cJ6_bitCount_0f7a4 28 = .ok (.iadd, 1) := by decide +kernel
theorem dJ6_bitCount_0f7a4_29 : decode cJ6_bitCount_0f7a4 29 = .ok (.ldc_w 267, 3) := by decide +kernel
theorem dJ6_bitCount_0f7a4_32 : decode cJ6_bitCount_0f7a4 32 = .ok (.iand, 1) := by decide +kernel
theorem dJ6_bitCount_0f7a4_33 : decode cJ6_bitCount_0f7a4 33 = .ok (.istore_n 0, 1) := by decide +kernel
theorem dJ6_bitCount_0f7a4_34 : decode cJ6_bitCount_0f7a4 34 = .ok (.iload_n 0, 1) := by decide +kernel
theorem dJ6_bitCount_0f7a4_35 : decode cJ6_bitCount_0f7a4 35 = .ok (.iload_n 0, 1) := by decide +kernel
theorem dJ6_bitCount_0f7a4_36 : decode cJ6_bitCount_0f7a4 36 = .ok (.bipush 8, 2) := by decide +kernel
theorem dJ6_bitCount_0f7a4_38 : decode cJ6_bitCount_0f7a4 38 = .ok (.iushr, 1) := by decide +kernel
theorem dJ6_bitCount_0f7a4_39 : decode cJ6_bitCount_0f7a4 39 = .ok (.iadd, 1) := by decide +kernel
theorem dJ6_bitCount_0f7a4_40 : decode cJ6_bitCount_0f7a4 40 = .ok (.istore_n 0, 1) := by decide +kernel
theorem dJ6_bitCount_0f7a4_41 : decode cJ6_bitCount_0f7a4 41 = .ok (.iload_n 0, 1) := by decide +kernel
theorem dJ6_bitCount_0f7a4_42 : decode cJ6_bitCount_0f7a4 42 = .ok (.iload_n 0, 1) := by decide +kernel
theorem dJ6_bitCount_0f7a4_43 : decode cJ6_bitCount_0f7a4 43 = .ok (.bipush 16, 2) := by decide +kernel
theorem dJ6_bitCount_0f7a4_45 : decode cJ6_bitCount_0f7a4 45 = .ok (.iushr, 1) := by decide +kernel
theorem dJ6_bitCount_0f7a4_46 : decode cJ6_bitCount_0f7a4 46 = .ok (.iadd, 1) := by decide +kernel
theorem dJ6_bitCount_0f7a4_47 : decode cJ6_bitCount_0f7a4 47 = .ok (.istore_n 0, 1) := by decide +kernel
theorem dJ6_bitCount_0f7a4_48 : decode cJ6_bitCount_0f7a4 48 = .ok (.iload_n 0, 1) := by decide +kernel
theorem dJ6_bitCount_0f7a4_49 : decode cJ6_bitCount_0f7a4 49 = .ok (.bipush 63, 2) := by decide +kernel
theorem dJ6_bitCount_0f7a4_51 : decode cJ6_bitCount_0f7a4 51 = .ok (.iand, 1) := by decide +kernel
theorem dJ6_bitCount_0f7a4_52 : decode cJ6_bitCount_0f7a4 52 = .ok (.ireturn, 1) := by decide +kernel
theorem mkJ6_bitCount_0f7a4 : mokS qJ6_bitCount_0f7a4 1 := ⟨⟨⟨⟨by decide, by decide, by decide +kernel⟩, by decide⟩, gd_mem 66 (by decide +kernel) (by decide +kernel), gd_mem 606 (by decide +kernel) (by decide +kernel)⟩, gd_mem 605 (by decide +kernel) (by decide +kernel)⟩
abbrev qJ7_fill_d0a16 : mMI := (yJ7_fill_d0a16, cJ7_fill_d0a16, 5, none, 0)
theorem dJ7_fill_d0a16_0 : decode cJ7_fill_d0a16 0 = .ok (.iconst 0, 1) := by decide +kernel
theorem dJ7_fill_d0a16_1 : decode cJ7_fill_d0a16 1 = .ok (.istore_n 3, 1) := by decide +kernel
theorem dJ7_fill_d0a16_2 : decode cJ7_fill_d0a16 2 = .ok (.aload_n 0, 1) := by decide +kernel
theorem dJ7_fill_d0a16_3 : decode cJ7_fill_d0a16 3 = .ok (.arraylength, 1) := by decide +kernel
theorem dJ7_fill_d0a16_4 : decode cJ7_fill_d0a16 4 = .ok (.istore 4, 2) := by decide +kernel
theorem dJ7_fill_d0a16_6 : decode cJ7_fill_d0a16 6 = .ok (.iload_n 3, 1) := by decide +kernel
theorem dJ7_fill_d0a16_7 : decode cJ7_fill_d0a16 7 = .ok (.iload 4, 2) := by decide +kernel
theorem dJ7_fill_d0a16_9 : decode cJ7_fill_d0a16 9 = .ok (.if_icmp .ge 13, 3) := by decide +kernel
theorem dJ7_fill_d0a16_12 : decode cJ7_fill_d0a16 12 = .ok (.aload_n 0, 1) := by decide +kernel
theorem dJ7_fill_d0a16_13 : decode cJ7_fill_d0a16 13 = .ok (.iload_n 3, 1) := by decide +kernel
theorem dJ7_fill_d0a16_14 : decode cJ7_fill_d0a16 14 = .ok (.lload_n 1, 1) := by decide +kernel
theorem dJ7_fill_d0a16_15 : decode cJ7_fill_d0a16 15 = .ok (.lastore, 1) := by decide +kernel
theorem dJ7_fill_d0a16_16 : decode cJ7_fill_d0a16 16 = .ok (.iinc 3 1, 3) := by decide +kernel
theorem dJ7_fill_d0a16_19 : decode cJ7_fill_d0a16 19 = .ok (.goto (-13), 3) := by decide +kernel
theorem dJ7_fill_d0a16_22 : decode cJ7_fill_d0a16 22 = .ok (.return_, 1) := by decide +kernel
theorem mkJ7_fill_d0a16 : mokS qJ7_fill_d0a16 2 := ⟨⟨⟨⟨by decide, by decide, by decide +kernel⟩, by decide⟩, gd_mem 67 (by decide +kernel) (by decide +kernel), gd_mem 752 (by decide +kernel) (by decide +kernel)⟩, gd_mem 751 (by decide +kernel) (by decide +kernel)⟩
abbrev qJ7_fill_53178 : mMI := (yJ7_fill_53178, cJ7_fill_53178, 4, none, 0)
theorem dJ7_fill_53178_0 : decode cJ7_fill_53178 0 = .ok (.iconst 0, 1) := by decide +kernel
theorem dJ7_fill_53178_1 : decode cJ7_fill_53178 1 = .ok (.istore_n 2, 1) := by decide +kernel
theorem dJ7_fill_53178_2 : decode cJ7_fill_53178 2 = .ok (.aload_n 0, 1) := by decide +kernel
theorem dJ7_fill_53178_3 : decode cJ7_fill_53178 3 = .ok (.arraylength, 1) := by decide +kernel
theorem dJ7_fill_53178_4 : decode cJ7_fill_53178 4 = .ok (.istore_n 3, 1) := by decide +kernel
theorem dJ7_fill_53178_5 : decode cJ7_fill_53178 5 = .ok (.iload_n 2, 1) := by decide +kernel
theorem dJ7_fill_53178_6 : decode cJ7_fill_53178 6 = .ok (.iload_n 3, 1) := by decide +kernel
theorem dJ7_fill_53178_7 : decode cJ7_fill_53178 7 = .ok (.if_icmp .ge 13, 3) := by decide +kernel
theorem dJ7_fill_53178_10 : decode cJ7_fill_53178 10 = .ok (.aload_n 0, 1) := by decide +kernel
theorem dJ7_fill_53178_11 : decode cJ7_fill_53178 11 = .ok (.iload_n 2, 1) := by decide +kernel
theorem dJ7_fill_53178_12 : decode cJ7_fill_53178 12 = .ok (.iload_n 1, 1) := by decide +kernel
theorem dJ7_fill_53178_13 : decode cJ7_fill_53178 13 = .ok (.iastore, 1) := by decide +kernel
theorem dJ7_fill_53178_14 : decode cJ7_fill_53178 14 = .ok (.iinc 2 1, 3) := by decide +kernel
theorem dJ7_fill_53178_17 : decode cJ7_fill_53178 17 = .ok (.goto (-12), 3) := by decide +kernel
theorem dJ7_fill_53178_20 : decode cJ7_fill_53178 20 = .ok (.return_, 1) := by decide +kernel
theorem mkJ7_fill_53178 : mokS qJ7_fill_53178 2 := ⟨⟨⟨⟨by decide, by decide, by decide +kernel⟩, by decide⟩, gd_mem 67 (by decide +kernel) (by decide +kernel), gd_mem 790 (by decide +kernel) (by decide +kernel)⟩, gd_mem 789 (by decide +kernel) (by decide +kernel)⟩
theorem lcJ6_264 : Cond.constant RJ6 264 (65536) ∈ gdL := gd_mem 617 (by decide +kernel) (by decide +kernel)
def jJ6_numberOfTrailingZeros_0f7a4_62 (x0 : Int32) (x1 : Int32) (m : mMem) : mR := if x0 ≤ (4 : Int32) then some (some (.int (x1 + ((x0.toUInt32 >>> ((1 : Int32).toUInt32 &&& Int32.toUInt32 31)).toInt32))), m) else li (x1 + (2 : Int32)) (fun y2 => li ((x0.toUInt32 >>> ((2 : Int32).toUInt32 &&& Int32.toUInt32 31)).toInt32) (fun y3 => some (some (.int (y2 + ((y3.toUInt32 >>> ((1 : Int32).toUInt32 &&& Int32.toUInt32 31)).toInt32))), m)))
set_option maxRecDepth 100000 in
theorem uJ6_numberOfTrailingZeros_0f7a4_62 (X : mCx) (x0 : Int32) (x1 : Int32) (m : mMem)  : T qJ6_numberOfTrailingZeros_0f7a4 X (jJ6_numberOfTrailingZeros_0f7a4_62 x0 x1 m) 62 [(0, .int x0), (1, .int x1)] [] m := by
  unfold jJ6_numberOfTrailingZeros_0f7a4_62
  refine T_iload_n 0 rfl rfl dJ6_numberOfTrailingZeros_0f7a4_62 ?_
  refine T_iconst (4 : Int32) (by decide) dJ6_numberOfTrailingZeros_0f7a4_63 ?_
  refine T_icmp_le 74 dJ6_numberOfTrailingZeros_0f7a4_64 (by decide) (fun _ => ?_) (fun _ => ?_)
  · refine T_iload_n 1 rfl rfl dJ6_numberOfTrailingZeros_0f7a4_74 ?_
    refine T_iload_n 0 rfl rfl dJ6_numberOfTrailingZeros_0f7a4_75 ?_
    refine T_iconst (1 : Int32) (by decide) dJ6_numberOfTrailingZeros_0f7a4_76 ?_
    refine T_iushr dJ6_numberOfTrailingZeros_0f7a4_77 ?_
    refine T_iadd dJ6_numberOfTrailingZeros_0f7a4_78 ?_
    exact T_iret rfl dJ6_numberOfTrailingZeros_0f7a4_79
  · refine T_iinc (lv' := [(1, .int (x1 + (2 : Int32))), (0, .int x0)]) 1 (2 : Int32) rfl (by decide) (Nat.le_of_ble_eq_true rfl) rfl dJ6_numberOfTrailingZeros_0f7a4_67 ?_
    refine T_li (fun y2 => ?_)
    refine T_iload_n 1 rfl rfl dJ6_numberOfTrailingZeros_0f7a4_70 ?_
    refine T_iconst (2 : Int32) (by decide) dJ6_numberOfTrailingZeros_0f7a4_71 ?_
    refine T_iushr dJ6_numberOfTrailingZeros_0f7a4_72 ?_
    refine T_istore_n (lv' := [(0, .int ((x0.toUInt32 >>> ((2 : Int32).toUInt32 &&& Int32.toUInt32 31)).toInt32)), (1, .int y2)]) rfl (Nat.le_of_ble_eq_true rfl) rfl dJ6_numberOfTrailingZeros_0f7a4_73 ?_
    refine T_li (fun y3 => ?_)
    refine T_iload_n 1 rfl rfl dJ6_numberOfTrailingZeros_0f7a4_74 ?_
    refine T_iload_n 0 rfl rfl dJ6_numberOfTrailingZeros_0f7a4_75 ?_
    refine T_iconst (1 : Int32) (by decide) dJ6_numberOfTrailingZeros_0f7a4_76 ?_
    refine T_iushr dJ6_numberOfTrailingZeros_0f7a4_77 ?_
    refine T_iadd dJ6_numberOfTrailingZeros_0f7a4_78 ?_
    exact T_iret rfl dJ6_numberOfTrailingZeros_0f7a4_79
def jJ6_numberOfTrailingZeros_0f7a4_49 (x0 : Int32) (x1 : Int32) (m : mMem) : mR := if x0 ≤ (16 : Int32) then jJ6_numberOfTrailingZeros_0f7a4_62 x0 x1 m else li (x1 + (4 : Int32)) (fun y4 => li ((x0.toUInt32 >>> ((4 : Int32).toUInt32 &&& Int32.toUInt32 31)).toInt32) (fun y5 => jJ6_numberOfTrailingZeros_0f7a4_62 y5 y4 m))
set_option maxRecDepth 100000 in
theorem uJ6_numberOfTrailingZeros_0f7a4_49 (X : mCx) (x0 : Int32) (x1 : Int32) (m : mMem)  : T qJ6_numberOfTrailingZeros_0f7a4 X (jJ6_numberOfTrailingZeros_0f7a4_49 x0 x1 m) 49 [(0, .int x0), (1, .int x1)] [] m := by
  unfold jJ6_numberOfTrailingZeros_0f7a4_49
  refine T_iload_n 0 rfl rfl dJ6_numberOfTrailingZeros_0f7a4_49 ?_
  refine T_bipush (16 : Int32) (by decide) dJ6_numberOfTrailingZeros_0f7a4_50 ?_
  refine T_icmp_le 62 dJ6_numberOfTrailingZeros_0f7a4_52 (by decide) (fun _ => ?_) (fun _ => ?_)
  · exact T_sub [0, 1] rfl (uJ6_numberOfTrailingZeros_0f7a4_62 X x0 x1 m )
  · refine T_iinc (lv' := [(1, .int (x1 + (4 : Int32))), (0, .int x0)]) 1 (4 : Int32) rfl (by decide) (Nat.le_of_ble_eq_true rfl) rfl dJ6_numberOfTrailingZeros_0f7a4_55 ?_
    refine T_li (fun y4 => ?_)
    refine T_iload_n 1 rfl rfl dJ6_numberOfTrailingZeros_0f7a4_58 ?_
    refine T_iconst (4 : Int32) (by decide) dJ6_numberOfTrailingZeros_0f7a4_59 ?_
    refine T_iushr dJ6_numberOfTrailingZeros_0f7a4_60 ?_
    refine T_istore_n (lv' := [(0, .int ((x0.toUInt32 >>> ((4 : Int32).toUInt32 &&& Int32.toUInt32 31)).toInt32)), (1, .int y4)]) rfl (Nat.le_of_ble_eq_true rfl) rfl dJ6_numberOfTrailingZeros_0f7a4_61 ?_
    refine T_li (fun y5 => ?_)
    exact T_sub [0, 1] rfl (uJ6_numberOfTrailingZeros_0f7a4_62 X y5 y4 m )
def jJ6_numberOfTrailingZeros_0f7a4_34 (x0 : Int32) (x1 : Int32) (m : mMem) : mR := if x0 ≤ (256 : Int32) then jJ6_numberOfTrailingZeros_0f7a4_49 x0 x1 m else li (x1 + (8 : Int32)) (fun y6 => li ((x0.toUInt32 >>> ((8 : Int32).toUInt32 &&& Int32.toUInt32 31)).toInt32) (fun y7 => jJ6_numberOfTrailingZeros_0f7a4_49 y7 y6 m))
set_option maxRecDepth 100000 in
theorem uJ6_numberOfTrailingZeros_0f7a4_34 (X : mCx) (x0 : Int32) (x1 : Int32) (m : mMem)  : T qJ6_numberOfTrailingZeros_0f7a4 X (jJ6_numberOfTrailingZeros_0f7a4_34 x0 x1 m) 34 [(0, .int x0), (1, .int x1)] [] m := by
  unfold jJ6_numberOfTrailingZeros_0f7a4_34
  refine T_iload_n 0 rfl rfl dJ6_numberOfTrailingZeros_0f7a4_34 ?_
  refine T_sipush (256 : Int32) (by decide) dJ6_numberOfTrailingZeros_0f7a4_35 ?_
  refine T_icmp_le 49 dJ6_numberOfTrailingZeros_0f7a4_38 (by decide) (fun _ => ?_) (fun _ => ?_)
  · exact T_sub [0, 1] rfl (uJ6_numberOfTrailingZeros_0f7a4_49 X x0 x1 m )
  · refine T_iinc (lv' := [(1, .int (x1 + (8 : Int32))), (0, .int x0)]) 1 (8 : Int32) rfl (by decide) (Nat.le_of_ble_eq_true rfl) rfl dJ6_numberOfTrailingZeros_0f7a4_41 ?_
    refine T_li (fun y6 => ?_)
    refine T_iload_n 1 rfl rfl dJ6_numberOfTrailingZeros_0f7a4_44 ?_
    refine T_bipush (8 : Int32) (by decide) dJ6_numberOfTrailingZeros_0f7a4_45 ?_
    refine T_iushr dJ6_numberOfTrailingZeros_0f7a4_47 ?_
    refine T_istore_n (lv' := [(0, .int ((x0.toUInt32 >>> ((8 : Int32).toUInt32 &&& Int32.toUInt32 31)).toInt32)), (1, .int y6)]) rfl (Nat.le_of_ble_eq_true rfl) rfl dJ6_numberOfTrailingZeros_0f7a4_48 ?_
    refine T_li (fun y7 => ?_)
    exact T_sub [0, 1] rfl (uJ6_numberOfTrailingZeros_0f7a4_49 X y7 y6 m )
def fJ6_numberOfTrailingZeros_0f7a4 (x0 : Int32) (m : mMem) : mR := li ((x0 ^^^ (-1 : Int32)) &&& (x0 - (1 : Int32))) (fun y1 => if (0 : Int32) < y1 then if y1 ≤ (65536 : Int32) then jJ6_numberOfTrailingZeros_0f7a4_34 y1 (1 : Int32) m else li ((1 : Int32) + (16 : Int32)) (fun y8 => li ((y1.toUInt32 >>> ((16 : Int32).toUInt32 &&& Int32.toUInt32 31)).toInt32) (fun y9 => jJ6_numberOfTrailingZeros_0f7a4_34 y9 y8 m)) else some (some (.int (y1 &&& (32 : Int32))), m))
set_option maxRecDepth 100000 in
theorem bsJ6_numberOfTrailingZeros_0f7a4 (l : Launch) (x0 : Int32) (m : mMem)  : BS l qJ6_numberOfTrailingZeros_0f7a4 [.int x0] m (fJ6_numberOfTrailingZeros_0f7a4 x0 m) := BS_of (by decide) (Nat.le_of_ble_eq_true rfl) (fun X _ => by
    show T qJ6_numberOfTrailingZeros_0f7a4 X (fJ6_numberOfTrailingZeros_0f7a4 x0 m) 0 [(0, .int x0)] [] m
    unfold fJ6_numberOfTrailingZeros_0f7a4
    refine T_iload_n 0 rfl rfl dJ6_numberOfTrailingZeros_0f7a4_0 ?_
    refine T_iconst (-1 : Int32) (by decide) dJ6_numberOfTrailingZeros_0f7a4_1 ?_
    refine T_ixor dJ6_numberOfTrailingZeros_0f7a4_2 ?_
    refine T_iload_n 0 rfl rfl dJ6_numberOfTrailingZeros_0f7a4_3 ?_
    refine T_iconst (1 : Int32) (by decide) dJ6_numberOfTrailingZeros_0f7a4_4 ?_
    refine T_isub dJ6_numberOfTrailingZeros_0f7a4_5 ?_
    refine T_iand dJ6_numberOfTrailingZeros_0f7a4_6 ?_
    refine T_istore_n (lv' := [(0, .int ((x0 ^^^ (-1 : Int32)) &&& (x0 - (1 : Int32))))]) rfl (Nat.le_of_ble_eq_true rfl) rfl dJ6_numberOfTrailingZeros_0f7a4_7 ?_
    refine T_li (fun y1 => ?_)
    refine T_iload_n 0 rfl rfl dJ6_numberOfTrailingZeros_0f7a4_8 ?_
    refine T_if_gt 17 dJ6_numberOfTrailingZeros_0f7a4_9 (by decide) (fun _ => ?_) (fun _ => ?_)
    · refine T_iconst (1 : Int32) (by decide) dJ6_numberOfTrailingZeros_0f7a4_17 ?_
      refine T_istore_n (lv' := [(1, .int (1 : Int32)), (0, .int y1)]) rfl (Nat.le_of_ble_eq_true rfl) rfl dJ6_numberOfTrailingZeros_0f7a4_18 ?_
      refine T_iload_n 1 rfl rfl dJ6_numberOfTrailingZeros_0f7a4_19 ?_
      refine T_ldcw lcJ6_264 dJ6_numberOfTrailingZeros_0f7a4_20 ?_
      refine T_icmp_le 34 dJ6_numberOfTrailingZeros_0f7a4_23 (by decide) (fun _ => ?_) (fun _ => ?_)
      · exact T_sub [1, 0] rfl (uJ6_numberOfTrailingZeros_0f7a4_34 X y1 (1 : Int32) m )
      · refine T_iinc (lv' := [(1, .int ((1 : Int32) + (16 : Int32))), (0, .int y1)]) 0 (16 : Int32) rfl (by decide) (Nat.le_of_ble_eq_true rfl) rfl dJ6_numberOfTrailingZeros_0f7a4_26 ?_
        refine T_li (fun y8 => ?_)
        refine T_iload_n 1 rfl rfl dJ6_numberOfTrailingZeros_0f7a4_29 ?_
        refine T_bipush (16 : Int32) (by decide) dJ6_numberOfTrailingZeros_0f7a4_30 ?_
        refine T_iushr dJ6_numberOfTrailingZeros_0f7a4_32 ?_
        refine T_istore_n (lv' := [(0, .int ((y1.toUInt32 >>> ((16 : Int32).toUInt32 &&& Int32.toUInt32 31)).toInt32)), (1, .int y8)]) rfl (Nat.le_of_ble_eq_true rfl) rfl dJ6_numberOfTrailingZeros_0f7a4_33 ?_
        refine T_li (fun y9 => ?_)
        exact T_sub [0, 1] rfl (uJ6_numberOfTrailingZeros_0f7a4_34 X y9 y8 m )
    · refine T_iload_n 0 rfl rfl dJ6_numberOfTrailingZeros_0f7a4_12 ?_
      refine T_bipush (32 : Int32) (by decide) dJ6_numberOfTrailingZeros_0f7a4_13 ?_
      refine T_iand dJ6_numberOfTrailingZeros_0f7a4_15 ?_
      exact T_iret rfl dJ6_numberOfTrailingZeros_0f7a4_16)
theorem lcJ6_265 : Cond.constant RJ6 265 (1431655765) ∈ gdL := gd_mem 607 (by decide +kernel) (by decide +kernel)
theorem lcJ6_266 : Cond.constant RJ6 266 (858993459) ∈ gdL := gd_mem 608 (by decide +kernel) (by decide +kernel)
theorem lcJ6_267 : Cond.constant RJ6 267 (252645135) ∈ gdL := gd_mem 609 (by decide +kernel) (by decide +kernel)
def fJ6_bitCount_0f7a4 (x0 : Int32) (m : mMem) : mR := li (x0 - (((x0.toUInt32 >>> ((1 : Int32).toUInt32 &&& Int32.toUInt32 31)).toInt32) &&& (1431655765 : Int32))) (fun y1 => li ((y1 &&& (858993459 : Int32)) + (((y1.toUInt32 >>> ((2 : Int32).toUInt32 &&& Int32.toUInt32 31)).toInt32) &&& (858993459 : Int32))) (fun y2 => li ((y2 + ((y2.toUInt32 >>> ((4 : Int32).toUInt32 &&& Int32.toUInt32 31)).toInt32)) &&& (252645135 : Int32)) (fun y3 => li (y3 + ((y3.toUInt32 >>> ((8 : Int32).toUInt32 &&& Int32.toUInt32 31)).toInt32)) (fun y4 => li (y4 + ((y4.toUInt32 >>> ((16 : Int32).toUInt32 &&& Int32.toUInt32 31)).toInt32)) (fun y5 => some (some (.int (y5 &&& (63 : Int32))), m))))))
set_option maxRecDepth 100000 in
theorem bsJ6_bitCount_0f7a4 (l : Launch) (x0 : Int32) (m : mMem)  : BS l qJ6_bitCount_0f7a4 [.int x0] m (fJ6_bitCount_0f7a4 x0 m) := BS_of (by decide) (Nat.le_of_ble_eq_true rfl) (fun X _ => by
    show T qJ6_bitCount_0f7a4 X (fJ6_bitCount_0f7a4 x0 m) 0 [(0, .int x0)] [] m
    unfold fJ6_bitCount_0f7a4
    refine T_iload_n 0 rfl rfl dJ6_bitCount_0f7a4_0 ?_
    refine T_iload_n 0 rfl rfl dJ6_bitCount_0f7a4_1 ?_
    refine T_iconst (1 : Int32) (by decide) dJ6_bitCount_0f7a4_2 ?_
    refine T_iushr dJ6_bitCount_0f7a4_3 ?_
    refine T_ldcw lcJ6_265 dJ6_bitCount_0f7a4_4 ?_
    refine T_iand dJ6_bitCount_0f7a4_7 ?_
    refine T_isub dJ6_bitCount_0f7a4_8 ?_
    refine T_istore_n (lv' := [(0, .int (x0 - (((x0.toUInt32 >>> ((1 : Int32).toUInt32 &&& Int32.toUInt32 31)).toInt32) &&& (1431655765 : Int32))))]) rfl (Nat.le_of_ble_eq_true rfl) rfl dJ6_bitCount_0f7a4_9 ?_
    refine T_li (fun y1 => ?_)
    refine T_iload_n 0 rfl rfl dJ6_bitCount_0f7a4_10 ?_
    refine T_ldcw lcJ6_266 dJ6_bitCount_0f7a4_11 ?_
    refine T_iand dJ6_bitCount_0f7a4_14 ?_
    refine T_iload_n 0 rfl rfl dJ6_bitCount_0f7a4_15 ?_
    refine T_iconst (2 : Int32) (by decide) dJ6_bitCount_0f7a4_16 ?_
    refine T_iushr dJ6_bitCount_0f7a4_17 ?_
    refine T_ldcw lcJ6_266 dJ6_bitCount_0f7a4_18 ?_
    refine T_iand dJ6_bitCount_0f7a4_21 ?_
    refine T_iadd dJ6_bitCount_0f7a4_22 ?_
    refine T_istore_n (lv' := [(0, .int ((y1 &&& (858993459 : Int32)) + (((y1.toUInt32 >>> ((2 : Int32).toUInt32 &&& Int32.toUInt32 31)).toInt32) &&& (858993459 : Int32))))]) rfl (Nat.le_of_ble_eq_true rfl) rfl dJ6_bitCount_0f7a4_23 ?_
    refine T_li (fun y2 => ?_)
    refine T_iload_n 0 rfl rfl dJ6_bitCount_0f7a4_24 ?_
    refine T_iload_n 0 rfl rfl dJ6_bitCount_0f7a4_25 ?_
    refine T_iconst (4 : Int32) (by decide) dJ6_bitCount_0f7a4_26 ?_
    refine T_iushr dJ6_bitCount_0f7a4_27 ?_
    refine T_iadd dJ6_bitCount_0f7a4_28 ?_
    refine T_ldcw lcJ6_267 dJ6_bitCount_0f7a4_29 ?_
    refine T_iand dJ6_bitCount_0f7a4_32 ?_
    refine T_istore_n (lv' := [(0, .int ((y2 + ((y2.toUInt32 >>> ((4 : Int32).toUInt32 &&& Int32.toUInt32 31)).toInt32)) &&& (252645135 : Int32)))]) rfl (Nat.le_of_ble_eq_true rfl) rfl dJ6_bitCount_0f7a4_33 ?_
    refine T_li (fun y3 => ?_)
    refine T_iload_n 0 rfl rfl dJ6_bitCount_0f7a4_34 ?_
    refine T_iload_n 0 rfl rfl dJ6_bitCount_0f7a4_35 ?_
    refine T_bipush (8 : Int32) (by decide) dJ6_bitCount_0f7a4_36 ?_
    refine T_iushr dJ6_bitCount_0f7a4_38 ?_
    refine T_iadd dJ6_bitCount_0f7a4_39 ?_
    refine T_istore_n (lv' := [(0, .int (y3 + ((y3.toUInt32 >>> ((8 : Int32).toUInt32 &&& Int32.toUInt32 31)).toInt32)))]) rfl (Nat.le_of_ble_eq_true rfl) rfl dJ6_bitCount_0f7a4_40 ?_
    refine T_li (fun y4 => ?_)
    refine T_iload_n 0 rfl rfl dJ6_bitCount_0f7a4_41 ?_
    refine T_iload_n 0 rfl rfl dJ6_bitCount_0f7a4_42 ?_
    refine T_bipush (16 : Int32) (by decide) dJ6_bitCount_0f7a4_43 ?_
    refine T_iushr dJ6_bitCount_0f7a4_45 ?_
    refine T_iadd dJ6_bitCount_0f7a4_46 ?_
    refine T_istore_n (lv' := [(0, .int (y4 + ((y4.toUInt32 >>> ((16 : Int32).toUInt32 &&& Int32.toUInt32 31)).toInt32)))]) rfl (Nat.le_of_ble_eq_true rfl) rfl dJ6_bitCount_0f7a4_47 ?_
    refine T_li (fun y5 => ?_)
    refine T_iload_n 0 rfl rfl dJ6_bitCount_0f7a4_48 ?_
    refine T_bipush (63 : Int32) (by decide) dJ6_bitCount_0f7a4_49 ?_
    refine T_iand dJ6_bitCount_0f7a4_51 ?_
    exact T_iret rfl dJ6_bitCount_0f7a4_52)
def bJ7_fill_d0a16_6 (r0 : Nat) (n0 : Nat) (x1 : Int64) (x4 : Int32) (k6 : Int32 × mMem → mR) (s : Int32 × mMem) : mR := match s with
  | (x3, m) => if x4 ≤ x3 then some (none, m) else ga x3 n0 (lt (sl m r0 (x3).toNatClampNeg x1) (fun m2 => li (x3 + (1 : Int32)) (fun y3 => k6 (y3, m2))))
set_option maxRecDepth 100000 in
theorem tJ7_fill_d0a16_6 (X : mCx) (r0 : Nat) (n0 : Nat) (x1 : Int64) (x4 : Int32) (h0 : kd r0 = (11, n0)) : ∀ (n : Nat) (s : Int32 × mMem), T qJ7_fill_d0a16 X (lp (bJ7_fill_d0a16_6 r0 n0 x1 x4) n s) 6 [(0, .ref r0), (1, .long x1), (3, .int s.1), (4, .int x4)] [] s.2 :=
  T_lp (body := bJ7_fill_d0a16_6 r0 n0 x1 x4) (lv := fun s => [(0, .ref r0), (1, .long x1), (3, .int s.1), (4, .int x4)]) (st := fun _ => []) (μ := fun s : Int32 × mMem => s.2) (fun k6 hk6 s => by
    obtain ⟨x3, m⟩ := s
    show T qJ7_fill_d0a16 X (bJ7_fill_d0a16_6 r0 n0 x1 x4 k6 (x3, m)) 6 [(0, .ref r0), (1, .long x1), (3, .int x3), (4, .int x4)] [] m
    unfold bJ7_fill_d0a16_6
    dsimp only
    refine T_iload_n 2 rfl rfl dJ7_fill_d0a16_6 ?_
    refine T_iload 3 rfl dJ7_fill_d0a16_7 ?_
    refine T_icmp_ge 22 dJ7_fill_d0a16_9 (by decide) (fun _ => ?_) (fun _ => ?_)
    · exact T_vret rfl dJ7_fill_d0a16_22
    · refine T_aload_n 0 rfl rfl dJ7_fill_d0a16_12 ?_
      refine T_iload_n 2 rfl rfl dJ7_fill_d0a16_13 ?_
      refine T_lload_n 1 rfl rfl dJ7_fill_d0a16_14 ?_
      refine T_last h0 dJ7_fill_d0a16_15 ?_
      refine T_lt (fun m2 => ?_)
      refine T_iinc (lv' := [(3, .int (x3 + (1 : Int32))), (0, .ref r0), (1, .long x1), (4, .int x4)]) 2 (1 : Int32) rfl (by decide) (Nat.le_of_ble_eq_true rfl) rfl dJ7_fill_d0a16_16 ?_
      refine T_li (fun y3 => ?_)
      refine T_goto 6 dJ7_fill_d0a16_19 (by decide) ?_
      exact T_sub [1, 2, 0, 3] rfl (hk6 (y3, m2)))
def fJ7_fill_d0a16 (r0 : Nat) (n0 : Nat) (x1 : Int64) (m : mMem) : mR := li (Int32.ofNat n0) (fun y1 => lp (bJ7_fill_d0a16_6 r0 n0 x1 y1) FU ((0 : Int32), m))
set_option maxRecDepth 100000 in
theorem bsJ7_fill_d0a16 (l : Launch) (r0 : Nat) (n0 : Nat) (x1 : Int64) (m : mMem) (h0 : kd r0 = (11, n0)) : BS l qJ7_fill_d0a16 [.ref r0, .long x1] m (fJ7_fill_d0a16 r0 n0 x1 m) := BS_of (by decide) (Nat.le_of_ble_eq_true rfl) (fun X _ => by
    show T qJ7_fill_d0a16 X (fJ7_fill_d0a16 r0 n0 x1 m) 0 [(0, .ref r0), (1, .long x1)] [] m
    unfold fJ7_fill_d0a16
    refine T_iconst (0 : Int32) (by decide) dJ7_fill_d0a16_0 ?_
    refine T_istore_n (lv' := [(3, .int (0 : Int32)), (0, .ref r0), (1, .long x1)]) rfl (Nat.le_of_ble_eq_true rfl) rfl dJ7_fill_d0a16_1 ?_
    refine T_aload_n 1 rfl rfl dJ7_fill_d0a16_2 ?_
    refine T_alenL h0 dJ7_fill_d0a16_3 ?_
    refine T_istore (lv' := [(4, .int (Int32.ofNat n0)), (3, .int (0 : Int32)), (0, .ref r0), (1, .long x1)]) (Nat.le_of_ble_eq_true rfl) rfl dJ7_fill_d0a16_4 ?_
    refine T_li (fun y1 => ?_)
    exact T_sub [2, 3, 1, 0] rfl (tJ7_fill_d0a16_6 X r0 n0 x1 y1 h0 FU ((0 : Int32), m)))
def bJ7_fill_53178_5 (r0 : Nat) (n0 : Nat) (x1 : Int32) (x3 : Int32) (k5 : Int32 × mMem → mR) (s : Int32 × mMem) : mR := match s with
  | (x2, m) => if x3 ≤ x2 then some (none, m) else ga x2 n0 (lt (si m r0 (x2).toNatClampNeg x1) (fun m2 => li (x2 + (1 : Int32)) (fun y3 => k5 (y3, m2))))
set_option maxRecDepth 100000 in
theorem tJ7_fill_53178_5 (X : mCx) (r0 : Nat) (n0 : Nat) (x1 : Int32) (x3 : Int32) (h0 : kd r0 = (10, n0)) : ∀ (n : Nat) (s : Int32 × mMem), T qJ7_fill_53178 X (lp (bJ7_fill_53178_5 r0 n0 x1 x3) n s) 5 [(0, .ref r0), (1, .int x1), (2, .int s.1), (3, .int x3)] [] s.2 :=
  T_lp (body := bJ7_fill_53178_5 r0 n0 x1 x3) (lv := fun s => [(0, .ref r0), (1, .int x1), (2, .int s.1), (3, .int x3)]) (st := fun _ => []) (μ := fun s : Int32 × mMem => s.2) (fun k5 hk5 s => by
    obtain ⟨x2, m⟩ := s
    show T qJ7_fill_53178 X (bJ7_fill_53178_5 r0 n0 x1 x3 k5 (x2, m)) 5 [(0, .ref r0), (1, .int x1), (2, .int x2), (3, .int x3)] [] m
    unfold bJ7_fill_53178_5
    dsimp only
    refine T_iload_n 2 rfl rfl dJ7_fill_53178_5 ?_
    refine T_iload_n 3 rfl rfl dJ7_fill_53178_6 ?_
    refine T_icmp_ge 20 dJ7_fill_53178_7 (by decide) (fun _ => ?_) (fun _ => ?_)
    · exact T_vret rfl dJ7_fill_53178_20
    · refine T_aload_n 0 rfl rfl dJ7_fill_53178_10 ?_
      refine T_iload_n 2 rfl rfl dJ7_fill_53178_11 ?_
      refine T_iload_n 1 rfl rfl dJ7_fill_53178_12 ?_
      refine T_iast _ rfl h0 dJ7_fill_53178_13 ?_
      refine T_lt (fun m2 => ?_)
      refine T_iinc (lv' := [(2, .int (x2 + (1 : Int32))), (0, .ref r0), (1, .int x1), (3, .int x3)]) 2 (1 : Int32) rfl (by decide) (Nat.le_of_ble_eq_true rfl) rfl dJ7_fill_53178_14 ?_
      refine T_li (fun y3 => ?_)
      refine T_goto 5 dJ7_fill_53178_17 (by decide) ?_
      exact T_sub [1, 2, 0, 3] rfl (hk5 (y3, m2)))
def fJ7_fill_53178 (r0 : Nat) (n0 : Nat) (x1 : Int32) (m : mMem) : mR := li (Int32.ofNat n0) (fun y1 => lp (bJ7_fill_53178_5 r0 n0 x1 y1) FU ((0 : Int32), m))
set_option maxRecDepth 100000 in
theorem bsJ7_fill_53178 (l : Launch) (r0 : Nat) (n0 : Nat) (x1 : Int32) (m : mMem) (h0 : kd r0 = (10, n0)) : BS l qJ7_fill_53178 [.ref r0, .int x1] m (fJ7_fill_53178 r0 n0 x1 m) := BS_of (by decide) (Nat.le_of_ble_eq_true rfl) (fun X _ => by
    show T qJ7_fill_53178 X (fJ7_fill_53178 r0 n0 x1 m) 0 [(0, .ref r0), (1, .int x1)] [] m
    unfold fJ7_fill_53178
    refine T_iconst (0 : Int32) (by decide) dJ7_fill_53178_0 ?_
    refine T_istore_n (lv' := [(2, .int (0 : Int32)), (0, .ref r0), (1, .int x1)]) rfl (Nat.le_of_ble_eq_true rfl) rfl dJ7_fill_53178_1 ?_
    refine T_aload_n 1 rfl rfl dJ7_fill_53178_2 ?_
    refine T_alen h0 (by decide) dJ7_fill_53178_3 ?_
    refine T_istore_n (lv' := [(3, .int (Int32.ofNat n0)), (2, .int (0 : Int32)), (0, .ref r0), (1, .int x1)]) rfl (Nat.le_of_ble_eq_true rfl) rfl dJ7_fill_53178_4 ?_
    refine T_li (fun y1 => ?_)
    exact T_sub [2, 3, 1, 0] rfl (tJ7_fill_53178_5 X r0 n0 x1 y1 h0 FU ((0 : Int32), m)))
end
section
abbrev qX4_empty : mMI := (yX4_empty, cX4_empty, 1, none, 0)
theorem dX4_empty_0 : decode cX4_empty 0 = .ok (.aload_n 0, 1) := by decide +kernel
theorem dX4_empty_1 : decode cX4_empty 1 = .ok (.iconst 0, 1) := by decide +kernel
theorem dX4_empty_2 : decode cX4_empty 2 = .ok (.putfield 9, 3) := by decide +kernel
theorem dX4_empty_5 : decode cX4_empty 5 = .ok (.aload_n 0, 1) := by decide +kernel
theorem dX4_empty_6 : decode cX4_empty 6 = .ok (.iconst 0, 1) := by decide +kernel
theorem dX4_empty_7 : decode cX4_empty 7 = .ok (.putfield 15, 3) := by decide +kernel
theorem dX4_empty_10 : decode cX4_empty 10 = .ok (.aload_n 0, 1) := by decide +kernel
theorem dX4_empty_11 : decode cX4_empty 11 = .ok (.iconst 1, 1) := by decide +kernel
theorem dX4_empty_12 : decode cX4_empty 12 = .ok (.putfield 18, 3) := by decide +kernel
theorem dX4_empty_15 : decode cX4_empty 15 = .ok (.aload_n 0, 1) := by decide +kernel
theorem dX4_empty_16 : decode cX4_empty 16 = .ok (.bipush 30, 2) := by decide +kernel
theorem dX4_empty_18 : decode cX4_empty 18 = .ok (.putfield 21, 3) := by decide +kernel
theorem dX4_empty_21 : decode cX4_empty 21 = .ok (.aload_n 0, 1) := by decide +kernel
theorem dX4_empty_22 : decode cX4_empty 22 = .ok (.iconst 0, 1) := by decide +kernel
theorem dX4_empty_23 : decode cX4_empty 23 = .ok (.putfield 24, 3) := by decide +kernel
theorem dX4_empty_26 : decode cX4_empty 26 = .ok (.return_, 1) := by decide +kernel
theorem mkX4_empty : mokV qX4_empty 0 := ⟨⟨⟨⟨by decide, by decide, by decide +kernel⟩, by decide⟩, gd_mem 53 (by decide +kernel) (by decide +kernel), gd_mem 360 (by decide +kernel) (by decide +kernel)⟩, gd_mem 358 (by decide +kernel) (by decide +kernel), gd_mem 359 (by decide +kernel) (by decide +kernel)⟩
abbrev qX4_addStep : mMI := (yX4_addStep, cX4_addStep, 4, none, 0)
theorem dX4_addStep_0 : decode cX4_addStep 0 = .ok (.aload_n 0, 1) := by decide +kernel
theorem dX4_addStep_1 : decode cX4_addStep 1 = .ok (.getfield 9, 3) := by decide +kernel
theorem dX4_addStep_4 : decode cX4_addStep 4 = .ok (.bipush 10, 2) := by decide +kernel
theorem dX4_addStep_6 : decode cX4_addStep 6 = .ok (.if_icmp .ge 43, 3) := by decide +kernel
theorem dX4_addStep_9 : decode cX4_addStep 9 = .ok (.aload_n 0, 1) := by decide +kernel
theorem dX4_addStep_10 : decode cX4_addStep 10 = .ok (.getfield 27, 3) := by decide +kernel
theorem dX4_addStep_13 : decode cX4_addStep 13 = .ok (.aload_n 0, 1) := by decide +kernel
theorem dX4_addStep_14 : decode cX4_addStep 14 = .ok (.getfield 9, 3) := by decide +kernel
theorem dX4_addStep_17 : decode cX4_addStep 17 = .ok (.iload_n 1, 1) := by decide +kernel
theorem dX4_addStep_18 : decode cX4_addStep 18 = .ok (.iastore, 1) := by decide +kernel
theorem dX4_addStep_19 : decode cX4_addStep 19 = .ok (.aload_n 0, 1) := by decide +kernel
theorem dX4_addStep_20 : decode cX4_addStep 20 = .ok (.getfield 31, 3) := by decide +kernel
theorem dX4_addStep_23 : decode cX4_addStep 23 = .ok (.aload_n 0, 1) := by decide +kernel
theorem dX4_addStep_24 : decode cX4_addStep 24 = .ok (.getfield 9, 3) := by decide +kernel
theorem dX4_addStep_27 : decode cX4_addStep 27 = .ok (.iload_n 2, 1) := by decide +kernel
theorem dX4_addStep_28 : decode cX4_addStep 28 = .ok (.iastore, 1) := by decide +kernel
theorem dX4_addStep_29 : decode cX4_addStep 29 = .ok (.aload_n 0, 1) := by decide +kernel
theorem dX4_addStep_30 : decode cX4_addStep 30 = .ok (.getfield 34, 3) := by decide +kernel
theorem dX4_addStep_33 : decode cX4_addStep 33 = .ok (.aload_n 0, 1) := by decide +kernel
theorem dX4_addStep_34 : decode cX4_addStep 34 = .ok (.getfield 9, 3) := by decide +kernel
theorem dX4_addStep_37 : decode cX4_addStep 37 = .ok (.iload_n 3, 1) := by decide +kernel
theorem dX4_addStep_38 : decode cX4_addStep 38 = .ok (.iastore, 1) := by decide +kernel
theorem dX4_addStep_39 : decode cX4_addStep 39 = .ok (.aload_n 0, 1) := by decide +kernel
theorem dX4_addStep_40 : decode cX4_addStep 40 = .ok (.dup, 1) := by decide +kernel
theorem dX4_addStep_41 : decode cX4_addStep 41 = .ok (.getfield 9, 3) := by decide +kernel
theorem dX4_addStep_44 : decode cX4_addStep 44 = .ok (.iconst 1, 1) := by decide +kernel
theorem dX4_addStep_45 : decode cX4_addStep 45 = .ok (.iadd, 1) := by decide +kernel
theorem dX4_addStep_46 : decode cX4_addStep 46 = .ok (.putfield 9, 3) := by decide +kernel
theorem dX4_addStep_49 : decode cX4_addStep 49 = .ok (.return_, 1) := by decide +kernel
theorem mkX4_addStep : mokV qX4_addStep 3 := ⟨⟨⟨⟨by decide, by decide, by decide +kernel⟩, by decide⟩, gd_mem 53 (by decide +kernel) (by decide +kernel), gd_mem 471 (by decide +kernel) (by decide +kernel)⟩, gd_mem 469 (by decide +kernel) (by decide +kernel), gd_mem 470 (by decide +kernel) (by decide +kernel)⟩
abbrev qX4_addLodger : mMI := (yX4_addLodger, cX4_addLodger, 5, none, 0)
theorem dX4_addLodger_0 : decode cX4_addLodger 0 = .ok (.aload_n 0, 1) := by decide +kernel
theorem dX4_addLodger_1 : decode cX4_addLodger 1 = .ok (.getfield 15, 3) := by decide +kernel
theorem dX4_addLodger_4 : decode cX4_addLodger 4 = .ok (.iconst 4, 1) := by decide +kernel
theorem dX4_addLodger_5 : decode cX4_addLodger 5 = .ok (.if_icmp .ge 54, 3) := by decide +kernel
theorem dX4_addLodger_8 : decode cX4_addLodger 8 = .ok (.aload_n 0, 1) := by decide +kernel
theorem dX4_addLodger_9 : decode cX4_addLodger 9 = .ok (.getfield 37, 3) := by decide +kernel
theorem dX4_addLodger_12 : decode cX4_addLodger 12 = .ok (.aload_n 0, 1) := by decide +kernel
theorem dX4_addLodger_13 : decode cX4_addLodger 13 = .ok (.getfield 15, 3) := by decide +kernel
theorem dX4_addLodger_16 : decode cX4_addLodger 16 = .ok (.iload_n 1, 1) := by decide +kernel
theorem dX4_addLodger_17 : decode cX4_addLodger 17 = .ok (.iastore, 1) := by decide +kernel
theorem dX4_addLodger_18 : decode cX4_addLodger 18 = .ok (.aload_n 0, 1) := by decide +kernel
theorem dX4_addLodger_19 : decode cX4_addLodger 19 = .ok (.getfield 40, 3) := by decide +kernel
theorem dX4_addLodger_22 : decode cX4_addLodger 22 = .ok (.aload_n 0, 1) := by decide +kernel
theorem dX4_addLodger_23 : decode cX4_addLodger 23 = .ok (.getfield 15, 3) := by decide +kernel
theorem dX4_addLodger_26 : decode cX4_addLodger 26 = .ok (.iload_n 2, 1) := by decide +kernel
theorem dX4_addLodger_27 : decode cX4_addLodger 27 = .ok (.iastore, 1) := by decide +kernel
theorem dX4_addLodger_28 : decode cX4_addLodger 28 = .ok (.aload_n 0, 1) := by decide +kernel
theorem dX4_addLodger_29 : decode cX4_addLodger 29 = .ok (.getfield 43, 3) := by decide +kernel
theorem dX4_addLodger_32 : decode cX4_addLodger 32 = .ok (.aload_n 0, 1) := by decide +kernel
theorem dX4_addLodger_33 : decode cX4_addLodger 33 = .ok (.getfield 15, 3) := by decide +kernel
theorem dX4_addLodger_36 : decode cX4_addLodger 36 = .ok (.iload_n 3, 1) := by decide +kernel
theorem dX4_addLodger_37 : decode cX4_addLodger 37 = .ok (.iastore, 1) := by decide +kernel
theorem dX4_addLodger_38 : decode cX4_addLodger 38 = .ok (.aload_n 0, 1) := by decide +kernel
theorem dX4_addLodger_39 : decode cX4_addLodger 39 = .ok (.getfield 46, 3) := by decide +kernel
theorem dX4_addLodger_42 : decode cX4_addLodger 42 = .ok (.aload_n 0, 1) := by decide +kernel
theorem dX4_addLodger_43 : decode cX4_addLodger 43 = .ok (.getfield 15, 3) := by decide +kernel
theorem dX4_addLodger_46 : decode cX4_addLodger 46 = .ok (.iload 4, 2) := by decide +kernel
theorem dX4_addLodger_48 : decode cX4_addLodger 48 = .ok (.iastore, 1) := by decide +kernel
theorem dX4_addLodger_49 : decode cX4_addLodger 49 = .ok (.aload_n 0, 1) := by decide +kernel
theorem dX4_addLodger_50 : decode cX4_addLodger 50 = .ok (.dup, 1) := by decide +kernel
theorem dX4_addLodger_51 : decode cX4_addLodger 51 = .ok (.getfield 15, 3) := by decide +kernel
theorem dX4_addLodger_54 : decode cX4_addLodger 54 = .ok (.iconst 1, 1) := by decide +kernel
theorem dX4_addLodger_55 : decode cX4_addLodger 55 = .ok (.iadd, 1) := by decide +kernel
theorem dX4_addLodger_56 : decode cX4_addLodger 56 = .ok (.putfield 15, 3) := by decide +kernel
theorem dX4_addLodger_59 : decode cX4_addLodger 59 = .ok (.return_, 1) := by decide +kernel
theorem mkX4_addLodger : mokV qX4_addLodger 4 := ⟨⟨⟨⟨by decide, by decide, by decide +kernel⟩, by decide⟩, gd_mem 53 (by decide +kernel) (by decide +kernel), gd_mem 467 (by decide +kernel) (by decide +kernel)⟩, gd_mem 465 (by decide +kernel) (by decide +kernel), gd_mem 466 (by decide +kernel) (by decide +kernel)⟩
abbrev qX4_renew : mMI := (yX4_renew, cX4_renew, 2, none, 0)
theorem dX4_renew_0 : decode cX4_renew 0 = .ok (.aload_n 0, 1) := by decide +kernel
theorem dX4_renew_1 : decode cX4_renew 1 = .ok (.getfield 31, 3) := by decide +kernel
theorem dX4_renew_4 : decode cX4_renew 4 = .ok (.iload_n 1, 1) := by decide +kernel
theorem dX4_renew_5 : decode cX4_renew 5 = .ok (.iconst 0, 1) := by decide +kernel
theorem dX4_renew_6 : decode cX4_renew 6 = .ok (.iastore, 1) := by decide +kernel
theorem dX4_renew_7 : decode cX4_renew 7 = .ok (.aload_n 0, 1) := by decide +kernel
theorem dX4_renew_8 : decode cX4_renew 8 = .ok (.getfield 34, 3) := by decide +kernel
theorem dX4_renew_11 : decode cX4_renew 11 = .ok (.iload_n 1, 1) := by decide +kernel
theorem dX4_renew_12 : decode cX4_renew 12 = .ok (.iconst 0, 1) := by decide +kernel
theorem dX4_renew_13 : decode cX4_renew 13 = .ok (.iastore, 1) := by decide +kernel
theorem dX4_renew_14 : decode cX4_renew 14 = .ok (.return_, 1) := by decide +kernel
theorem mkX4_renew : mokV qX4_renew 1 := ⟨⟨⟨⟨by decide, by decide, by decide +kernel⟩, by decide⟩, gd_mem 53 (by decide +kernel) (by decide +kernel), gd_mem 563 (by decide +kernel) (by decide +kernel)⟩, gd_mem 561 (by decide +kernel) (by decide +kernel), gd_mem 562 (by decide +kernel) (by decide +kernel)⟩
abbrev qX4_isBroken : mMI := (yX4_isBroken, cX4_isBroken, 2, (some .boolean), 0)
theorem dX4_isBroken_0 : decode cX4_isBroken 0 = .ok (.aload_n 0, 1) := by decide +kernel
theorem dX4_isBroken_1 : decode cX4_isBroken 1 = .ok (.getfield 34, 3) := by decide +kernel
theorem dX4_isBroken_4 : decode cX4_isBroken 4 = .ok (.iload_n 1, 1) := by decide +kernel
theorem dX4_isBroken_5 : decode cX4_isBroken 5 = .ok (.iaload, 1) := by decide +kernel
theorem dX4_isBroken_6 : decode cX4_isBroken 6 = .ok (.aload_n 0, 1) := by decide +kernel
theorem dX4_isBroken_7 : decode cX4_isBroken 7 = .ok (.getfield 21, 3) := by decide +kernel
theorem dX4_isBroken_10 : decode cX4_isBroken 10 = .ok (.if_icmp .lt 7, 3) := by decide +kernel
theorem dX4_isBroken_13 : decode cX4_isBroken 13 = .ok (.iconst 1, 1) := by decide +kernel
theorem dX4_isBroken_14 : decode cX4_isBroken 14 = .ok (.goto 4, 3) := by decide +kernel
theorem dX4_isBroken_17 : decode cX4_isBroken 17 = .ok (.iconst 0, 1) := by decide +kernel
theorem dX4_isBroken_18 : decode cX4_isBroken 18 = .ok (.ireturn, 1) := by decide +kernel
theorem mkX4_isBroken : mokV qX4_isBroken 1 := ⟨⟨⟨⟨by decide, by decide, by decide +kernel⟩, by decide⟩, gd_mem 53 (by decide +kernel) (by decide +kernel), gd_mem 512 (by decide +kernel) (by decide +kernel)⟩, gd_mem 510 (by decide +kernel) (by decide +kernel), gd_mem 511 (by decide +kernel) (by decide +kernel)⟩
abbrev qX4_allWear : mMI := (yX4_allWear, cX4_allWear, 3, (some .int), 0)
theorem dX4_allWear_0 : decode cX4_allWear 0 = .ok (.iconst 0, 1) := by decide +kernel
theorem dX4_allWear_1 : decode cX4_allWear 1 = .ok (.istore_n 1, 1) := by decide +kernel
theorem dX4_allWear_2 : decode cX4_allWear 2 = .ok (.iconst 0, 1) := by decide +kernel
theorem dX4_allWear_3 : decode cX4_allWear 3 = .ok (.istore_n 2, 1) := by decide +kernel
theorem dX4_allWear_4 : decode cX4_allWear 4 = .ok (.iload_n 2, 1) := by decide +kernel
theorem dX4_allWear_5 : decode cX4_allWear 5 = .ok (.aload_n 0, 1) := by decide +kernel
theorem dX4_allWear_6 : decode cX4_allWear 6 = .ok (.getfield 9, 3) := by decide +kernel
theorem dX4_allWear_9 : decode cX4_allWear 9 = .ok (.if_icmp .ge 18, 3) := by decide +kernel
theorem dX4_allWear_12 : decode cX4_allWear 12 = .ok (.iload_n 1, 1) := by decide +kernel
theorem dX4_allWear_13 : decode cX4_allWear 13 = .ok (.aload_n 0, 1) := by decide +kernel
theorem dX4_allWear_14 : decode cX4_allWear 14 = .ok (.getfield 34, 3) := by decide +kernel
theorem dX4_allWear_17 : decode cX4_allWear 17 = .ok (.iload_n 2, 1) := by decide +kernel
theorem dX4_allWear_18 : decode cX4_allWear 18 = .ok (.iaload, 1) := by decide +kernel
theorem dX4_allWear_19 : decode cX4_allWear 19 = .ok (.iadd, 1) := by decide +kernel
theorem dX4_allWear_20 : decode cX4_allWear 20 = .ok (.istore_n 1, 1) := by decide +kernel
theorem dX4_allWear_21 : decode cX4_allWear 21 = .ok (.iinc 2 1, 3) := by decide +kernel
theorem dX4_allWear_24 : decode cX4_allWear 24 = .ok (.goto (-20), 3) := by decide +kernel
theorem dX4_allWear_27 : decode cX4_allWear 27 = .ok (.iload_n 1, 1) := by decide +kernel
theorem dX4_allWear_28 : decode cX4_allWear 28 = .ok (.ireturn, 1) := by decide +kernel
theorem mkX4_allWear : mokV qX4_allWear 0 := ⟨⟨⟨⟨by decide, by decide, by decide +kernel⟩, by decide⟩, gd_mem 53 (by decide +kernel) (by decide +kernel), gd_mem 882 (by decide +kernel) (by decide +kernel)⟩, gd_mem 880 (by decide +kernel) (by decide +kernel), gd_mem 881 (by decide +kernel) (by decide +kernel)⟩
abbrev qX4_isHeavy : mMI := (yX4_isHeavy, cX4_isHeavy, 2, (some .boolean), 0)
theorem dX4_isHeavy_0 : decode cX4_isHeavy 0 = .ok (.aload_n 0, 1) := by decide +kernel
theorem dX4_isHeavy_1 : decode cX4_isHeavy 1 = .ok (.getfield 43, 3) := by decide +kernel
theorem dX4_isHeavy_4 : decode cX4_isHeavy 4 = .ok (.iload_n 1, 1) := by decide +kernel
theorem dX4_isHeavy_5 : decode cX4_isHeavy 5 = .ok (.iaload, 1) := by decide +kernel
theorem dX4_isHeavy_6 : decode cX4_isHeavy 6 = .ok (.iconst 5, 1) := by decide +kernel
theorem dX4_isHeavy_7 : decode cX4_isHeavy 7 = .ok (.if_icmp .lt 7, 3) := by decide +kernel
theorem dX4_isHeavy_10 : decode cX4_isHeavy 10 = .ok (.iconst 1, 1) := by decide +kernel
theorem dX4_isHeavy_11 : decode cX4_isHeavy 11 = .ok (.goto 4, 3) := by decide +kernel
theorem dX4_isHeavy_14 : decode cX4_isHeavy 14 = .ok (.iconst 0, 1) := by decide +kernel
theorem dX4_isHeavy_15 : decode cX4_isHeavy 15 = .ok (.ireturn, 1) := by decide +kernel
theorem mkX4_isHeavy : mokV qX4_isHeavy 1 := ⟨⟨⟨⟨by decide, by decide, by decide +kernel⟩, by decide⟩, gd_mem 53 (by decide +kernel) (by decide +kernel), gd_mem 528 (by decide +kernel) (by decide +kernel)⟩, gd_mem 526 (by decide +kernel) (by decide +kernel), gd_mem 527 (by decide +kernel) (by decide +kernel)⟩
abbrev qX4_copyFrom : mMI := (yX4_copyFrom, cX4_copyFrom, 2, none, 1)
theorem dX4_copyFrom_0 : decode cX4_copyFrom 0 = .ok (.aload_n 0, 1) := by decide +kernel
theorem dX4_copyFrom_1 : decode cX4_copyFrom 1 = .ok (.aload_n 1, 1) := by decide +kernel
theorem dX4_copyFrom_2 : decode cX4_copyFrom 2 = .ok (.getfield 9, 3) := by decide +kernel
theorem dX4_copyFrom_5 : decode cX4_copyFrom 5 = .ok (.putfield 9, 3) := by decide +kernel
theorem dX4_copyFrom_8 : decode cX4_copyFrom 8 = .ok (.aload_n 0, 1) := by decide +kernel
theorem dX4_copyFrom_9 : decode cX4_copyFrom 9 = .ok (.aload_n 1, 1) := by decide +kernel
theorem dX4_copyFrom_10 : decode cX4_copyFrom 10 = .ok (.getfield 15, 3) := by decide +kernel
theorem dX4_copyFrom_13 : decode cX4_copyFrom 13 = .ok (.putfield 15, 3) := by decide +kernel
theorem dX4_copyFrom_16 : decode cX4_copyFrom 16 = .ok (.aload_n 0, 1) := by decide +kernel
theorem dX4_copyFrom_17 : decode cX4_copyFrom 17 = .ok (.aload_n 1, 1) := by decide +kernel
theorem dX4_copyFrom_18 : decode cX4_copyFrom 18 = .ok (.getfield 18, 3) := by decide +kernel
theorem dX4_copyFrom_21 : decode cX4_copyFrom 21 = .ok (.putfield 18, 3) := by decide +kernel
theorem dX4_copyFrom_24 : decode cX4_copyFrom 24 = .ok (.aload_n 0, 1) := by decide +kernel
theorem dX4_copyFrom_25 : decode cX4_copyFrom 25 = .ok (.aload_n 1, 1) := by decide +kernel
theorem dX4_copyFrom_26 : decode cX4_copyFrom 26 = .ok (.getfield 21, 3) := by decide +kernel
theorem dX4_copyFrom_29 : decode cX4_copyFrom 29 = .ok (.putfield 21, 3) := by decide +kernel
theorem dX4_copyFrom_32 : decode cX4_copyFrom 32 = .ok (.aload_n 0, 1) := by decide +kernel
theorem dX4_copyFrom_33 : decode cX4_copyFrom 33 = .ok (.aload_n 1, 1) := by decide +kernel
theorem dX4_copyFrom_34 : decode cX4_copyFrom 34 = .ok (.getfield 24, 3) := by decide +kernel
theorem dX4_copyFrom_37 : decode cX4_copyFrom 37 = .ok (.putfield 24, 3) := by decide +kernel
theorem dX4_copyFrom_40 : decode cX4_copyFrom 40 = .ok (.aload_n 1, 1) := by decide +kernel
theorem dX4_copyFrom_41 : decode cX4_copyFrom 41 = .ok (.getfield 27, 3) := by decide +kernel
theorem dX4_copyFrom_44 : decode cX4_copyFrom 44 = .ok (.iconst 0, 1) := by decide +kernel
theorem dX4_copyFrom_45 : decode cX4_copyFrom 45 = .ok (.aload_n 0, 1) := by decide +kernel
theorem dX4_copyFrom_46 : decode cX4_copyFrom 46 = .ok (.getfield 27, 3) := by decide +kernel
theorem dX4_copyFrom_49 : decode cX4_copyFrom 49 = .ok (.iconst 0, 1) := by decide +kernel
theorem dX4_copyFrom_50 : decode cX4_copyFrom 50 = .ok (.bipush 10, 2) := by decide +kernel
theorem dX4_copyFrom_52 : decode cX4_copyFrom 52 = .ok (.invokestatic 49, 3) := by decide +kernel
theorem dX4_copyFrom_55 : decode cX4_copyFrom 55 = .ok (.aload_n 1, 1) := by decide +kernel
theorem dX4_copyFrom_56 : decode cX4_copyFrom 56 = .ok (.getfield 31, 3) := by decide +kernel
theorem dX4_copyFrom_59 : decode cX4_copyFrom 59 = .ok (.iconst 0, 1) := by decide +kernel
theorem dX4_copyFrom_60 : decode cX4_copyFrom 60 = .ok (.aload_n 0, 1) := by decide +kernel
theorem dX4_copyFrom_61 : decode cX4_copyFrom 61 = .ok (.getfield 31, 3) := by decide +kernel
theorem dX4_copyFrom_64 : decode cX4_copyFrom 64 = .ok (.iconst 0, 1) := by decide +kernel
theorem dX4_copyFrom_65 : decode cX4_copyFrom 65 = .ok (.bipush 10, 2) := by decide +kernel
theorem dX4_copyFrom_67 : decode cX4_copyFrom 67 = .ok (.invokestatic 49, 3) := by decide +kernel
theorem dX4_copyFrom_70 : decode cX4_copyFrom 70 = .ok (.aload_n 1, 1) := by decide +kernel
theorem dX4_copyFrom_71 : decode cX4_copyFrom 71 = .ok (.getfield 34, 3) := by decide +kernel
theorem dX4_copyFrom_74 : decode cX4_copyFrom 74 = .ok (.iconst 0, 1) := by decide +kernel
theorem dX4_copyFrom_75 : decode cX4_copyFrom 75 = .ok (.aload_n 0, 1) := by decide +kernel
theorem dX4_copyFrom_76 : decode cX4_copyFrom 76 = .ok (.getfield 34, 3) := by decide +kernel
theorem dX4_copyFrom_79 : decode cX4_copyFrom 79 = .ok (.iconst 0, 1) := by decide +kernel
theorem dX4_copyFrom_80 : decode cX4_copyFrom 80 = .ok (.bipush 10, 2) := by decide +kernel
theorem dX4_copyFrom_82 : decode cX4_copyFrom 82 = .ok (.invokestatic 49, 3) := by decide +kernel
theorem dX4_copyFrom_85 : decode cX4_copyFrom 85 = .ok (.aload_n 1, 1) := by decide +kernel
theorem dX4_copyFrom_86 : decode cX4_copyFrom 86 = .ok (.getfield 37, 3) := by decide +kernel
theorem dX4_copyFrom_89 : decode cX4_copyFrom 89 = .ok (.iconst 0, 1) := by decide +kernel
theorem dX4_copyFrom_90 : decode cX4_copyFrom 90 = .ok (.aload_n 0, 1) := by decide +kernel
theorem dX4_copyFrom_91 : decode cX4_copyFrom 91 = .ok (.getfield 37, 3) := by decide +kernel
theorem dX4_copyFrom_94 : decode cX4_copyFrom 94 = .ok (.iconst 0, 1) := by decide +kernel
theorem dX4_copyFrom_95 : decode cX4_copyFrom 95 = .ok (.iconst 4, 1) := by decide +kernel
theorem dX4_copyFrom_96 : decode cX4_copyFrom 96 = .ok (.invokestatic 49, 3) := by decide +kernel
theorem dX4_copyFrom_99 : decode cX4_copyFrom 99 = .ok (.aload_n 1, 1) := by decide +kernel
theorem dX4_copyFrom_100 : decode cX4_copyFrom 100 = .ok (.getfield 40, 3) := by decide +kernel
theorem dX4_copyFrom_103 : decode cX4_copyFrom 103 = .ok (.iconst 0, 1) := by decide +kernel
theorem dX4_copyFrom_104 : decode cX4_copyFrom 104 = .ok (.aload_n 0, 1) := by decide +kernel
theorem dX4_copyFrom_105 : decode cX4_copyFrom 105 = .ok (.getfield 40, 3) := by decide +kernel
theorem dX4_copyFrom_108 : decode cX4_copyFrom 108 = .ok (.iconst 0, 1) := by decide +kernel
theorem dX4_copyFrom_109 : decode cX4_copyFrom 109 = .ok (.iconst 4, 1) := by decide +kernel
theorem dX4_copyFrom_110 : decode cX4_copyFrom 110 = .ok (.invokestatic 49, 3) := by decide +kernel
theorem dX4_copyFrom_113 : decode cX4_copyFrom 113 = .ok (.aload_n 1, 1) := by decide +kernel
theorem dX4_copyFrom_114 : decode cX4_copyFrom 114 = .ok (.getfield 43, 3) := by decide +kernel
theorem dX4_copyFrom_117 : decode cX4_copyFrom 117 = .ok (.iconst 0, 1) := by decide +kernel
theorem dX4_copyFrom_118 : decode cX4_copyFrom 118 = .ok (.aload_n 0, 1) := by decide +kernel
theorem dX4_copyFrom_119 : decode cX4_copyFrom 119 = .ok (.getfield 43, 3) := by decide +kernel
theorem dX4_copyFrom_122 : decode cX4_copyFrom 122 = .ok (.iconst 0, 1) := by decide +kernel
theorem dX4_copyFrom_123 : decode cX4_copyFrom 123 = .ok (.iconst 4, 1) := by decide +kernel
theorem dX4_copyFrom_124 : decode cX4_copyFrom 124 = .ok (.invokestatic 49, 3) := by decide +kernel
theorem dX4_copyFrom_127 : decode cX4_copyFrom 127 = .ok (.aload_n 1, 1) := by decide +kernel
theorem dX4_copyFrom_128 : decode cX4_copyFrom 128 = .ok (.getfield 46, 3) := by decide +kernel
theorem dX4_copyFrom_131 : decode cX4_copyFrom 131 = .ok (.iconst 0, 1) := by decide +kernel
theorem dX4_copyFrom_132 : decode cX4_copyFrom 132 = .ok (.aload_n 0, 1) := by decide +kernel
theorem dX4_copyFrom_133 : decode cX4_copyFrom 133 = .ok (.getfield 46, 3) := by decide +kernel
theorem dX4_copyFrom_136 : decode cX4_copyFrom 136 = .ok (.iconst 0, 1) := by decide +kernel
theorem dX4_copyFrom_137 : decode cX4_copyFrom 137 = .ok (.iconst 4, 1) := by decide +kernel
theorem dX4_copyFrom_138 : decode cX4_copyFrom 138 = .ok (.invokestatic 49, 3) := by decide +kernel
theorem dX4_copyFrom_141 : decode cX4_copyFrom 141 = .ok (.return_, 1) := by decide +kernel
theorem mkX4_copyFrom : mokV qX4_copyFrom 1 := ⟨⟨⟨⟨by decide, by decide, by decide +kernel⟩, by decide⟩, gd_mem 53 (by decide +kernel) (by decide +kernel), gd_mem 478 (by decide +kernel) (by decide +kernel)⟩, gd_mem 476 (by decide +kernel) (by decide +kernel), gd_mem 477 (by decide +kernel) (by decide +kernel)⟩
abbrev qX4_rankOfStep : mMI := (yX4_rankOfStep, cX4_rankOfStep, 3, (some .int), 1)
theorem dX4_rankOfStep_0 : decode cX4_rankOfStep 0 = .ok (.aload_n 0, 1) := by decide +kernel
theorem dX4_rankOfStep_1 : decode cX4_rankOfStep 1 = .ok (.getfield 31, 3) := by decide +kernel
theorem dX4_rankOfStep_4 : decode cX4_rankOfStep 4 = .ok (.iload_n 1, 1) := by decide +kernel
theorem dX4_rankOfStep_5 : decode cX4_rankOfStep 5 = .ok (.iaload, 1) := by decide +kernel
theorem dX4_rankOfStep_6 : decode cX4_rankOfStep 6 = .ok (.bipush 10, 2) := by decide +kernel
theorem dX4_rankOfStep_8 : decode cX4_rankOfStep 8 = .ok (.idiv, 1) := by decide +kernel
theorem dX4_rankOfStep_9 : decode cX4_rankOfStep 9 = .ok (.iconst 3, 1) := by decide +kernel
theorem dX4_rankOfStep_10 : decode cX4_rankOfStep 10 = .ok (.invokestatic 55, 3) := by decide +kernel
theorem dX4_rankOfStep_13 : decode cX4_rankOfStep 13 = .ok (.istore_n 2, 1) := by decide +kernel
theorem dX4_rankOfStep_14 : decode cX4_rankOfStep 14 = .ok (.aload_n 0, 1) := by decide +kernel
theorem dX4_rankOfStep_15 : decode cX4_rankOfStep 15 = .ok (.getfield 27, 3) := by decide +kernel
theorem dX4_rankOfStep_18 : decode cX4_rankOfStep 18 = .ok (.iload_n 1, 1) := by decide +kernel
theorem dX4_rankOfStep_19 : decode cX4_rankOfStep 19 = .ok (.iaload, 1) := by decide +kernel
theorem dX4_rankOfStep_20 : decode cX4_rankOfStep 20 = .ok (.lookupswitch 32 #[(0, 28), (2, 30)], 28) := by decide +kernel
theorem dX4_rankOfStep_48 : decode cX4_rankOfStep 48 = .ok (.iload_n 2, 1) := by decide +kernel
theorem dX4_rankOfStep_49 : decode cX4_rankOfStep 49 = .ok (.ireturn, 1) := by decide +kernel
theorem dX4_rankOfStep_50 : decode cX4_rankOfStep 50 = .ok (.iconst 0, 1) := by decide +kernel
theorem dX4_rankOfStep_51 : decode cX4_rankOfStep 51 = .ok (.ireturn, 1) := by decide +kernel
theorem dX4_rankOfStep_52 : decode cX4_rankOfStep 52 = .ok (.iload_n 2, 1) := by decide +kernel
theorem dX4_rankOfStep_53 : decode cX4_rankOfStep 53 = .ok (.iconst 1, 1) := by decide +kernel
theorem dX4_rankOfStep_54 : decode cX4_rankOfStep 54 = .ok (.iadd, 1) := by decide +kernel
theorem dX4_rankOfStep_55 : decode cX4_rankOfStep 55 = .ok (.iconst 3, 1) := by decide +kernel
theorem dX4_rankOfStep_56 : decode cX4_rankOfStep 56 = .ok (.invokestatic 55, 3) := by decide +kernel
theorem dX4_rankOfStep_59 : decode cX4_rankOfStep 59 = .ok (.ireturn, 1) := by decide +kernel
theorem mkX4_rankOfStep : mokV qX4_rankOfStep 1 := ⟨⟨⟨⟨by decide, by decide, by decide +kernel⟩, by decide⟩, gd_mem 53 (by decide +kernel) (by decide +kernel), gd_mem 505 (by decide +kernel) (by decide +kernel)⟩, gd_mem 503 (by decide +kernel) (by decide +kernel), gd_mem 504 (by decide +kernel) (by decide +kernel)⟩
abbrev qX4_brokenBits : mMI := (yX4_brokenBits, cX4_brokenBits, 3, (some .int), 1)
theorem dX4_brokenBits_0 : decode cX4_brokenBits 0 = .ok (.iconst 0, 1) := by decide +kernel
theorem dX4_brokenBits_1 : decode cX4_brokenBits 1 = .ok (.istore_n 1, 1) := by decide +kernel
theorem dX4_brokenBits_2 : decode cX4_brokenBits 2 = .ok (.iconst 0, 1) := by decide +kernel
theorem dX4_brokenBits_3 : decode cX4_brokenBits 3 = .ok (.istore_n 2, 1) := by decide +kernel
theorem dX4_brokenBits_4 : decode cX4_brokenBits 4 = .ok (.iload_n 2, 1) := by decide +kernel
theorem dX4_brokenBits_5 : decode cX4_brokenBits 5 = .ok (.aload_n 0, 1) := by decide +kernel
theorem dX4_brokenBits_6 : decode cX4_brokenBits 6 = .ok (.getfield 9, 3) := by decide +kernel
theorem dX4_brokenBits_9 : decode cX4_brokenBits 9 = .ok (.if_icmp .ge 23, 3) := by decide +kernel
theorem dX4_brokenBits_12 : decode cX4_brokenBits 12 = .ok (.aload_n 0, 1) := by decide +kernel
theorem dX4_brokenBits_13 : decode cX4_brokenBits 13 = .ok (.iload_n 2, 1) := by decide +kernel
theorem dX4_brokenBits_14 : decode cX4_brokenBits 14 = .ok (.invokevirtual 61, 3) := by decide +kernel
theorem dX4_brokenBits_17 : decode cX4_brokenBits 17 = .ok (.ifCond .eq 9, 3) := by decide +kernel
theorem dX4_brokenBits_20 : decode cX4_brokenBits 20 = .ok (.iload_n 1, 1) := by decide +kernel
theorem dX4_brokenBits_21 : decode cX4_brokenBits 21 = .ok (.iconst 1, 1) := by decide +kernel
theorem dX4_brokenBits_22 : decode cX4_brokenBits 22 = .ok (.iload_n 2, 1) := by decide +kernel
theorem dX4_brokenBits_23 : decode cX4_brokenBits 23 = .ok (.ishl, 1) := by decide +kernel
theorem dX4_brokenBits_24 : decode cX4_brokenBits 24 = .ok (.ior, 1) := by decide +kernel
theorem dX4_brokenBits_25 : decode cX4_brokenBits 25 = .ok (.istore_n 1, 1) := by decide +kernel
theorem dX4_brokenBits_26 : decode cX4_brokenBits 26 = .ok (.iinc 2 1, 3) := by decide +kernel
theorem dX4_brokenBits_29 : decode cX4_brokenBits 29 = .ok (.goto (-25), 3) := by decide +kernel
theorem dX4_brokenBits_32 : decode cX4_brokenBits 32 = .ok (.iload_n 1, 1) := by decide +kernel
theorem dX4_brokenBits_33 : decode cX4_brokenBits 33 = .ok (.ireturn, 1) := by decide +kernel
theorem mkX4_brokenBits : mokV qX4_brokenBits 0 := ⟨⟨⟨⟨by decide, by decide, by decide +kernel⟩, by decide⟩, gd_mem 53 (by decide +kernel) (by decide +kernel), gd_mem 692 (by decide +kernel) (by decide +kernel)⟩, gd_mem 690 (by decide +kernel) (by decide +kernel), gd_mem 691 (by decide +kernel) (by decide +kernel)⟩
abbrev qX4_mostWear : mMI := (yX4_mostWear, cX4_mostWear, 3, (some .int), 1)
theorem dX4_mostWear_0 : decode cX4_mostWear 0 = .ok (.iconst 0, 1) := by decide +kernel
theorem dX4_mostWear_1 : decode cX4_mostWear 1 = .ok (.istore_n 1, 1) := by decide +kernel
theorem dX4_mostWear_2 : decode cX4_mostWear 2 = .ok (.iconst 0, 1) := by decide +kernel
theorem dX4_mostWear_3 : decode cX4_mostWear 3 = .ok (.istore_n 2, 1) := by decide +kernel
theorem dX4_mostWear_4 : decode cX4_mostWear 4 = .ok (.iload_n 2, 1) := by decide +kernel
theorem dX4_mostWear_5 : decode cX4_mostWear 5 = .ok (.aload_n 0, 1) := by decide +kernel
theorem dX4_mostWear_6 : decode cX4_mostWear 6 = .ok (.getfield 9, 3) := by decide +kernel
theorem dX4_mostWear_9 : decode cX4_mostWear 9 = .ok (.if_icmp .ge 20, 3) := by decide +kernel
theorem dX4_mostWear_12 : decode cX4_mostWear 12 = .ok (.iload_n 1, 1) := by decide +kernel
theorem dX4_mostWear_13 : decode cX4_mostWear 13 = .ok (.aload_n 0, 1) := by decide +kernel
theorem dX4_mostWear_14 : decode cX4_mostWear 14 = .ok (.getfield 34, 3) := by decide +kernel
theorem dX4_mostWear_17 : decode cX4_mostWear 17 = .ok (.iload_n 2, 1) := by decide +kernel
theorem dX4_mostWear_18 : decode cX4_mostWear 18 = .ok (.iaload, 1) := by decide +kernel
theorem dX4_mostWear_19 : decode cX4_mostWear 19 = .ok (.invokestatic 65, 3) := by decide +kernel
theorem dX4_mostWear_22 : decode cX4_mostWear 22 = .ok (.istore_n 1, 1) := by decide +kernel
theorem dX4_mostWear_23 : decode cX4_mostWear 23 = .ok (.iinc 2 1, 3) := by decide +kernel
theorem dX4_mostWear_26 : decode cX4_mostWear 26 = .ok (.goto (-22), 3) := by decide +kernel
theorem dX4_mostWear_29 : decode cX4_mostWear 29 = .ok (.iload_n 1, 1) := by decide +kernel
theorem dX4_mostWear_30 : decode cX4_mostWear 30 = .ok (.ireturn, 1) := by decide +kernel
theorem mkX4_mostWear : mokV qX4_mostWear 0 := ⟨⟨⟨⟨by decide, by decide, by decide +kernel⟩, by decide⟩, gd_mem 53 (by decide +kernel) (by decide +kernel), gd_mem 717 (by decide +kernel) (by decide +kernel)⟩, gd_mem 715 (by decide +kernel) (by decide +kernel), gd_mem 716 (by decide +kernel) (by decide +kernel)⟩
abbrev qX4_reachOf : mMI := (yX4_reachOf, cX4_reachOf, 2, (some .int), 1)
theorem dX4_reachOf_0 : decode cX4_reachOf 0 = .ok (.aload_n 0, 1) := by decide +kernel
theorem dX4_reachOf_1 : decode cX4_reachOf 1 = .ok (.iload_n 1, 1) := by decide +kernel
theorem dX4_reachOf_2 : decode cX4_reachOf 2 = .ok (.invokevirtual 68, 3) := by decide +kernel
theorem dX4_reachOf_5 : decode cX4_reachOf 5 = .ok (.ifCond .eq 18, 3) := by decide +kernel
theorem dX4_reachOf_8 : decode cX4_reachOf 8 = .ok (.aload_n 0, 1) := by decide +kernel
theorem dX4_reachOf_9 : decode cX4_reachOf 9 = .ok (.getfield 37, 3) := by decide +kernel
theorem dX4_reachOf_12 : decode cX4_reachOf 12 = .ok (.iload_n 1, 1) := by decide +kernel
theorem dX4_reachOf_13 : decode cX4_reachOf 13 = .ok (.iaload, 1) := by decide +kernel
theorem dX4_reachOf_14 : decode cX4_reachOf 14 = .ok (.iconst 1, 1) := by decide +kernel
theorem dX4_reachOf_15 : decode cX4_reachOf 15 = .ok (.isub, 1) := by decide +kernel
theorem dX4_reachOf_16 : decode cX4_reachOf 16 = .ok (.iconst 1, 1) := by decide +kernel
theorem dX4_reachOf_17 : decode cX4_reachOf 17 = .ok (.invokestatic 65, 3) := by decide +kernel
theorem dX4_reachOf_20 : decode cX4_reachOf 20 = .ok (.goto 9, 3) := by decide +kernel
theorem dX4_reachOf_23 : decode cX4_reachOf 23 = .ok (.aload_n 0, 1) := by decide +kernel
theorem dX4_reachOf_24 : decode cX4_reachOf 24 = .ok (.getfield 37, 3) := by decide +kernel
theorem dX4_reachOf_27 : decode cX4_reachOf 27 = .ok (.iload_n 1, 1) := by decide +kernel
theorem dX4_reachOf_28 : decode cX4_reachOf 28 = .ok (.iaload, 1) := by decide +kernel
theorem dX4_reachOf_29 : decode cX4_reachOf 29 = .ok (.ireturn, 1) := by decide +kernel
theorem mkX4_reachOf : mokV qX4_reachOf 1 := ⟨⟨⟨⟨by decide, by decide, by decide +kernel⟩, by decide⟩, gd_mem 53 (by decide +kernel) (by decide +kernel), gd_mem 524 (by decide +kernel) (by decide +kernel)⟩, gd_mem 522 (by decide +kernel) (by decide +kernel), gd_mem 523 (by decide +kernel) (by decide +kernel)⟩
abbrev qX4_wearBy : mMI := (yX4_wearBy, cX4_wearBy, 5, none, 1)
theorem dX4_wearBy_0 : decode cX4_wearBy 0 = .ok (.aload_n 0, 1) := by decide +kernel
theorem dX4_wearBy_1 : decode cX4_wearBy 1 = .ok (.iload_n 1, 1) := by decide +kernel
theorem dX4_wearBy_2 : decode cX4_wearBy 2 = .ok (.invokevirtual 68, 3) := by decide +kernel
theorem dX4_wearBy_5 : decode cX4_wearBy 5 = .ok (.ifCond .eq 7, 3) := by decide +kernel
theorem dX4_wearBy_8 : decode cX4_wearBy 8 = .ok (.iconst 1, 1) := by decide +kernel
theorem dX4_wearBy_9 : decode cX4_wearBy 9 = .ok (.goto 4, 3) := by decide +kernel
theorem dX4_wearBy_12 : decode cX4_wearBy 12 = .ok (.iconst 0, 1) := by decide +kernel
theorem dX4_wearBy_13 : decode cX4_wearBy 13 = .ok (.istore_n 3, 1) := by decide +kernel
theorem dX4_wearBy_14 : decode cX4_wearBy 14 = .ok (.iconst 0, 1) := by decide +kernel
theorem dX4_wearBy_15 : decode cX4_wearBy 15 = .ok (.istore 4, 2) := by decide +kernel
theorem dX4_wearBy_17 : decode cX4_wearBy 17 = .ok (.iload 4, 2) := by decide +kernel
theorem dX4_wearBy_19 : decode cX4_wearBy 19 = .ok (.aload_n 0, 1) := by decide +kernel
theorem dX4_wearBy_20 : decode cX4_wearBy 20 = .ok (.getfield 9, 3) := by decide +kernel
theorem dX4_wearBy_23 : decode cX4_wearBy 23 = .ok (.if_icmp .ge 60, 3) := by decide +kernel
theorem dX4_wearBy_26 : decode cX4_wearBy 26 = .ok (.iload_n 2, 1) := by decide +kernel
theorem dX4_wearBy_27 : decode cX4_wearBy 27 = .ok (.iload 4, 2) := by decide +kernel
theorem dX4_wearBy_29 : decode cX4_wearBy 29 = .ok (.ishr, 1) := by decide +kernel
theorem dX4_wearBy_30 : decode cX4_wearBy 30 = .ok (.iconst 1, 1) := by decide +kernel
theorem dX4_wearBy_31 : decode cX4_wearBy 31 = .ok (.iand, 1) := by decide +kernel
theorem dX4_wearBy_32 : decode cX4_wearBy 32 = .ok (.ifCond .eq 45, 3) := by decide +kernel
theorem dX4_wearBy_35 : decode cX4_wearBy 35 = .ok (.aload_n 0, 1) := by decide +kernel
theorem dX4_wearBy_36 : decode cX4_wearBy 36 = .ok (.getfield 27, 3) := by decide +kernel
theorem dX4_wearBy_39 : decode cX4_wearBy 39 = .ok (.iload 4, 2) := by decide +kernel
theorem dX4_wearBy_41 : decode cX4_wearBy 41 = .ok (.iaload, 1) := by decide +kernel
theorem dX4_wearBy_42 : decode cX4_wearBy 42 = .ok (.iconst 3, 1) := by decide +kernel
theorem dX4_wearBy_43 : decode cX4_wearBy 43 = .ok (.if_icmp .eq 34, 3) := by decide +kernel
theorem dX4_wearBy_46 : decode cX4_wearBy 46 = .ok (.aload_n 0, 1) := by decide +kernel
theorem dX4_wearBy_47 : decode cX4_wearBy 47 = .ok (.getfield 34, 3) := by decide +kernel
theorem dX4_wearBy_50 : decode cX4_wearBy 50 = .ok (.iload 4, 2) := by decide +kernel
theorem dX4_wearBy_52 : decode cX4_wearBy 52 = .ok (.aload_n 0, 1) := by decide +kernel
theorem dX4_wearBy_53 : decode cX4_wearBy 53 = .ok (.getfield 34, 3) := by decide +kernel
theorem dX4_wearBy_56 : decode cX4_wearBy 56 = .ok (.iload 4, 2) := by decide +kernel
theorem dX4_wearBy_58 : decode cX4_wearBy 58 = .ok (.iaload, 1) := by decide +kernel
theorem dX4_wearBy_59 : decode cX4_wearBy 59 = .ok (.iconst 2, 1) := by decide +kernel
theorem dX4_wearBy_60 : decode cX4_wearBy 60 = .ok (.iadd, 1) := by decide +kernel
theorem dX4_wearBy_61 : decode cX4_wearBy 61 = .ok (.aload_n 0, 1) := by decide +kernel
theorem dX4_wearBy_62 : decode cX4_wearBy 62 = .ok (.getfield 27, 3) := by decide +kernel
theorem dX4_wearBy_65 : decode cX4_wearBy 65 = .ok (.iload 4, 2) := by decide +kernel
theorem dX4_wearBy_67 : decode cX4_wearBy 67 = .ok (.iaload, 1) := by decide +kernel
theorem dX4_wearBy_68 : decode cX4_wearBy 68 = .ok (.isub, 1) := by decide +kernel
theorem dX4_wearBy_69 : decode cX4_wearBy 69 = .ok (.iload_n 3, 1) := by decide +kernel
theorem dX4_wearBy_70 : decode cX4_wearBy 70 = .ok (.iadd, 1) := by decide +kernel
theorem dX4_wearBy_71 : decode cX4_wearBy 71 = .ok (.bipush 99, 2) := by decide +kernel
theorem dX4_wearBy_73 : decode cX4_wearBy 73 = .ok (.invokestatic 55, 3) := by decide +kernel
theorem dX4_wearBy_76 : decode cX4_wearBy 76 = .ok (.iastore, 1) := by decide +kernel
theorem dX4_wearBy_77 : decode cX4_wearBy 77 = .ok (.iinc 4 1, 3) := by decide +kernel
theorem dX4_wearBy_80 : decode cX4_wearBy 80 = .ok (.goto (-63), 3) := by decide +kernel
theorem dX4_wearBy_83 : decode cX4_wearBy 83 = .ok (.return_, 1) := by decide +kernel
theorem mkX4_wearBy : mokV qX4_wearBy 2 := ⟨⟨⟨⟨by decide, by decide, by decide +kernel⟩, by decide⟩, gd_mem 53 (by decide +kernel) (by decide +kernel), gd_mem 684 (by decide +kernel) (by decide +kernel)⟩, gd_mem 682 (by decide +kernel) (by decide +kernel), gd_mem 683 (by decide +kernel) (by decide +kernel)⟩
abbrev qX4_isNear : mMI := (yX4_isNear, cX4_isNear, 3, (some .boolean), 2)
theorem dX4_isNear_0 : decode cX4_isNear 0 = .ok (.aload_n 0, 1) := by decide +kernel
theorem dX4_isNear_1 : decode cX4_isNear 1 = .ok (.getfield 27, 3) := by decide +kernel
theorem dX4_isNear_4 : decode cX4_isNear 4 = .ok (.iload_n 2, 1) := by decide +kernel
theorem dX4_isNear_5 : decode cX4_isNear 5 = .ok (.iaload, 1) := by decide +kernel
theorem dX4_isNear_6 : decode cX4_isNear 6 = .ok (.iconst 3, 1) := by decide +kernel
theorem dX4_isNear_7 : decode cX4_isNear 7 = .ok (.if_icmp .eq 25, 3) := by decide +kernel
theorem dX4_isNear_10 : decode cX4_isNear 10 = .ok (.aload_n 0, 1) := by decide +kernel
theorem dX4_isNear_11 : decode cX4_isNear 11 = .ok (.iload_n 2, 1) := by decide +kernel
theorem dX4_isNear_12 : decode cX4_isNear 12 = .ok (.invokevirtual 75, 3) := by decide +kernel
theorem dX4_isNear_15 : decode cX4_isNear 15 = .ok (.aload_n 0, 1) := by decide +kernel
theorem dX4_isNear_16 : decode cX4_isNear 16 = .ok (.getfield 40, 3) := by decide +kernel
theorem dX4_isNear_19 : decode cX4_isNear 19 = .ok (.iload_n 1, 1) := by decide +kernel
theorem dX4_isNear_20 : decode cX4_isNear 20 = .ok (.iaload, 1) := by decide +kernel
theorem dX4_isNear_21 : decode cX4_isNear 21 = .ok (.isub, 1) := by decide +kernel
theorem dX4_isNear_22 : decode cX4_isNear 22 = .ok (.invokestatic 79, 3) := by decide +kernel
theorem dX4_isNear_25 : decode cX4_isNear 25 = .ok (.aload_n 0, 1) := by decide +kernel
theorem dX4_isNear_26 : decode cX4_isNear 26 = .ok (.getfield 18, 3) := by decide +kernel
theorem dX4_isNear_29 : decode cX4_isNear 29 = .ok (.if_icmp .gt 7, 3) := by decide +kernel
theorem dX4_isNear_32 : decode cX4_isNear 32 = .ok (.iconst 1, 1) := by decide +kernel
theorem dX4_isNear_33 : decode cX4_isNear 33 = .ok (.goto 4, 3) := by decide +kernel
theorem dX4_isNear_36 : decode cX4_isNear 36 = .ok (.iconst 0, 1) := by decide +kernel
theorem dX4_isNear_37 : decode cX4_isNear 37 = .ok (.ireturn, 1) := by decide +kernel
theorem mkX4_isNear : mokV qX4_isNear 2 := ⟨⟨⟨⟨by decide, by decide, by decide +kernel⟩, by decide⟩, gd_mem 53 (by decide +kernel) (by decide +kernel), gd_mem 540 (by decide +kernel) (by decide +kernel)⟩, gd_mem 539 (by decide +kernel) (by decide +kernel), gd_mem 12 (by decide +kernel) (by decide +kernel)⟩
abbrev qX4_getsHomeBy : mMI := (yX4_getsHomeBy, cX4_getsHomeBy, 7, (some .boolean), 2)
theorem dX4_getsHomeBy_0 : decode cX4_getsHomeBy 0 = .ok (.iconst 1, 1) := by decide +kernel
theorem dX4_getsHomeBy_1 : decode cX4_getsHomeBy 1 = .ok (.aload_n 0, 1) := by decide +kernel
theorem dX4_getsHomeBy_2 : decode cX4_getsHomeBy 2 = .ok (.iload_n 1, 1) := by decide +kernel
theorem dX4_getsHomeBy_3 : decode cX4_getsHomeBy 3 = .ok (.invokevirtual 88, 3) := by decide +kernel
theorem dX4_getsHomeBy_6 : decode cX4_getsHomeBy 6 = .ok (.ishl, 1) := by decide +kernel
theorem dX4_getsHomeBy_7 : decode cX4_getsHomeBy 7 = .ok (.iconst 1, 1) := by decide +kernel
theorem dX4_getsHomeBy_8 : decode cX4_getsHomeBy 8 = .ok (.isub, 1) := by decide +kernel
theorem dX4_getsHomeBy_9 : decode cX4_getsHomeBy 9 = .ok (.istore_n 3, 1) := by decide +kernel
theorem dX4_getsHomeBy_10 : decode cX4_getsHomeBy 10 = .ok (.iconst 1, 1) := by decide +kernel
theorem dX4_getsHomeBy_11 : decode cX4_getsHomeBy 11 = .ok (.istore 4, 2) := by decide +kernel
theorem dX4_getsHomeBy_13 : decode cX4_getsHomeBy 13 = .ok (.iconst 0, 1) := by decide +kernel
theorem dX4_getsHomeBy_14 : decode cX4_getsHomeBy 14 = .ok (.istore 5, 2) := by decide +kernel
theorem dX4_getsHomeBy_16 : decode cX4_getsHomeBy 16 = .ok (.iload 5, 2) := by decide +kernel
theorem dX4_getsHomeBy_18 : decode cX4_getsHomeBy 18 = .ok (.aload_n 0, 1) := by decide +kernel
theorem dX4_getsHomeBy_19 : decode cX4_getsHomeBy 19 = .ok (.getfield 46, 3) := by decide +kernel
theorem dX4_getsHomeBy_22 : decode cX4_getsHomeBy 22 = .ok (.iload_n 1, 1) := by decide +kernel
theorem dX4_getsHomeBy_23 : decode cX4_getsHomeBy 23 = .ok (.iaload, 1) := by decide +kernel
theorem dX4_getsHomeBy_24 : decode cX4_getsHomeBy 24 = .ok (.if_icmp .gt 49, 3) := by decide +kernel
theorem dX4_getsHomeBy_27 : decode cX4_getsHomeBy 27 = .ok (.iload_n 2, 1) := by decide +kernel
theorem dX4_getsHomeBy_28 : decode cX4_getsHomeBy 28 = .ok (.iload 5, 2) := by decide +kernel
theorem dX4_getsHomeBy_30 : decode cX4_getsHomeBy 30 = .ok (.ishr, 1) := by decide +kernel
theorem dX4_getsHomeBy_31 : decode cX4_getsHomeBy 31 = .ok (.iconst 1, 1) := by decide +kernel
theorem dX4_getsHomeBy_32 : decode cX4_getsHomeBy 32 = .ok (.iand, 1) := by decide +kernel
theorem dX4_getsHomeBy_33 : decode cX4_getsHomeBy 33 = .ok (.ifCond .eq 14, 3) := by decide +kernel
theorem dX4_getsHomeBy_36 : decode cX4_getsHomeBy 36 = .ok (.iload 4, 2) := by decide +kernel
theorem dX4_getsHomeBy_38 : decode cX4_getsHomeBy 38 = .ok (.iload_n 3, 1) := by decide +kernel
theorem dX4_getsHomeBy_39 : decode cX4_getsHomeBy 39 = .ok (.iand, 1) := by decide +kernel
theorem dX4_getsHomeBy_40 : decode cX4_getsHomeBy 40 = .ok (.ifCond .eq 7, 3) := by decide +kernel
theorem dX4_getsHomeBy_43 : decode cX4_getsHomeBy 43 = .ok (.iconst 1, 1) := by decide +kernel
theorem dX4_getsHomeBy_44 : decode cX4_getsHomeBy 44 = .ok (.goto 4, 3) := by decide +kernel
theorem dX4_getsHomeBy_47 : decode cX4_getsHomeBy 47 = .ok (.iconst 0, 1) := by decide +kernel
theorem dX4_getsHomeBy_48 : decode cX4_getsHomeBy 48 = .ok (.istore 6, 2) := by decide +kernel
theorem dX4_getsHomeBy_50 : decode cX4_getsHomeBy 50 = .ok (.iload 4, 2) := by decide +kernel
theorem dX4_getsHomeBy_52 : decode cX4_getsHomeBy 52 = .ok (.iconst 1, 1) := by decide +kernel
theorem dX4_getsHomeBy_53 : decode cX4_getsHomeBy 53 = .ok (.ishl, 1) := by decide +kernel
theorem dX4_getsHomeBy_54 : decode cX4_getsHomeBy 54 = .ok (.iload 6, 2) := by decide +kernel
theorem dX4_getsHomeBy_56 : decode cX4_getsHomeBy 56 = .ok (.ifCond .eq 7, 3) := by decide +kernel
theorem dX4_getsHomeBy_59 : decode cX4_getsHomeBy 59 = .ok (.iconst 1, 1) := by decide +kernel
theorem dX4_getsHomeBy_60 : decode cX4_getsHomeBy 60 = .ok (.goto 4, 3) := by decide +kernel
theorem dX4_getsHomeBy_63 : decode cX4_getsHomeBy 63 = .ok (.iconst 0, 1) := by decide +kernel
theorem dX4_getsHomeBy_64 : decode cX4_getsHomeBy 64 = .ok (.ior, 1) := by decide +kernel
theorem dX4_getsHomeBy_65 : decode cX4_getsHomeBy 65 = .ok (.istore 4, 2) := by decide +kernel
theorem dX4_getsHomeBy_67 : decode cX4_getsHomeBy 67 = .ok (.iinc 5 1, 3) := by decide +kernel
theorem dX4_getsHomeBy_70 : decode cX4_getsHomeBy 70 = .ok (.goto (-54), 3) := by decide +kernel
theorem dX4_getsHomeBy_73 : decode cX4_getsHomeBy 73 = .ok (.iload 4, 2) := by decide +kernel
theorem dX4_getsHomeBy_75 : decode cX4_getsHomeBy 75 = .ok (.iconst 1, 1) := by decide +kernel
theorem dX4_getsHomeBy_76 : decode cX4_getsHomeBy 76 = .ok (.iand, 1) := by decide +kernel
theorem dX4_getsHomeBy_77 : decode cX4_getsHomeBy 77 = .ok (.ifCond .eq 7, 3) := by decide +kernel
theorem dX4_getsHomeBy_80 : decode cX4_getsHomeBy 80 = .ok (.iconst 1, 1) := by decide +kernel
theorem dX4_getsHomeBy_81 : decode cX4_getsHomeBy 81 = .ok (.goto 4, 3) := by decide +kernel
theorem dX4_getsHomeBy_84 : decode cX4_getsHomeBy 84 = .ok (.iconst 0, 1) := by decide +kernel
theorem dX4_getsHomeBy_85 : decode cX4_getsHomeBy 85 = .ok (.ireturn, 1) := by decide +kernel
theorem mkX4_getsHomeBy : mokV qX4_getsHomeBy 2 := ⟨⟨⟨⟨by decide, by decide, by decide +kernel⟩, by decide⟩, gd_mem 53 (by decide +kernel) (by decide +kernel), gd_mem 639 (by decide +kernel) (by decide +kernel)⟩, gd_mem 637 (by decide +kernel) (by decide +kernel), gd_mem 638 (by decide +kernel) (by decide +kernel)⟩
abbrev qX4_treadBits : mMI := (yX4_treadBits, cX4_treadBits, 4, (some .int), 3)
theorem dX4_treadBits_0 : decode cX4_treadBits 0 = .ok (.iconst 0, 1) := by decide +kernel
theorem dX4_treadBits_1 : decode cX4_treadBits 1 = .ok (.istore_n 2, 1) := by decide +kernel
theorem dX4_treadBits_2 : decode cX4_treadBits 2 = .ok (.iconst 0, 1) := by decide +kernel
theorem dX4_treadBits_3 : decode cX4_treadBits 3 = .ok (.istore_n 3, 1) := by decide +kernel
theorem dX4_treadBits_4 : decode cX4_treadBits 4 = .ok (.iload_n 3, 1) := by decide +kernel
theorem dX4_treadBits_5 : decode cX4_treadBits 5 = .ok (.aload_n 0, 1) := by decide +kernel
theorem dX4_treadBits_6 : decode cX4_treadBits 6 = .ok (.getfield 9, 3) := by decide +kernel
theorem dX4_treadBits_9 : decode cX4_treadBits 9 = .ok (.if_icmp .ge 32, 3) := by decide +kernel
theorem dX4_treadBits_12 : decode cX4_treadBits 12 = .ok (.aload_n 0, 1) := by decide +kernel
theorem dX4_treadBits_13 : decode cX4_treadBits 13 = .ok (.iload_n 3, 1) := by decide +kernel
theorem dX4_treadBits_14 : decode cX4_treadBits 14 = .ok (.invokevirtual 61, 3) := by decide +kernel
theorem dX4_treadBits_17 : decode cX4_treadBits 17 = .ok (.ifCond .ne 18, 3) := by decide +kernel
theorem dX4_treadBits_20 : decode cX4_treadBits 20 = .ok (.aload_n 0, 1) := by decide +kernel
theorem dX4_treadBits_21 : decode cX4_treadBits 21 = .ok (.iload_n 1, 1) := by decide +kernel
theorem dX4_treadBits_22 : decode cX4_treadBits 22 = .ok (.iload_n 3, 1) := by decide +kernel
theorem dX4_treadBits_23 : decode cX4_treadBits 23 = .ok (.invokevirtual 71, 3) := by decide +kernel
theorem dX4_treadBits_26 : decode cX4_treadBits 26 = .ok (.ifCond .eq 9, 3) := by decide +kernel
theorem dX4_treadBits_29 : decode cX4_treadBits 29 = .ok (.iload_n 2, 1) := by decide +kernel
theorem dX4_treadBits_30 : decode cX4_treadBits 30 = .ok (.iconst 1, 1) := by decide +kernel
theorem dX4_treadBits_31 : decode cX4_treadBits 31 = .ok (.iload_n 3, 1) := by decide +kernel
theorem dX4_treadBits_32 : decode cX4_treadBits 32 = .ok (.ishl, 1) := by decide +kernel
theorem dX4_treadBits_33 : decode cX4_treadBits 33 = .ok (.ior, 1) := by decide +kernel
theorem dX4_treadBits_34 : decode cX4_treadBits 34 = .ok (.istore_n 2, 1) := by decide +kernel
theorem dX4_treadBits_35 : decode cX4_treadBits 35 = .ok (.iinc 3 1, 3) := by decide +kernel
theorem dX4_treadBits_38 : decode cX4_treadBits 38 = .ok (.goto (-34), 3) := by decide +kernel
theorem dX4_treadBits_41 : decode cX4_treadBits 41 = .ok (.iload_n 2, 1) := by decide +kernel
theorem dX4_treadBits_42 : decode cX4_treadBits 42 = .ok (.ireturn, 1) := by decide +kernel
theorem mkX4_treadBits : mokV qX4_treadBits 1 := ⟨⟨⟨⟨by decide, by decide, by decide +kernel⟩, by decide⟩, gd_mem 53 (by decide +kernel) (by decide +kernel), gd_mem 535 (by decide +kernel) (by decide +kernel)⟩, gd_mem 533 (by decide +kernel) (by decide +kernel), gd_mem 534 (by decide +kernel) (by decide +kernel)⟩
abbrev qX4_getsHome : mMI := (yX4_getsHome, cX4_getsHome, 2, (some .boolean), 4)
theorem dX4_getsHome_0 : decode cX4_getsHome 0 = .ok (.aload_n 0, 1) := by decide +kernel
theorem dX4_getsHome_1 : decode cX4_getsHome 1 = .ok (.iload_n 1, 1) := by decide +kernel
theorem dX4_getsHome_2 : decode cX4_getsHome 2 = .ok (.aload_n 0, 1) := by decide +kernel
theorem dX4_getsHome_3 : decode cX4_getsHome 3 = .ok (.iload_n 1, 1) := by decide +kernel
theorem dX4_getsHome_4 : decode cX4_getsHome 4 = .ok (.invokevirtual 82, 3) := by decide +kernel
theorem dX4_getsHome_7 : decode cX4_getsHome 7 = .ok (.invokevirtual 85, 3) := by decide +kernel
theorem dX4_getsHome_10 : decode cX4_getsHome 10 = .ok (.ireturn, 1) := by decide +kernel
theorem mkX4_getsHome : mokV qX4_getsHome 1 := ⟨⟨⟨⟨by decide, by decide, by decide +kernel⟩, by decide⟩, gd_mem 53 (by decide +kernel) (by decide +kernel), gd_mem 634 (by decide +kernel) (by decide +kernel)⟩, gd_mem 632 (by decide +kernel) (by decide +kernel), gd_mem 633 (by decide +kernel) (by decide +kernel)⟩
abbrev qX4_homeBits : mMI := (yX4_homeBits, cX4_homeBits, 3, (some .int), 5)
theorem dX4_homeBits_0 : decode cX4_homeBits 0 = .ok (.iconst 0, 1) := by decide +kernel
theorem dX4_homeBits_1 : decode cX4_homeBits 1 = .ok (.istore_n 1, 1) := by decide +kernel
theorem dX4_homeBits_2 : decode cX4_homeBits 2 = .ok (.iconst 0, 1) := by decide +kernel
theorem dX4_homeBits_3 : decode cX4_homeBits 3 = .ok (.istore_n 2, 1) := by decide +kernel
theorem dX4_homeBits_4 : decode cX4_homeBits 4 = .ok (.iload_n 2, 1) := by decide +kernel
theorem dX4_homeBits_5 : decode cX4_homeBits 5 = .ok (.aload_n 0, 1) := by decide +kernel
theorem dX4_homeBits_6 : decode cX4_homeBits 6 = .ok (.getfield 15, 3) := by decide +kernel
theorem dX4_homeBits_9 : decode cX4_homeBits 9 = .ok (.if_icmp .ge 23, 3) := by decide +kernel
theorem dX4_homeBits_12 : decode cX4_homeBits 12 = .ok (.aload_n 0, 1) := by decide +kernel
theorem dX4_homeBits_13 : decode cX4_homeBits 13 = .ok (.iload_n 2, 1) := by decide +kernel
theorem dX4_homeBits_14 : decode cX4_homeBits 14 = .ok (.invokevirtual 91, 3) := by decide +kernel
theorem dX4_homeBits_17 : decode cX4_homeBits 17 = .ok (.ifCond .eq 9, 3) := by decide +kernel
theorem dX4_homeBits_20 : decode cX4_homeBits 20 = .ok (.iload_n 1, 1) := by decide +kernel
theorem dX4_homeBits_21 : decode cX4_homeBits 21 = .ok (.iconst 1, 1) := by decide +kernel
theorem dX4_homeBits_22 : decode cX4_homeBits 22 = .ok (.iload_n 2, 1) := by decide +kernel
theorem dX4_homeBits_23 : decode cX4_homeBits 23 = .ok (.ishl, 1) := by decide +kernel
theorem dX4_homeBits_24 : decode cX4_homeBits 24 = .ok (.ior, 1) := by decide +kernel
theorem dX4_homeBits_25 : decode cX4_homeBits 25 = .ok (.istore_n 1, 1) := by decide +kernel
theorem dX4_homeBits_26 : decode cX4_homeBits 26 = .ok (.iinc 2 1, 3) := by decide +kernel
theorem dX4_homeBits_29 : decode cX4_homeBits 29 = .ok (.goto (-25), 3) := by decide +kernel
theorem dX4_homeBits_32 : decode cX4_homeBits 32 = .ok (.iload_n 1, 1) := by decide +kernel
theorem dX4_homeBits_33 : decode cX4_homeBits 33 = .ok (.ireturn, 1) := by decide +kernel
theorem mkX4_homeBits : mokV qX4_homeBits 0 := ⟨⟨⟨⟨by decide, by decide, by decide +kernel⟩, by decide⟩, gd_mem 53 (by decide +kernel) (by decide +kernel), gd_mem 657 (by decide +kernel) (by decide +kernel)⟩, gd_mem 655 (by decide +kernel) (by decide +kernel), gd_mem 656 (by decide +kernel) (by decide +kernel)⟩
theorem lfX4_9 : Cond.fieldLink RX4 9 "RankStairs$House" "steps" "I" ∈ gdL := gd_mem 123 (by decide +kernel) (by decide +kernel)
theorem gIX4_9 {q : mMI} {X : mCx} {tgt : mR} {pc : Nat} {lv : List (Nat × Value)} {st : List Value} {μ : mMem} {b : Nat} (hq : q.1.cls = RX4) (hb : kd b = (4, 0)) (hd : decode q.2.1 pc = .ok (.getfield 9, 3)) (h : T q X tgt (pc + 3) lv (.int (μ.1 b 0) :: st) μ) : T q X tgt pc lv (.ref b :: st) μ := T_getI (c := 4) rfl (by decide) rfl (by decide) (by rw [hq]; exact lfX4_9) hb hd h
theorem pIX4_9 {q : mMI} {X : mCx} {tgt : mR} {pc : Nat} {lv : List (Nat × Value)} {st : List Value} {μ : mMem} {b : Nat} {x : Int32} (hq : q.1.cls = RX4) (hn : narrow .int (.int x) = .int x) (hfit : fits .int (.int x) = true) (hb : kd b = (4, 0)) (hd : decode q.2.1 pc = .ok (.putfield 9, 3)) (h : T q X tgt (pc + 3) lv st (si μ b 0 x)) : T q X tgt pc lv (.int x :: .ref b :: st) μ := T_put (c := 4) rfl (by decide) rfl (by decide) (by rw [hq]; exact lfX4_9) (by decide) hn hfit hb hd h
theorem lfX4_15 : Cond.fieldLink RX4 15 "RankStairs$House" "lodgers" "I" ∈ gdL := gd_mem 129 (by decide +kernel) (by decide +kernel)
theorem gIX4_15 {q : mMI} {X : mCx} {tgt : mR} {pc : Nat} {lv : List (Nat × Value)} {st : List Value} {μ : mMem} {b : Nat} (hq : q.1.cls = RX4) (hb : kd b = (4, 0)) (hd : decode q.2.1 pc = .ok (.getfield 15, 3)) (h : T q X tgt (pc + 3) lv (.int (μ.1 b 1) :: st) μ) : T q X tgt pc lv (.ref b :: st) μ := T_getI (c := 4) rfl (by decide) rfl (by decide) (by rw [hq]; exact lfX4_15) hb hd h
theorem pIX4_15 {q : mMI} {X : mCx} {tgt : mR} {pc : Nat} {lv : List (Nat × Value)} {st : List Value} {μ : mMem} {b : Nat} {x : Int32} (hq : q.1.cls = RX4) (hn : narrow .int (.int x) = .int x) (hfit : fits .int (.int x) = true) (hb : kd b = (4, 0)) (hd : decode q.2.1 pc = .ok (.putfield 15, 3)) (h : T q X tgt (pc + 3) lv st (si μ b 1 x)) : T q X tgt pc lv (.int x :: .ref b :: st) μ := T_put (c := 4) rfl (by decide) rfl (by decide) (by rw [hq]; exact lfX4_15) (by decide) hn hfit hb hd h
theorem lfX4_18 : Cond.fieldLink RX4 18 "RankStairs$House" "gapLaw" "I" ∈ gdL := gd_mem 135 (by decide +kernel) (by decide +kernel)
theorem gIX4_18 {q : mMI} {X : mCx} {tgt : mR} {pc : Nat} {lv : List (Nat × Value)} {st : List Value} {μ : mMem} {b : Nat} (hq : q.1.cls = RX4) (hb : kd b = (4, 0)) (hd : decode q.2.1 pc = .ok (.getfield 18, 3)) (h : T q X tgt (pc + 3) lv (.int (μ.1 b 2) :: st) μ) : T q X tgt pc lv (.ref b :: st) μ := T_getI (c := 4) rfl (by decide) rfl (by decide) (by rw [hq]; exact lfX4_18) hb hd h
theorem pIX4_18 {q : mMI} {X : mCx} {tgt : mR} {pc : Nat} {lv : List (Nat × Value)} {st : List Value} {μ : mMem} {b : Nat} {x : Int32} (hq : q.1.cls = RX4) (hn : narrow .int (.int x) = .int x) (hfit : fits .int (.int x) = true) (hb : kd b = (4, 0)) (hd : decode q.2.1 pc = .ok (.putfield 18, 3)) (h : T q X tgt (pc + 3) lv st (si μ b 2 x)) : T q X tgt pc lv (.int x :: .ref b :: st) μ := T_put (c := 4) rfl (by decide) rfl (by decide) (by rw [hq]; exact lfX4_18) (by decide) hn hfit hb hd h
theorem lfX4_21 : Cond.fieldLink RX4 21 "RankStairs$House" "holdLaw" "I" ∈ gdL := gd_mem 138 (by decide +kernel) (by decide +kernel)
theorem gIX4_21 {q : mMI} {X : mCx} {tgt : mR} {pc : Nat} {lv : List (Nat × Value)} {st : List Value} {μ : mMem} {b : Nat} (hq : q.1.cls = RX4) (hb : kd b = (4, 0)) (hd : decode q.2.1 pc = .ok (.getfield 21, 3)) (h : T q X tgt (pc + 3) lv (.int (μ.1 b 3) :: st) μ) : T q X tgt pc lv (.ref b :: st) μ := T_getI (c := 4) rfl (by decide) rfl (by decide) (by rw [hq]; exact lfX4_21) hb hd h
theorem pIX4_21 {q : mMI} {X : mCx} {tgt : mR} {pc : Nat} {lv : List (Nat × Value)} {st : List Value} {μ : mMem} {b : Nat} {x : Int32} (hq : q.1.cls = RX4) (hn : narrow .int (.int x) = .int x) (hfit : fits .int (.int x) = true) (hb : kd b = (4, 0)) (hd : decode q.2.1 pc = .ok (.putfield 21, 3)) (h : T q X tgt (pc + 3) lv st (si μ b 3 x)) : T q X tgt pc lv (.int x :: .ref b :: st) μ := T_put (c := 4) rfl (by decide) rfl (by decide) (by rw [hq]; exact lfX4_21) (by decide) hn hfit hb hd h
theorem lfX4_24 : Cond.fieldLink RX4 24 "RankStairs$House" "dayNumber" "I" ∈ gdL := gd_mem 141 (by decide +kernel) (by decide +kernel)
theorem gIX4_24 {q : mMI} {X : mCx} {tgt : mR} {pc : Nat} {lv : List (Nat × Value)} {st : List Value} {μ : mMem} {b : Nat} (hq : q.1.cls = RX4) (hb : kd b = (4, 0)) (hd : decode q.2.1 pc = .ok (.getfield 24, 3)) (h : T q X tgt (pc + 3) lv (.int (μ.1 b 4) :: st) μ) : T q X tgt pc lv (.ref b :: st) μ := T_getI (c := 4) rfl (by decide) rfl (by decide) (by rw [hq]; exact lfX4_24) hb hd h
theorem pIX4_24 {q : mMI} {X : mCx} {tgt : mR} {pc : Nat} {lv : List (Nat × Value)} {st : List Value} {μ : mMem} {b : Nat} {x : Int32} (hq : q.1.cls = RX4) (hn : narrow .int (.int x) = .int x) (hfit : fits .int (.int x) = true) (hb : kd b = (4, 0)) (hd : decode q.2.1 pc = .ok (.putfield 24, 3)) (h : T q X tgt (pc + 3) lv st (si μ b 4 x)) : T q X tgt pc lv (.int x :: .ref b :: st) μ := T_put (c := 4) rfl (by decide) rfl (by decide) (by rw [hq]; exact lfX4_24) (by decide) hn hfit hb hd h
def fX4_empty (r0 : Nat) (m : mMem) : mR := lt (si m r0 0 (0 : Int32)) (fun m1 => lt (si m1 r0 1 (0 : Int32)) (fun m2 => lt (si m2 r0 2 (1 : Int32)) (fun m3 => lt (si m3 r0 3 (30 : Int32)) (fun m4 => lt (si m4 r0 4 (0 : Int32)) (fun m5 => some (none, m5))))))
set_option maxRecDepth 100000 in
theorem bsX4_empty (l : Launch) (r0 : Nat) (m : mMem) (h0 : kd r0 = (4, 0)) : BS l qX4_empty [.ref r0] m (fX4_empty r0 m) := BS_of (by decide) (Nat.le_of_ble_eq_true rfl) (fun X _ => by
    show T qX4_empty X (fX4_empty r0 m) 0 [(0, .ref r0)] [] m
    unfold fX4_empty
    refine T_aload_n 0 rfl rfl dX4_empty_0 ?_
    refine T_iconst (0 : Int32) (by decide) dX4_empty_1 ?_
    refine pIX4_9 rfl rfl rfl h0 dX4_empty_2 ?_
    refine T_lt (fun m1 => ?_)
    refine T_aload_n 0 rfl rfl dX4_empty_5 ?_
    refine T_iconst (0 : Int32) (by decide) dX4_empty_6 ?_
    refine pIX4_15 rfl rfl rfl h0 dX4_empty_7 ?_
    refine T_lt (fun m2 => ?_)
    refine T_aload_n 0 rfl rfl dX4_empty_10 ?_
    refine T_iconst (1 : Int32) (by decide) dX4_empty_11 ?_
    refine pIX4_18 rfl rfl rfl h0 dX4_empty_12 ?_
    refine T_lt (fun m3 => ?_)
    refine T_aload_n 0 rfl rfl dX4_empty_15 ?_
    refine T_bipush (30 : Int32) (by decide) dX4_empty_16 ?_
    refine pIX4_21 rfl rfl rfl h0 dX4_empty_18 ?_
    refine T_lt (fun m4 => ?_)
    refine T_aload_n 0 rfl rfl dX4_empty_21 ?_
    refine T_iconst (0 : Int32) (by decide) dX4_empty_22 ?_
    refine pIX4_24 rfl rfl rfl h0 dX4_empty_23 ?_
    refine T_lt (fun m5 => ?_)
    exact T_vret rfl dX4_empty_26)
theorem lfX4_27 : Cond.fieldLink RX4 27 "RankStairs$House" "kinds" "[I" ∈ gdL := gd_mem 144 (by decide +kernel) (by decide +kernel)
theorem gRX4_27 {q : mMI} {X : mCx} {tgt : mR} {pc : Nat} {lv : List (Nat × Value)} {st : List Value} {μ : mMem} {b : Nat} (hq : q.1.cls = RX4) (hb : kd b = (4, 0)) (z : Nat) (hz : rf b 5 = z) (hd : decode q.2.1 pc = .ok (.getfield 27, 3)) (h : T q X tgt (pc + 3) lv (.ref z :: st) μ) : T q X tgt pc lv (.ref b :: st) μ := T_getR (c := 4) rfl (by decide) rfl (by decide) (by rw [hq]; exact lfX4_27) hb z hz hd h
theorem lfX4_31 : Cond.fieldLink RX4 31 "RankStairs$House" "years" "[I" ∈ gdL := gd_mem 147 (by decide +kernel) (by decide +kernel)
theorem gRX4_31 {q : mMI} {X : mCx} {tgt : mR} {pc : Nat} {lv : List (Nat × Value)} {st : List Value} {μ : mMem} {b : Nat} (hq : q.1.cls = RX4) (hb : kd b = (4, 0)) (z : Nat) (hz : rf b 6 = z) (hd : decode q.2.1 pc = .ok (.getfield 31, 3)) (h : T q X tgt (pc + 3) lv (.ref z :: st) μ) : T q X tgt pc lv (.ref b :: st) μ := T_getR (c := 4) rfl (by decide) rfl (by decide) (by rw [hq]; exact lfX4_31) hb z hz hd h
theorem lfX4_34 : Cond.fieldLink RX4 34 "RankStairs$House" "wears" "[I" ∈ gdL := gd_mem 149 (by decide +kernel) (by decide +kernel)
theorem gRX4_34 {q : mMI} {X : mCx} {tgt : mR} {pc : Nat} {lv : List (Nat × Value)} {st : List Value} {μ : mMem} {b : Nat} (hq : q.1.cls = RX4) (hb : kd b = (4, 0)) (z : Nat) (hz : rf b 7 = z) (hd : decode q.2.1 pc = .ok (.getfield 34, 3)) (h : T q X tgt (pc + 3) lv (.ref z :: st) μ) : T q X tgt pc lv (.ref b :: st) μ := T_getR (c := 4) rfl (by decide) rfl (by decide) (by rw [hq]; exact lfX4_34) hb z hz hd h
def fX4_addStep (r0 : Nat) (x1 : Int32) (x2 : Int32) (x3 : Int32) (m : mMem) : mR := if (10 : Int32) ≤ (m.1 r0 0) then some (none, m) else ga (m.1 r0 0) 10 (lt (si m (r0 + 1) ((m.1 r0 0)).toNatClampNeg x1) (fun m1 => ga (m1.1 r0 0) 10 (lt (si m1 (r0 + 2) ((m1.1 r0 0)).toNatClampNeg x2) (fun m2 => ga (m2.1 r0 0) 10 (lt (si m2 (r0 + 3) ((m2.1 r0 0)).toNatClampNeg x3) (fun m3 => lt (si m3 r0 0 ((m3.1 r0 0) + (1 : Int32))) (fun m4 => some (none, m4))))))))
set_option maxRecDepth 100000 in
theorem bsX4_addStep (l : Launch) (r0 : Nat) (x1 : Int32) (x2 : Int32) (x3 : Int32) (m : mMem) (h0 : kd r0 = (4, 0)) : BS l qX4_addStep [.ref r0, .int x1, .int x2, .int x3] m (fX4_addStep r0 x1 x2 x3 m) := BS_of (by decide) (Nat.le_of_ble_eq_true rfl) (fun X _ => by
    show T qX4_addStep X (fX4_addStep r0 x1 x2 x3 m) 0 [(0, .ref r0), (1, .int x1), (2, .int x2), (3, .int x3)] [] m
    unfold fX4_addStep
    refine T_aload_n 0 rfl rfl dX4_addStep_0 ?_
    refine gIX4_9 rfl h0 dX4_addStep_1 ?_
    refine T_bipush (10 : Int32) (by decide) dX4_addStep_4 ?_
    refine T_icmp_ge 49 dX4_addStep_6 (by decide) (fun _ => ?_) (fun _ => ?_)
    · exact T_vret rfl dX4_addStep_49
    · refine T_aload_n 0 rfl rfl dX4_addStep_9 ?_
      refine gRX4_27 rfl h0 (r0 + 1) (rfH5 h0) dX4_addStep_10 ?_
      refine T_aload_n 0 rfl rfl dX4_addStep_13 ?_
      refine gIX4_9 rfl h0 dX4_addStep_14 ?_
      refine T_iload_n 1 rfl rfl dX4_addStep_17 ?_
      refine T_iast _ rfl (kdH5 h0) dX4_addStep_18 ?_
      refine T_lt (fun m1 => ?_)
      refine T_aload_n 0 rfl rfl dX4_addStep_19 ?_
      refine gRX4_31 rfl h0 (r0 + 2) (rfH6 h0) dX4_addStep_20 ?_
      refine T_aload_n 0 rfl rfl dX4_addStep_23 ?_
      refine gIX4_9 rfl h0 dX4_addStep_24 ?_
      refine T_iload_n 2 rfl rfl dX4_addStep_27 ?_
      refine T_iast _ rfl (kdH6 h0) dX4_addStep_28 ?_
      refine T_lt (fun m2 => ?_)
      refine T_aload_n 0 rfl rfl dX4_addStep_29 ?_
      refine gRX4_34 rfl h0 (r0 + 3) (rfH7 h0) dX4_addStep_30 ?_
      refine T_aload_n 0 rfl rfl dX4_addStep_33 ?_
      refine gIX4_9 rfl h0 dX4_addStep_34 ?_
      refine T_iload_n 3 rfl rfl dX4_addStep_37 ?_
      refine T_iast _ rfl (kdH7 h0) dX4_addStep_38 ?_
      refine T_lt (fun m3 => ?_)
      refine T_aload_n 0 rfl rfl dX4_addStep_39 ?_
      refine T_dup rfl dX4_addStep_40 ?_
      refine gIX4_9 rfl h0 dX4_addStep_41 ?_
      refine T_iconst (1 : Int32) (by decide) dX4_addStep_44 ?_
      refine T_iadd dX4_addStep_45 ?_
      refine pIX4_9 rfl rfl rfl h0 dX4_addStep_46 ?_
      refine T_lt (fun m4 => ?_)
      exact T_vret rfl dX4_addStep_49)
theorem lfX4_37 : Cond.fieldLink RX4 37 "RankStairs$House" "legsOf" "[I" ∈ gdL := gd_mem 153 (by decide +kernel) (by decide +kernel)
theorem gRX4_37 {q : mMI} {X : mCx} {tgt : mR} {pc : Nat} {lv : List (Nat × Value)} {st : List Value} {μ : mMem} {b : Nat} (hq : q.1.cls = RX4) (hb : kd b = (4, 0)) (z : Nat) (hz : rf b 8 = z) (hd : decode q.2.1 pc = .ok (.getfield 37, 3)) (h : T q X tgt (pc + 3) lv (.ref z :: st) μ) : T q X tgt pc lv (.ref b :: st) μ := T_getR (c := 4) rfl (by decide) rfl (by decide) (by rw [hq]; exact lfX4_37) hb z hz hd h
theorem lfX4_40 : Cond.fieldLink RX4 40 "RankStairs$House" "rankOf" "[I" ∈ gdL := gd_mem 155 (by decide +kernel) (by decide +kernel)
theorem gRX4_40 {q : mMI} {X : mCx} {tgt : mR} {pc : Nat} {lv : List (Nat × Value)} {st : List Value} {μ : mMem} {b : Nat} (hq : q.1.cls = RX4) (hb : kd b = (4, 0)) (z : Nat) (hz : rf b 9 = z) (hd : decode q.2.1 pc = .ok (.getfield 40, 3)) (h : T q X tgt (pc + 3) lv (.ref z :: st) μ) : T q X tgt pc lv (.ref b :: st) μ := T_getR (c := 4) rfl (by decide) rfl (by decide) (by rw [hq]; exact lfX4_40) hb z hz hd h
theorem lfX4_43 : Cond.fieldLink RX4 43 "RankStairs$House" "loadOf" "[I" ∈ gdL := gd_mem 157 (by decide +kernel) (by decide +kernel)
theorem gRX4_43 {q : mMI} {X : mCx} {tgt : mR} {pc : Nat} {lv : List (Nat × Value)} {st : List Value} {μ : mMem} {b : Nat} (hq : q.1.cls = RX4) (hb : kd b = (4, 0)) (z : Nat) (hz : rf b 10 = z) (hd : decode q.2.1 pc = .ok (.getfield 43, 3)) (h : T q X tgt (pc + 3) lv (.ref z :: st) μ) : T q X tgt pc lv (.ref b :: st) μ := T_getR (c := 4) rfl (by decide) rfl (by decide) (by rw [hq]; exact lfX4_43) hb z hz hd h
theorem lfX4_46 : Cond.fieldLink RX4 46 "RankStairs$House" "floorOf" "[I" ∈ gdL := gd_mem 159 (by decide +kernel) (by decide +kernel)
theorem gRX4_46 {q : mMI} {X : mCx} {tgt : mR} {pc : Nat} {lv : List (Nat × Value)} {st : List Value} {μ : mMem} {b : Nat} (hq : q.1.cls = RX4) (hb : kd b = (4, 0)) (z : Nat) (hz : rf b 11 = z) (hd : decode q.2.1 pc = .ok (.getfield 46, 3)) (h : T q X tgt (pc + 3) lv (.ref z :: st) μ) : T q X tgt pc lv (.ref b :: st) μ := T_getR (c := 4) rfl (by decide) rfl (by decide) (by rw [hq]; exact lfX4_46) hb z hz hd h
def fX4_addLodger (r0 : Nat) (x1 : Int32) (x2 : Int32) (x3 : Int32) (x4 : Int32) (m : mMem) : mR := if (4 : Int32) ≤ (m.1 r0 1) then some (none, m) else ga (m.1 r0 1) 4 (lt (si m (r0 + 4) ((m.1 r0 1)).toNatClampNeg x1) (fun m1 => ga (m1.1 r0 1) 4 (lt (si m1 (r0 + 5) ((m1.1 r0 1)).toNatClampNeg x2) (fun m2 => ga (m2.1 r0 1) 4 (lt (si m2 (r0 + 6) ((m2.1 r0 1)).toNatClampNeg x3) (fun m3 => ga (m3.1 r0 1) 4 (lt (si m3 (r0 + 7) ((m3.1 r0 1)).toNatClampNeg x4) (fun m4 => lt (si m4 r0 1 ((m4.1 r0 1) + (1 : Int32))) (fun m5 => some (none, m5))))))))))
set_option maxRecDepth 100000 in
theorem bsX4_addLodger (l : Launch) (r0 : Nat) (x1 : Int32) (x2 : Int32) (x3 : Int32) (x4 : Int32) (m : mMem) (h0 : kd r0 = (4, 0)) : BS l qX4_addLodger [.ref r0, .int x1, .int x2, .int x3, .int x4] m (fX4_addLodger r0 x1 x2 x3 x4 m) := BS_of (by decide) (Nat.le_of_ble_eq_true rfl) (fun X _ => by
    show T qX4_addLodger X (fX4_addLodger r0 x1 x2 x3 x4 m) 0 [(0, .ref r0), (1, .int x1), (2, .int x2), (3, .int x3), (4, .int x4)] [] m
    unfold fX4_addLodger
    refine T_aload_n 0 rfl rfl dX4_addLodger_0 ?_
    refine gIX4_15 rfl h0 dX4_addLodger_1 ?_
    refine T_iconst (4 : Int32) (by decide) dX4_addLodger_4 ?_
    refine T_icmp_ge 59 dX4_addLodger_5 (by decide) (fun _ => ?_) (fun _ => ?_)
    · exact T_vret rfl dX4_addLodger_59
    · refine T_aload_n 0 rfl rfl dX4_addLodger_8 ?_
      refine gRX4_37 rfl h0 (r0 + 4) (rfH8 h0) dX4_addLodger_9 ?_
      refine T_aload_n 0 rfl rfl dX4_addLodger_12 ?_
      refine gIX4_15 rfl h0 dX4_addLodger_13 ?_
      refine T_iload_n 1 rfl rfl dX4_addLodger_16 ?_
      refine T_iast _ rfl (kdH8 h0) dX4_addLodger_17 ?_
      refine T_lt (fun m1 => ?_)
      refine T_aload_n 0 rfl rfl dX4_addLodger_18 ?_
      refine gRX4_40 rfl h0 (r0 + 5) (rfH9 h0) dX4_addLodger_19 ?_
      refine T_aload_n 0 rfl rfl dX4_addLodger_22 ?_
      refine gIX4_15 rfl h0 dX4_addLodger_23 ?_
      refine T_iload_n 2 rfl rfl dX4_addLodger_26 ?_
      refine T_iast _ rfl (kdH9 h0) dX4_addLodger_27 ?_
      refine T_lt (fun m2 => ?_)
      refine T_aload_n 0 rfl rfl dX4_addLodger_28 ?_
      refine gRX4_43 rfl h0 (r0 + 6) (rfH10 h0) dX4_addLodger_29 ?_
      refine T_aload_n 0 rfl rfl dX4_addLodger_32 ?_
      refine gIX4_15 rfl h0 dX4_addLodger_33 ?_
      refine T_iload_n 3 rfl rfl dX4_addLodger_36 ?_
      refine T_iast _ rfl (kdH10 h0) dX4_addLodger_37 ?_
      refine T_lt (fun m3 => ?_)
      refine T_aload_n 0 rfl rfl dX4_addLodger_38 ?_
      refine gRX4_46 rfl h0 (r0 + 7) (rfH11 h0) dX4_addLodger_39 ?_
      refine T_aload_n 0 rfl rfl dX4_addLodger_42 ?_
      refine gIX4_15 rfl h0 dX4_addLodger_43 ?_
      refine T_iload 4 rfl dX4_addLodger_46 ?_
      refine T_iast _ rfl (kdH11 h0) dX4_addLodger_48 ?_
      refine T_lt (fun m4 => ?_)
      refine T_aload_n 0 rfl rfl dX4_addLodger_49 ?_
      refine T_dup rfl dX4_addLodger_50 ?_
      refine gIX4_15 rfl h0 dX4_addLodger_51 ?_
      refine T_iconst (1 : Int32) (by decide) dX4_addLodger_54 ?_
      refine T_iadd dX4_addLodger_55 ?_
      refine pIX4_15 rfl rfl rfl h0 dX4_addLodger_56 ?_
      refine T_lt (fun m5 => ?_)
      exact T_vret rfl dX4_addLodger_59)
def fX4_renew (r0 : Nat) (x1 : Int32) (m : mMem) : mR := ga x1 10 (lt (si m (r0 + 2) (x1).toNatClampNeg (0 : Int32)) (fun m1 => ga x1 10 (lt (si m1 (r0 + 3) (x1).toNatClampNeg (0 : Int32)) (fun m2 => some (none, m2)))))
set_option maxRecDepth 100000 in
theorem bsX4_renew (l : Launch) (r0 : Nat) (x1 : Int32) (m : mMem) (h0 : kd r0 = (4, 0)) : BS l qX4_renew [.ref r0, .int x1] m (fX4_renew r0 x1 m) := BS_of (by decide) (Nat.le_of_ble_eq_true rfl) (fun X _ => by
    show T qX4_renew X (fX4_renew r0 x1 m) 0 [(0, .ref r0), (1, .int x1)] [] m
    unfold fX4_renew
    refine T_aload_n 0 rfl rfl dX4_renew_0 ?_
    refine gRX4_31 rfl h0 (r0 + 2) (rfH6 h0) dX4_renew_1 ?_
    refine T_iload_n 1 rfl rfl dX4_renew_4 ?_
    refine T_iconst (0 : Int32) (by decide) dX4_renew_5 ?_
    refine T_iast _ rfl (kdH6 h0) dX4_renew_6 ?_
    refine T_lt (fun m1 => ?_)
    refine T_aload_n 0 rfl rfl dX4_renew_7 ?_
    refine gRX4_34 rfl h0 (r0 + 3) (rfH7 h0) dX4_renew_8 ?_
    refine T_iload_n 1 rfl rfl dX4_renew_11 ?_
    refine T_iconst (0 : Int32) (by decide) dX4_renew_12 ?_
    refine T_iast _ rfl (kdH7 h0) dX4_renew_13 ?_
    refine T_lt (fun m2 => ?_)
    exact T_vret rfl dX4_renew_14)
def fX4_isBroken (r0 : Nat) (x1 : Int32) (m : mMem) : mR := ga x1 10 (if (m.1 (r0 + 3) (x1).toNatClampNeg) < (m.1 r0 3) then some (some (.int (0 : Int32)), m) else some (some (.int (1 : Int32)), m))
set_option maxRecDepth 100000 in
theorem bsX4_isBroken (l : Launch) (r0 : Nat) (x1 : Int32) (m : mMem) (h0 : kd r0 = (4, 0)) : BS l qX4_isBroken [.ref r0, .int x1] m (fX4_isBroken r0 x1 m) := BS_of (by decide) (Nat.le_of_ble_eq_true rfl) (fun X _ => by
    show T qX4_isBroken X (fX4_isBroken r0 x1 m) 0 [(0, .ref r0), (1, .int x1)] [] m
    unfold fX4_isBroken
    refine T_aload_n 0 rfl rfl dX4_isBroken_0 ?_
    refine gRX4_34 rfl h0 (r0 + 3) (rfH7 h0) dX4_isBroken_1 ?_
    refine T_iload_n 1 rfl rfl dX4_isBroken_4 ?_
    refine T_iald (kdH7 h0) dX4_isBroken_5 ?_
    refine T_aload_n 0 rfl rfl dX4_isBroken_6 ?_
    refine gIX4_21 rfl h0 dX4_isBroken_7 ?_
    refine T_icmp_lt 17 dX4_isBroken_10 (by decide) (fun _ => ?_) (fun _ => ?_)
    · refine T_iconst (0 : Int32) (by decide) dX4_isBroken_17 ?_
      exact T_zretc (by decide) rfl dX4_isBroken_18
    · refine T_iconst (1 : Int32) (by decide) dX4_isBroken_13 ?_
      refine T_goto 18 dX4_isBroken_14 (by decide) ?_
      exact T_zretc (by decide) rfl dX4_isBroken_18)
def bX4_allWear_4 (r0 : Nat) (k4 : Int32 × Int32 × mMem → mR) (s : Int32 × Int32 × mMem) : mR := match s with
  | (x1, x2, m) => if (m.1 r0 0) ≤ x2 then some (some (.int x1), m) else ga x2 10 (li (x1 + (m.1 (r0 + 3) (x2).toNatClampNeg)) (fun y1 => li (x2 + (1 : Int32)) (fun y2 => k4 (y1, y2, m))))
set_option maxRecDepth 100000 in
theorem tX4_allWear_4 (X : mCx) (r0 : Nat) (h0 : kd r0 = (4, 0)) : ∀ (n : Nat) (s : Int32 × Int32 × mMem), T qX4_allWear X (lp (bX4_allWear_4 r0) n s) 4 [(0, .ref r0), (1, .int s.1), (2, .int s.2.1)] [] s.2.2 :=
  T_lp (body := bX4_allWear_4 r0) (lv := fun s => [(0, .ref r0), (1, .int s.1), (2, .int s.2.1)]) (st := fun _ => []) (μ := fun s : Int32 × Int32 × mMem => s.2.2) (fun k4 hk4 s => by
    obtain ⟨x1, x2, m⟩ := s
    show T qX4_allWear X (bX4_allWear_4 r0 k4 (x1, x2, m)) 4 [(0, .ref r0), (1, .int x1), (2, .int x2)] [] m
    unfold bX4_allWear_4
    dsimp only
    refine T_iload_n 2 rfl rfl dX4_allWear_4 ?_
    refine T_aload_n 0 rfl rfl dX4_allWear_5 ?_
    refine gIX4_9 rfl h0 dX4_allWear_6 ?_
    refine T_icmp_ge 27 dX4_allWear_9 (by decide) (fun _ => ?_) (fun _ => ?_)
    · refine T_iload_n 1 rfl rfl dX4_allWear_27 ?_
      exact T_iret rfl dX4_allWear_28
    · refine T_iload_n 1 rfl rfl dX4_allWear_12 ?_
      refine T_aload_n 0 rfl rfl dX4_allWear_13 ?_
      refine gRX4_34 rfl h0 (r0 + 3) (rfH7 h0) dX4_allWear_14 ?_
      refine T_iload_n 2 rfl rfl dX4_allWear_17 ?_
      refine T_iald (kdH7 h0) dX4_allWear_18 ?_
      refine T_iadd dX4_allWear_19 ?_
      refine T_istore_n (lv' := [(1, .int (x1 + (m.1 (r0 + 3) (x2).toNatClampNeg))), (0, .ref r0), (2, .int x2)]) rfl (Nat.le_of_ble_eq_true rfl) rfl dX4_allWear_20 ?_
      refine T_li (fun y1 => ?_)
      refine T_iinc (lv' := [(2, .int (x2 + (1 : Int32))), (1, .int y1), (0, .ref r0)]) 2 (1 : Int32) rfl (by decide) (Nat.le_of_ble_eq_true rfl) rfl dX4_allWear_21 ?_
      refine T_li (fun y2 => ?_)
      refine T_goto 4 dX4_allWear_24 (by decide) ?_
      exact T_sub [2, 1, 0] rfl (hk4 (y1, y2, m)))
def fX4_allWear (r0 : Nat) (m : mMem) : mR := lp (bX4_allWear_4 r0) FU ((0 : Int32), (0 : Int32), m)
set_option maxRecDepth 100000 in
theorem bsX4_allWear (l : Launch) (r0 : Nat) (m : mMem) (h0 : kd r0 = (4, 0)) : BS l qX4_allWear [.ref r0] m (fX4_allWear r0 m) := BS_of (by decide) (Nat.le_of_ble_eq_true rfl) (fun X _ => by
    show T qX4_allWear X (fX4_allWear r0 m) 0 [(0, .ref r0)] [] m
    unfold fX4_allWear
    refine T_iconst (0 : Int32) (by decide) dX4_allWear_0 ?_
    refine T_istore_n (lv' := [(1, .int (0 : Int32)), (0, .ref r0)]) rfl (Nat.le_of_ble_eq_true rfl) rfl dX4_allWear_1 ?_
    refine T_iconst (0 : Int32) (by decide) dX4_allWear_2 ?_
    refine T_istore_n (lv' := [(2, .int (0 : Int32)), (1, .int (0 : Int32)), (0, .ref r0)]) rfl (Nat.le_of_ble_eq_true rfl) rfl dX4_allWear_3 ?_
    exact T_sub [2, 1, 0] rfl (tX4_allWear_4 X r0 h0 FU ((0 : Int32), (0 : Int32), m)))
def fX4_isHeavy (r0 : Nat) (x1 : Int32) (m : mMem) : mR := ga x1 4 (if (m.1 (r0 + 6) (x1).toNatClampNeg) < (5 : Int32) then some (some (.int (0 : Int32)), m) else some (some (.int (1 : Int32)), m))
set_option maxRecDepth 100000 in
theorem bsX4_isHeavy (l : Launch) (r0 : Nat) (x1 : Int32) (m : mMem) (h0 : kd r0 = (4, 0)) : BS l qX4_isHeavy [.ref r0, .int x1] m (fX4_isHeavy r0 x1 m) := BS_of (by decide) (Nat.le_of_ble_eq_true rfl) (fun X _ => by
    show T qX4_isHeavy X (fX4_isHeavy r0 x1 m) 0 [(0, .ref r0), (1, .int x1)] [] m
    unfold fX4_isHeavy
    refine T_aload_n 0 rfl rfl dX4_isHeavy_0 ?_
    refine gRX4_43 rfl h0 (r0 + 6) (rfH10 h0) dX4_isHeavy_1 ?_
    refine T_iload_n 1 rfl rfl dX4_isHeavy_4 ?_
    refine T_iald (kdH10 h0) dX4_isHeavy_5 ?_
    refine T_iconst (5 : Int32) (by decide) dX4_isHeavy_6 ?_
    refine T_icmp_lt 14 dX4_isHeavy_7 (by decide) (fun _ => ?_) (fun _ => ?_)
    · refine T_iconst (0 : Int32) (by decide) dX4_isHeavy_14 ?_
      exact T_zretc (by decide) rfl dX4_isHeavy_15
    · refine T_iconst (1 : Int32) (by decide) dX4_isHeavy_10 ?_
      refine T_goto 15 dX4_isHeavy_11 (by decide) ?_
      exact T_zretc (by decide) rfl dX4_isHeavy_15)
theorem lmX4_49 : Cond.methodLink RX4 49 arraycopyName ∈ gdL := gd_mem 479 (by decide +kernel) (by decide +kernel)
def fX4_copyFrom (r0 : Nat) (r1 : Nat) (m : mMem) : mR := lt (si m r0 0 (m.1 r1 0)) (fun m1 => lt (si m1 r0 1 (m1.1 r1 1)) (fun m2 => lt (si m2 r0 2 (m2.1 r1 2)) (fun m3 => lt (si m3 r0 3 (m3.1 r1 3)) (fun m4 => lt (si m4 r0 4 (m4.1 r1 4)) (fun m5 => lt (ci m5 (r1 + 1) (r0 + 1) 0 0 10) (fun m6 => lt (ci m6 (r1 + 2) (r0 + 2) 0 0 10) (fun m7 => lt (ci m7 (r1 + 3) (r0 + 3) 0 0 10) (fun m8 => lt (ci m8 (r1 + 4) (r0 + 4) 0 0 4) (fun m9 => lt (ci m9 (r1 + 5) (r0 + 5) 0 0 4) (fun m10 => lt (ci m10 (r1 + 6) (r0 + 6) 0 0 4) (fun m11 => lt (ci m11 (r1 + 7) (r0 + 7) 0 0 4) (fun m12 => some (none, m12)))))))))))))
set_option maxRecDepth 100000 in
theorem bsX4_copyFrom (l : Launch) (r0 : Nat) (r1 : Nat) (m : mMem) (h0 : kd r0 = (4, 0)) (h1 : kd r1 = (4, 0)) : BS l qX4_copyFrom [.ref r0, .ref r1] m (fX4_copyFrom r0 r1 m) := BS_of (by decide) (Nat.le_of_ble_eq_true rfl) (fun X _ => by
    show T qX4_copyFrom X (fX4_copyFrom r0 r1 m) 0 [(0, .ref r0), (1, .ref r1)] [] m
    unfold fX4_copyFrom
    refine T_aload_n 0 rfl rfl dX4_copyFrom_0 ?_
    refine T_aload_n 1 rfl rfl dX4_copyFrom_1 ?_
    refine gIX4_9 rfl h1 dX4_copyFrom_2 ?_
    refine pIX4_9 rfl rfl rfl h0 dX4_copyFrom_5 ?_
    refine T_lt (fun m1 => ?_)
    refine T_aload_n 0 rfl rfl dX4_copyFrom_8 ?_
    refine T_aload_n 1 rfl rfl dX4_copyFrom_9 ?_
    refine gIX4_15 rfl h1 dX4_copyFrom_10 ?_
    refine pIX4_15 rfl rfl rfl h0 dX4_copyFrom_13 ?_
    refine T_lt (fun m2 => ?_)
    refine T_aload_n 0 rfl rfl dX4_copyFrom_16 ?_
    refine T_aload_n 1 rfl rfl dX4_copyFrom_17 ?_
    refine gIX4_18 rfl h1 dX4_copyFrom_18 ?_
    refine pIX4_18 rfl rfl rfl h0 dX4_copyFrom_21 ?_
    refine T_lt (fun m3 => ?_)
    refine T_aload_n 0 rfl rfl dX4_copyFrom_24 ?_
    refine T_aload_n 1 rfl rfl dX4_copyFrom_25 ?_
    refine gIX4_21 rfl h1 dX4_copyFrom_26 ?_
    refine pIX4_21 rfl rfl rfl h0 dX4_copyFrom_29 ?_
    refine T_lt (fun m4 => ?_)
    refine T_aload_n 0 rfl rfl dX4_copyFrom_32 ?_
    refine T_aload_n 1 rfl rfl dX4_copyFrom_33 ?_
    refine gIX4_24 rfl h1 dX4_copyFrom_34 ?_
    refine pIX4_24 rfl rfl rfl h0 dX4_copyFrom_37 ?_
    refine T_lt (fun m5 => ?_)
    refine T_aload_n 1 rfl rfl dX4_copyFrom_40 ?_
    refine gRX4_27 rfl h1 (r1 + 1) (rfH5 h1) dX4_copyFrom_41 ?_
    refine T_iconst (0 : Int32) (by decide) dX4_copyFrom_44 ?_
    refine T_aload_n 0 rfl rfl dX4_copyFrom_45 ?_
    refine gRX4_27 rfl h0 (r0 + 1) (rfH5 h0) dX4_copyFrom_46 ?_
    refine T_iconst (0 : Int32) (by decide) dX4_copyFrom_49 ?_
    refine T_bipush (10 : Int32) (by decide) dX4_copyFrom_50 ?_
    refine T_cpyI (N := 10) (by decide) (by decide) (by decide) (by decide) lmX4_49 (by decide) (Nat.le_of_ble_eq_true rfl) (kdH5 h1) (kdH5 h0) dX4_copyFrom_52 ?_
    refine T_lt (fun m6 => ?_)
    refine T_aload_n 1 rfl rfl dX4_copyFrom_55 ?_
    refine gRX4_31 rfl h1 (r1 + 2) (rfH6 h1) dX4_copyFrom_56 ?_
    refine T_iconst (0 : Int32) (by decide) dX4_copyFrom_59 ?_
    refine T_aload_n 0 rfl rfl dX4_copyFrom_60 ?_
    refine gRX4_31 rfl h0 (r0 + 2) (rfH6 h0) dX4_copyFrom_61 ?_
    refine T_iconst (0 : Int32) (by decide) dX4_copyFrom_64 ?_
    refine T_bipush (10 : Int32) (by decide) dX4_copyFrom_65 ?_
    refine T_cpyI (N := 10) (by decide) (by decide) (by decide) (by decide) lmX4_49 (by decide) (Nat.le_of_ble_eq_true rfl) (kdH6 h1) (kdH6 h0) dX4_copyFrom_67 ?_
    refine T_lt (fun m7 => ?_)
    refine T_aload_n 1 rfl rfl dX4_copyFrom_70 ?_
    refine gRX4_34 rfl h1 (r1 + 3) (rfH7 h1) dX4_copyFrom_71 ?_
    refine T_iconst (0 : Int32) (by decide) dX4_copyFrom_74 ?_
    refine T_aload_n 0 rfl rfl dX4_copyFrom_75 ?_
    refine gRX4_34 rfl h0 (r0 + 3) (rfH7 h0) dX4_copyFrom_76 ?_
    refine T_iconst (0 : Int32) (by decide) dX4_copyFrom_79 ?_
    refine T_bipush (10 : Int32) (by decide) dX4_copyFrom_80 ?_
    refine T_cpyI (N := 10) (by decide) (by decide) (by decide) (by decide) lmX4_49 (by decide) (Nat.le_of_ble_eq_true rfl) (kdH7 h1) (kdH7 h0) dX4_copyFrom_82 ?_
    refine T_lt (fun m8 => ?_)
    refine T_aload_n 1 rfl rfl dX4_copyFrom_85 ?_
    refine gRX4_37 rfl h1 (r1 + 4) (rfH8 h1) dX4_copyFrom_86 ?_
    refine T_iconst (0 : Int32) (by decide) dX4_copyFrom_89 ?_
    refine T_aload_n 0 rfl rfl dX4_copyFrom_90 ?_
    refine gRX4_37 rfl h0 (r0 + 4) (rfH8 h0) dX4_copyFrom_91 ?_
    refine T_iconst (0 : Int32) (by decide) dX4_copyFrom_94 ?_
    refine T_iconst (4 : Int32) (by decide) dX4_copyFrom_95 ?_
    refine T_cpyI (N := 4) (by decide) (by decide) (by decide) (by decide) lmX4_49 (by decide) (Nat.le_of_ble_eq_true rfl) (kdH8 h1) (kdH8 h0) dX4_copyFrom_96 ?_
    refine T_lt (fun m9 => ?_)
    refine T_aload_n 1 rfl rfl dX4_copyFrom_99 ?_
    refine gRX4_40 rfl h1 (r1 + 5) (rfH9 h1) dX4_copyFrom_100 ?_
    refine T_iconst (0 : Int32) (by decide) dX4_copyFrom_103 ?_
    refine T_aload_n 0 rfl rfl dX4_copyFrom_104 ?_
    refine gRX4_40 rfl h0 (r0 + 5) (rfH9 h0) dX4_copyFrom_105 ?_
    refine T_iconst (0 : Int32) (by decide) dX4_copyFrom_108 ?_
    refine T_iconst (4 : Int32) (by decide) dX4_copyFrom_109 ?_
    refine T_cpyI (N := 4) (by decide) (by decide) (by decide) (by decide) lmX4_49 (by decide) (Nat.le_of_ble_eq_true rfl) (kdH9 h1) (kdH9 h0) dX4_copyFrom_110 ?_
    refine T_lt (fun m10 => ?_)
    refine T_aload_n 1 rfl rfl dX4_copyFrom_113 ?_
    refine gRX4_43 rfl h1 (r1 + 6) (rfH10 h1) dX4_copyFrom_114 ?_
    refine T_iconst (0 : Int32) (by decide) dX4_copyFrom_117 ?_
    refine T_aload_n 0 rfl rfl dX4_copyFrom_118 ?_
    refine gRX4_43 rfl h0 (r0 + 6) (rfH10 h0) dX4_copyFrom_119 ?_
    refine T_iconst (0 : Int32) (by decide) dX4_copyFrom_122 ?_
    refine T_iconst (4 : Int32) (by decide) dX4_copyFrom_123 ?_
    refine T_cpyI (N := 4) (by decide) (by decide) (by decide) (by decide) lmX4_49 (by decide) (Nat.le_of_ble_eq_true rfl) (kdH10 h1) (kdH10 h0) dX4_copyFrom_124 ?_
    refine T_lt (fun m11 => ?_)
    refine T_aload_n 1 rfl rfl dX4_copyFrom_127 ?_
    refine gRX4_46 rfl h1 (r1 + 7) (rfH11 h1) dX4_copyFrom_128 ?_
    refine T_iconst (0 : Int32) (by decide) dX4_copyFrom_131 ?_
    refine T_aload_n 0 rfl rfl dX4_copyFrom_132 ?_
    refine gRX4_46 rfl h0 (r0 + 7) (rfH11 h0) dX4_copyFrom_133 ?_
    refine T_iconst (0 : Int32) (by decide) dX4_copyFrom_136 ?_
    refine T_iconst (4 : Int32) (by decide) dX4_copyFrom_137 ?_
    refine T_cpyI (N := 4) (by decide) (by decide) (by decide) (by decide) lmX4_49 (by decide) (Nat.le_of_ble_eq_true rfl) (kdH11 h1) (kdH11 h0) dX4_copyFrom_138 ?_
    refine T_lt (fun m12 => ?_)
    exact T_vret rfl dX4_copyFrom_141)
theorem lmX4_55 : Cond.methodLink RX4 55 Lib.Math.min.name ∈ gdL := gd_mem 506 (by decide +kernel) (by decide +kernel)
def fX4_rankOfStep (r0 : Nat) (x1 : Int32) (m : mMem) : mR := ga x1 10 (g0i (10 : Int32) (li (imin ((m.1 (r0 + 2) (x1).toNatClampNeg) / (10 : Int32)) (3 : Int32)) (fun y1 => ga x1 10 (if (m.1 (r0 + 1) (x1).toNatClampNeg) = (0 : Int32) then some (some (.int y1), m) else if (m.1 (r0 + 1) (x1).toNatClampNeg) = (2 : Int32) then some (some (.int (0 : Int32)), m) else some (some (.int (imin (y1 + (1 : Int32)) (3 : Int32))), m)))))
set_option maxRecDepth 100000 in
theorem bsX4_rankOfStep (l : Launch) (r0 : Nat) (x1 : Int32) (m : mMem) (h0 : kd r0 = (4, 0)) : BS l qX4_rankOfStep [.ref r0, .int x1] m (fX4_rankOfStep r0 x1 m) := BS_of (by decide) (Nat.le_of_ble_eq_true rfl) (fun X _ => by
    show T qX4_rankOfStep X (fX4_rankOfStep r0 x1 m) 0 [(0, .ref r0), (1, .int x1)] [] m
    unfold fX4_rankOfStep
    refine T_aload_n 0 rfl rfl dX4_rankOfStep_0 ?_
    refine gRX4_31 rfl h0 (r0 + 2) (rfH6 h0) dX4_rankOfStep_1 ?_
    refine T_iload_n 1 rfl rfl dX4_rankOfStep_4 ?_
    refine T_iald (kdH6 h0) dX4_rankOfStep_5 ?_
    refine T_bipush (10 : Int32) (by decide) dX4_rankOfStep_6 ?_
    refine T_idiv (x := (m.1 (r0 + 2) (x1).toNatClampNeg)) (y := (10 : Int32)) dX4_rankOfStep_8 ?_
    refine T_iconst (3 : Int32) (by decide) dX4_rankOfStep_9 ?_
    refine T_mmin lmX4_55 (by decide) (Nat.le_of_ble_eq_true rfl) dX4_rankOfStep_10 ?_
    refine T_istore_n (lv' := [(2, .int (imin ((m.1 (r0 + 2) (x1).toNatClampNeg) / (10 : Int32)) (3 : Int32))), (0, .ref r0), (1, .int x1)]) rfl (Nat.le_of_ble_eq_true rfl) rfl dX4_rankOfStep_13 ?_
    refine T_li (fun y1 => ?_)
    refine T_aload_n 1 rfl rfl dX4_rankOfStep_14 ?_
    refine gRX4_27 rfl h0 (r0 + 1) (rfH5 h0) dX4_rankOfStep_15 ?_
    refine T_iload_n 2 rfl rfl dX4_rankOfStep_18 ?_
    refine T_iald (kdH5 h0) dX4_rankOfStep_19 ?_
    refine T_ite (fun hc => ?_) (fun hn0 => ?_)
    · refine T_lsw (off := 28) 48 dX4_rankOfStep_20 (by decide) (by rw [hc]; decide) (by decide) ?_
      refine T_iload_n 0 rfl rfl dX4_rankOfStep_48 ?_
      exact T_iret rfl dX4_rankOfStep_49
    · refine T_ite (fun hc => ?_) (fun hn1 => ?_)
      · refine T_lsw (off := 30) 50 dX4_rankOfStep_20 (by decide) (by rw [hc]; decide) (by decide) ?_
        refine T_iconst (0 : Int32) (by decide) dX4_rankOfStep_50 ?_
        exact T_iret rfl dX4_rankOfStep_51
      · refine T_lsw (off := 32) 52 dX4_rankOfStep_20 (by decide) (by have e0 := neT (k := 0) hn0 (by decide); have e1 := neT (k := 2) hn1 (by decide); simp [Op.lookupswitch.offset, e0, e0.symm, e1, e1.symm]) (by decide) ?_
        refine T_iload_n 0 rfl rfl dX4_rankOfStep_52 ?_
        refine T_iconst (1 : Int32) (by decide) dX4_rankOfStep_53 ?_
        refine T_iadd dX4_rankOfStep_54 ?_
        refine T_iconst (3 : Int32) (by decide) dX4_rankOfStep_55 ?_
        refine T_mmin lmX4_55 (by decide) (Nat.le_of_ble_eq_true rfl) dX4_rankOfStep_56 ?_
        exact T_iret rfl dX4_rankOfStep_59)
theorem lmX4_61 : Cond.methodLink RX4 61 yX4_isBroken ∈ gdL := gd_mem 536 (by decide +kernel) (by decide +kernel)
def bX4_brokenBits_4 (r0 : Nat) (k4 : Int32 × Int32 × mMem → mR) (s : Int32 × Int32 × mMem) : mR := match s with
  | (x1, x2, m) => if (m.1 r0 0) ≤ x2 then some (some (.int x1), m) else bI (fX4_isBroken r0 x2 m) (fun z2 m1 => if z2 = (0 : Int32) then li (x2 + (1 : Int32)) (fun y4 => k4 (x1, y4, m1)) else li (x1 ||| ((1 : Int32) <<< (x2 &&& 31))) (fun y5 => li (x2 + (1 : Int32)) (fun y6 => k4 (y5, y6, m1))))
set_option maxRecDepth 100000 in
theorem tX4_brokenBits_4 (X : mCx) (r0 : Nat) (h0 : kd r0 = (4, 0)) : ∀ (n : Nat) (s : Int32 × Int32 × mMem), T qX4_brokenBits X (lp (bX4_brokenBits_4 r0) n s) 4 [(0, .ref r0), (1, .int s.1), (2, .int s.2.1)] [] s.2.2 :=
  T_lp (body := bX4_brokenBits_4 r0) (lv := fun s => [(0, .ref r0), (1, .int s.1), (2, .int s.2.1)]) (st := fun _ => []) (μ := fun s : Int32 × Int32 × mMem => s.2.2) (fun k4 hk4 s => by
    obtain ⟨x1, x2, m⟩ := s
    show T qX4_brokenBits X (bX4_brokenBits_4 r0 k4 (x1, x2, m)) 4 [(0, .ref r0), (1, .int x1), (2, .int x2)] [] m
    unfold bX4_brokenBits_4
    dsimp only
    refine T_iload_n 2 rfl rfl dX4_brokenBits_4 ?_
    refine T_aload_n 0 rfl rfl dX4_brokenBits_5 ?_
    refine gIX4_9 rfl h0 dX4_brokenBits_6 ?_
    refine T_icmp_ge 32 dX4_brokenBits_9 (by decide) (fun _ => ?_) (fun _ => ?_)
    · refine T_iload_n 1 rfl rfl dX4_brokenBits_32 ?_
      exact T_iret rfl dX4_brokenBits_33
    · refine T_aload_n 0 rfl rfl dX4_brokenBits_12 ?_
      refine T_iload_n 2 rfl rfl dX4_brokenBits_13 ?_
      refine T_cVI (c := 4) [.int x2] [] mkX4_isBroken lmX4_61 rfl rfl (by decide) (Nat.le_of_ble_eq_true rfl) h0 dX4_brokenBits_14 (bsX4_isBroken _ r0 x2 m h0) (fun z2 m1 => ?_)
      refine T_if_eq 26 dX4_brokenBits_17 (by decide) (fun _ => ?_) (fun _ => ?_)
      · refine T_iinc (lv' := [(2, .int (x2 + (1 : Int32))), (0, .ref r0), (1, .int x1)]) 2 (1 : Int32) rfl (by decide) (Nat.le_of_ble_eq_true rfl) rfl dX4_brokenBits_26 ?_
        refine T_li (fun y4 => ?_)
        refine T_goto 4 dX4_brokenBits_29 (by decide) ?_
        exact T_sub [1, 2, 0] rfl (hk4 (x1, y4, m1))
      · refine T_iload_n 1 rfl rfl dX4_brokenBits_20 ?_
        refine T_iconst (1 : Int32) (by decide) dX4_brokenBits_21 ?_
        refine T_iload_n 2 rfl rfl dX4_brokenBits_22 ?_
        refine T_ishl dX4_brokenBits_23 ?_
        refine T_ior dX4_brokenBits_24 ?_
        refine T_istore_n (lv' := [(1, .int (x1 ||| ((1 : Int32) <<< (x2 &&& 31)))), (0, .ref r0), (2, .int x2)]) rfl (Nat.le_of_ble_eq_true rfl) rfl dX4_brokenBits_25 ?_
        refine T_li (fun y5 => ?_)
        refine T_iinc (lv' := [(2, .int (x2 + (1 : Int32))), (1, .int y5), (0, .ref r0)]) 2 (1 : Int32) rfl (by decide) (Nat.le_of_ble_eq_true rfl) rfl dX4_brokenBits_26 ?_
        refine T_li (fun y6 => ?_)
        refine T_goto 4 dX4_brokenBits_29 (by decide) ?_
        exact T_sub [2, 1, 0] rfl (hk4 (y5, y6, m1)))
def fX4_brokenBits (r0 : Nat) (m : mMem) : mR := lp (bX4_brokenBits_4 r0) FU ((0 : Int32), (0 : Int32), m)
set_option maxRecDepth 100000 in
theorem bsX4_brokenBits (l : Launch) (r0 : Nat) (m : mMem) (h0 : kd r0 = (4, 0)) : BS l qX4_brokenBits [.ref r0] m (fX4_brokenBits r0 m) := BS_of (by decide) (Nat.le_of_ble_eq_true rfl) (fun X _ => by
    show T qX4_brokenBits X (fX4_brokenBits r0 m) 0 [(0, .ref r0)] [] m
    unfold fX4_brokenBits
    refine T_iconst (0 : Int32) (by decide) dX4_brokenBits_0 ?_
    refine T_istore_n (lv' := [(1, .int (0 : Int32)), (0, .ref r0)]) rfl (Nat.le_of_ble_eq_true rfl) rfl dX4_brokenBits_1 ?_
    refine T_iconst (0 : Int32) (by decide) dX4_brokenBits_2 ?_
    refine T_istore_n (lv' := [(2, .int (0 : Int32)), (1, .int (0 : Int32)), (0, .ref r0)]) rfl (Nat.le_of_ble_eq_true rfl) rfl dX4_brokenBits_3 ?_
    exact T_sub [2, 1, 0] rfl (tX4_brokenBits_4 X r0 h0 FU ((0 : Int32), (0 : Int32), m)))
theorem lmX4_65 : Cond.methodLink RX4 65 Lib.Math.max.name ∈ gdL := gd_mem 529 (by decide +kernel) (by decide +kernel)
def bX4_mostWear_4 (r0 : Nat) (k4 : Int32 × Int32 × mMem → mR) (s : Int32 × Int32 × mMem) : mR := match s with
  | (x1, x2, m) => if (m.1 r0 0) ≤ x2 then some (some (.int x1), m) else ga x2 10 (li (imax x1 (m.1 (r0 + 3) (x2).toNatClampNeg)) (fun y1 => li (x2 + (1 : Int32)) (fun y2 => k4 (y1, y2, m))))
set_option maxRecDepth 100000 in
theorem tX4_mostWear_4 (X : mCx) (r0 : Nat) (h0 : kd r0 = (4, 0)) : ∀ (n : Nat) (s : Int32 × Int32 × mMem), T qX4_mostWear X (lp (bX4_mostWear_4 r0) n s) 4 [(0, .ref r0), (1, .int s.1), (2, .int s.2.1)] [] s.2.2 :=
  T_lp (body := bX4_mostWear_4 r0) (lv := fun s => [(0, .ref r0), (1, .int s.1), (2, .int s.2.1)]) (st := fun _ => []) (μ := fun s : Int32 × Int32 × mMem => s.2.2) (fun k4 hk4 s => by
    obtain ⟨x1, x2, m⟩ := s
    show T qX4_mostWear X (bX4_mostWear_4 r0 k4 (x1, x2, m)) 4 [(0, .ref r0), (1, .int x1), (2, .int x2)] [] m
    unfold bX4_mostWear_4
    dsimp only
    refine T_iload_n 2 rfl rfl dX4_mostWear_4 ?_
    refine T_aload_n 0 rfl rfl dX4_mostWear_5 ?_
    refine gIX4_9 rfl h0 dX4_mostWear_6 ?_
    refine T_icmp_ge 29 dX4_mostWear_9 (by decide) (fun _ => ?_) (fun _ => ?_)
    · refine T_iload_n 1 rfl rfl dX4_mostWear_29 ?_
      exact T_iret rfl dX4_mostWear_30
    · refine T_iload_n 1 rfl rfl dX4_mostWear_12 ?_
      refine T_aload_n 0 rfl rfl dX4_mostWear_13 ?_
      refine gRX4_34 rfl h0 (r0 + 3) (rfH7 h0) dX4_mostWear_14 ?_
      refine T_iload_n 2 rfl rfl dX4_mostWear_17 ?_
      refine T_iald (kdH7 h0) dX4_mostWear_18 ?_
      refine T_mmax lmX4_65 (by decide) (Nat.le_of_ble_eq_true rfl) dX4_mostWear_19 ?_
      refine T_istore_n (lv' := [(1, .int (imax x1 (m.1 (r0 + 3) (x2).toNatClampNeg))), (0, .ref r0), (2, .int x2)]) rfl (Nat.le_of_ble_eq_true rfl) rfl dX4_mostWear_22 ?_
      refine T_li (fun y1 => ?_)
      refine T_iinc (lv' := [(2, .int (x2 + (1 : Int32))), (1, .int y1), (0, .ref r0)]) 2 (1 : Int32) rfl (by decide) (Nat.le_of_ble_eq_true rfl) rfl dX4_mostWear_23 ?_
      refine T_li (fun y2 => ?_)
      refine T_goto 4 dX4_mostWear_26 (by decide) ?_
      exact T_sub [2, 1, 0] rfl (hk4 (y1, y2, m)))
def fX4_mostWear (r0 : Nat) (m : mMem) : mR := lp (bX4_mostWear_4 r0) FU ((0 : Int32), (0 : Int32), m)
set_option maxRecDepth 100000 in
theorem bsX4_mostWear (l : Launch) (r0 : Nat) (m : mMem) (h0 : kd r0 = (4, 0)) : BS l qX4_mostWear [.ref r0] m (fX4_mostWear r0 m) := BS_of (by decide) (Nat.le_of_ble_eq_true rfl) (fun X _ => by
    show T qX4_mostWear X (fX4_mostWear r0 m) 0 [(0, .ref r0)] [] m
    unfold fX4_mostWear
    refine T_iconst (0 : Int32) (by decide) dX4_mostWear_0 ?_
    refine T_istore_n (lv' := [(1, .int (0 : Int32)), (0, .ref r0)]) rfl (Nat.le_of_ble_eq_true rfl) rfl dX4_mostWear_1 ?_
    refine T_iconst (0 : Int32) (by decide) dX4_mostWear_2 ?_
    refine T_istore_n (lv' := [(2, .int (0 : Int32)), (1, .int (0 : Int32)), (0, .ref r0)]) rfl (Nat.le_of_ble_eq_true rfl) rfl dX4_mostWear_3 ?_
    exact T_sub [2, 1, 0] rfl (tX4_mostWear_4 X r0 h0 FU ((0 : Int32), (0 : Int32), m)))
theorem lmX4_68 : Cond.methodLink RX4 68 yX4_isHeavy ∈ gdL := gd_mem 525 (by decide +kernel) (by decide +kernel)
def fX4_reachOf (r0 : Nat) (x1 : Int32) (m : mMem) : mR := bI (fX4_isHeavy r0 x1 m) (fun z2 m1 => if z2 = (0 : Int32) then ga x1 4 (some (some (.int (m1.1 (r0 + 4) (x1).toNatClampNeg)), m1)) else ga x1 4 (some (some (.int (imax ((m1.1 (r0 + 4) (x1).toNatClampNeg) - (1 : Int32)) (1 : Int32))), m1)))
set_option maxRecDepth 100000 in
theorem bsX4_reachOf (l : Launch) (r0 : Nat) (x1 : Int32) (m : mMem) (h0 : kd r0 = (4, 0)) : BS l qX4_reachOf [.ref r0, .int x1] m (fX4_reachOf r0 x1 m) := BS_of (by decide) (Nat.le_of_ble_eq_true rfl) (fun X _ => by
    show T qX4_reachOf X (fX4_reachOf r0 x1 m) 0 [(0, .ref r0), (1, .int x1)] [] m
    unfold fX4_reachOf
    refine T_aload_n 0 rfl rfl dX4_reachOf_0 ?_
    refine T_iload_n 1 rfl rfl dX4_reachOf_1 ?_
    refine T_cVI (c := 4) [.int x1] [] mkX4_isHeavy lmX4_68 rfl rfl (by decide) (Nat.le_of_ble_eq_true rfl) h0 dX4_reachOf_2 (bsX4_isHeavy _ r0 x1 m h0) (fun z2 m1 => ?_)
    refine T_if_eq 23 dX4_reachOf_5 (by decide) (fun _ => ?_) (fun _ => ?_)
    · refine T_aload_n 0 rfl rfl dX4_reachOf_23 ?_
      refine gRX4_37 rfl h0 (r0 + 4) (rfH8 h0) dX4_reachOf_24 ?_
      refine T_iload_n 1 rfl rfl dX4_reachOf_27 ?_
      refine T_iald (kdH8 h0) dX4_reachOf_28 ?_
      exact T_iret rfl dX4_reachOf_29
    · refine T_aload_n 0 rfl rfl dX4_reachOf_8 ?_
      refine gRX4_37 rfl h0 (r0 + 4) (rfH8 h0) dX4_reachOf_9 ?_
      refine T_iload_n 1 rfl rfl dX4_reachOf_12 ?_
      refine T_iald (kdH8 h0) dX4_reachOf_13 ?_
      refine T_iconst (1 : Int32) (by decide) dX4_reachOf_14 ?_
      refine T_isub dX4_reachOf_15 ?_
      refine T_iconst (1 : Int32) (by decide) dX4_reachOf_16 ?_
      refine T_mmax lmX4_65 (by decide) (Nat.le_of_ble_eq_true rfl) dX4_reachOf_17 ?_
      refine T_goto 29 dX4_reachOf_20 (by decide) ?_
      exact T_iret rfl dX4_reachOf_29)
def bX4_wearBy_17 (r0 : Nat) (x2 : Int32) (x3 : Int32) (k17 : Int32 × mMem → mR) (s : Int32 × mMem) : mR := match s with
  | (x4, m) => if (m.1 r0 0) ≤ x4 then some (none, m) else if ((x2 >>> (x4 &&& 31)) &&& (1 : Int32)) = (0 : Int32) then li (x4 + (1 : Int32)) (fun y4 => k17 (y4, m)) else ga x4 10 (if (m.1 (r0 + 1) (x4).toNatClampNeg) = (3 : Int32) then li (x4 + (1 : Int32)) (fun y5 => k17 (y5, m)) else ga x4 10 (ga x4 10 (ga x4 10 (lt (si m (r0 + 3) (x4).toNatClampNeg (imin ((((m.1 (r0 + 3) (x4).toNatClampNeg) + (2 : Int32)) - (m.1 (r0 + 1) (x4).toNatClampNeg)) + x3) (99 : Int32))) (fun m6 => li (x4 + (1 : Int32)) (fun y7 => k17 (y7, m6)))))))
set_option maxRecDepth 100000 in
theorem tX4_wearBy_17 (X : mCx) (r0 : Nat) (x2 : Int32) (x3 : Int32) (h0 : kd r0 = (4, 0)) : ∀ (n : Nat) (s : Int32 × mMem), T qX4_wearBy X (lp (bX4_wearBy_17 r0 x2 x3) n s) 17 [(0, .ref r0), (2, .int x2), (3, .int x3), (4, .int s.1)] [] s.2 :=
  T_lp (body := bX4_wearBy_17 r0 x2 x3) (lv := fun s => [(0, .ref r0), (2, .int x2), (3, .int x3), (4, .int s.1)]) (st := fun _ => []) (μ := fun s : Int32 × mMem => s.2) (fun k17 hk17 s => by
    obtain ⟨x4, m⟩ := s
    show T qX4_wearBy X (bX4_wearBy_17 r0 x2 x3 k17 (x4, m)) 17 [(0, .ref r0), (2, .int x2), (3, .int x3), (4, .int x4)] [] m
    unfold bX4_wearBy_17
    dsimp only
    refine T_iload 3 rfl dX4_wearBy_17 ?_
    refine T_aload_n 0 rfl rfl dX4_wearBy_19 ?_
    refine gIX4_9 rfl h0 dX4_wearBy_20 ?_
    refine T_icmp_ge 83 dX4_wearBy_23 (by decide) (fun _ => ?_) (fun _ => ?_)
    · exact T_vret rfl dX4_wearBy_83
    · refine T_iload_n 1 rfl rfl dX4_wearBy_26 ?_
      refine T_iload 3 rfl dX4_wearBy_27 ?_
      refine T_ishr dX4_wearBy_29 ?_
      refine T_iconst (1 : Int32) (by decide) dX4_wearBy_30 ?_
      refine T_iand dX4_wearBy_31 ?_
      refine T_if_eq 77 dX4_wearBy_32 (by decide) (fun _ => ?_) (fun _ => ?_)
      · refine T_iinc (lv' := [(4, .int (x4 + (1 : Int32))), (0, .ref r0), (2, .int x2), (3, .int x3)]) 3 (1 : Int32) rfl (by decide) (Nat.le_of_ble_eq_true rfl) rfl dX4_wearBy_77 ?_
        refine T_li (fun y4 => ?_)
        refine T_goto 17 dX4_wearBy_80 (by decide) ?_
        exact T_sub [1, 2, 3, 0] rfl (hk17 (y4, m))
      · refine T_aload_n 0 rfl rfl dX4_wearBy_35 ?_
        refine gRX4_27 rfl h0 (r0 + 1) (rfH5 h0) dX4_wearBy_36 ?_
        refine T_iload 3 rfl dX4_wearBy_39 ?_
        refine T_iald (kdH5 h0) dX4_wearBy_41 ?_
        refine T_iconst (3 : Int32) (by decide) dX4_wearBy_42 ?_
        refine T_icmp_eq 77 dX4_wearBy_43 (by decide) (fun _ => ?_) (fun _ => ?_)
        · refine T_iinc (lv' := [(4, .int (x4 + (1 : Int32))), (0, .ref r0), (2, .int x2), (3, .int x3)]) 3 (1 : Int32) rfl (by decide) (Nat.le_of_ble_eq_true rfl) rfl dX4_wearBy_77 ?_
          refine T_li (fun y5 => ?_)
          refine T_goto 17 dX4_wearBy_80 (by decide) ?_
          exact T_sub [1, 2, 3, 0] rfl (hk17 (y5, m))
        · refine T_aload_n 0 rfl rfl dX4_wearBy_46 ?_
          refine gRX4_34 rfl h0 (r0 + 3) (rfH7 h0) dX4_wearBy_47 ?_
          refine T_iload 3 rfl dX4_wearBy_50 ?_
          refine T_aload_n 0 rfl rfl dX4_wearBy_52 ?_
          refine gRX4_34 rfl h0 (r0 + 3) (rfH7 h0) dX4_wearBy_53 ?_
          refine T_iload 3 rfl dX4_wearBy_56 ?_
          refine T_iald (kdH7 h0) dX4_wearBy_58 ?_
          refine T_iconst (2 : Int32) (by decide) dX4_wearBy_59 ?_
          refine T_iadd dX4_wearBy_60 ?_
          refine T_aload_n 0 rfl rfl dX4_wearBy_61 ?_
          refine gRX4_27 rfl h0 (r0 + 1) (rfH5 h0) dX4_wearBy_62 ?_
          refine T_iload 3 rfl dX4_wearBy_65 ?_
          refine T_iald (kdH5 h0) dX4_wearBy_67 ?_
          refine T_isub dX4_wearBy_68 ?_
          refine T_iload_n 2 rfl rfl dX4_wearBy_69 ?_
          refine T_iadd dX4_wearBy_70 ?_
          refine T_bipush (99 : Int32) (by decide) dX4_wearBy_71 ?_
          refine T_mmin lmX4_55 (by decide) (Nat.le_of_ble_eq_true rfl) dX4_wearBy_73 ?_
          refine T_iast _ rfl (kdH7 h0) dX4_wearBy_76 ?_
          refine T_lt (fun m6 => ?_)
          refine T_iinc (lv' := [(4, .int (x4 + (1 : Int32))), (0, .ref r0), (2, .int x2), (3, .int x3)]) 3 (1 : Int32) rfl (by decide) (Nat.le_of_ble_eq_true rfl) rfl dX4_wearBy_77 ?_
          refine T_li (fun y7 => ?_)
          refine T_goto 17 dX4_wearBy_80 (by decide) ?_
          exact T_sub [1, 2, 3, 0] rfl (hk17 (y7, m6)))
def jX4_wearBy_13 (r0 : Nat) (x2 : Int32) (xs0 : Int32) (m : mMem) : mR := lp (bX4_wearBy_17 r0 x2 xs0) FU ((0 : Int32), m)
set_option maxRecDepth 100000 in
theorem uX4_wearBy_13 (X : mCx) (r0 : Nat) (x2 : Int32) (xs0 : Int32) (m : mMem) (h0 : kd r0 = (4, 0)) : T qX4_wearBy X (jX4_wearBy_13 r0 x2 xs0 m) 13 [(0, .ref r0), (2, .int x2)] [.int xs0] m := by
  unfold jX4_wearBy_13
  refine T_istore_n (lv' := [(3, .int xs0), (0, .ref r0), (2, .int x2)]) rfl (Nat.le_of_ble_eq_true rfl) rfl dX4_wearBy_13 ?_
  refine T_iconst (0 : Int32) (by decide) dX4_wearBy_14 ?_
  refine T_istore (lv' := [(4, .int (0 : Int32)), (3, .int xs0), (0, .ref r0), (2, .int x2)]) (Nat.le_of_ble_eq_true rfl) rfl dX4_wearBy_15 ?_
  exact T_sub [2, 3, 1, 0] rfl (tX4_wearBy_17 X r0 x2 xs0 h0 FU ((0 : Int32), m))
def fX4_wearBy (r0 : Nat) (x1 : Int32) (x2 : Int32) (m : mMem) : mR := bI (fX4_isHeavy r0 x1 m) (fun z2 m1 => if z2 = (0 : Int32) then jX4_wearBy_13 r0 x2 (0 : Int32) m1 else jX4_wearBy_13 r0 x2 (1 : Int32) m1)
set_option maxRecDepth 100000 in
theorem bsX4_wearBy (l : Launch) (r0 : Nat) (x1 : Int32) (x2 : Int32) (m : mMem) (h0 : kd r0 = (4, 0)) : BS l qX4_wearBy [.ref r0, .int x1, .int x2] m (fX4_wearBy r0 x1 x2 m) := BS_of (by decide) (Nat.le_of_ble_eq_true rfl) (fun X _ => by
    show T qX4_wearBy X (fX4_wearBy r0 x1 x2 m) 0 [(0, .ref r0), (1, .int x1), (2, .int x2)] [] m
    unfold fX4_wearBy
    refine T_aload_n 0 rfl rfl dX4_wearBy_0 ?_
    refine T_iload_n 1 rfl rfl dX4_wearBy_1 ?_
    refine T_cVI (c := 4) [.int x1] [] mkX4_isHeavy lmX4_68 rfl rfl (by decide) (Nat.le_of_ble_eq_true rfl) h0 dX4_wearBy_2 (bsX4_isHeavy _ r0 x1 m h0) (fun z2 m1 => ?_)
    refine T_if_eq 12 dX4_wearBy_5 (by decide) (fun _ => ?_) (fun _ => ?_)
    · refine T_iconst (0 : Int32) (by decide) dX4_wearBy_12 ?_
      exact T_sub [0, 2] rfl (uX4_wearBy_13 X r0 x2 (0 : Int32) m1 h0)
    · refine T_iconst (1 : Int32) (by decide) dX4_wearBy_8 ?_
      refine T_goto 13 dX4_wearBy_9 (by decide) ?_
      exact T_sub [0, 2] rfl (uX4_wearBy_13 X r0 x2 (1 : Int32) m1 h0))
theorem lmX4_75 : Cond.methodLink RX4 75 yX4_rankOfStep ∈ gdL := gd_mem 541 (by decide +kernel) (by decide +kernel)
theorem lmX4_79 : Cond.methodLink RX4 79 Lib.Math.abs.name ∈ gdL := gd_mem 542 (by decide +kernel) (by decide +kernel)
def fX4_isNear (r0 : Nat) (x1 : Int32) (x2 : Int32) (m : mMem) : mR := ga x2 10 (if (m.1 (r0 + 1) (x2).toNatClampNeg) = (3 : Int32) then some (some (.int (1 : Int32)), m) else bI (fX4_rankOfStep r0 x2 m) (fun z2 m1 => ga x1 4 (if (m1.1 r0 2) < (iabs (z2 - (m1.1 (r0 + 5) (x1).toNatClampNeg))) then some (some (.int (0 : Int32)), m1) else some (some (.int (1 : Int32)), m1))))
set_option maxRecDepth 100000 in
theorem bsX4_isNear (l : Launch) (r0 : Nat) (x1 : Int32) (x2 : Int32) (m : mMem) (h0 : kd r0 = (4, 0)) : BS l qX4_isNear [.ref r0, .int x1, .int x2] m (fX4_isNear r0 x1 x2 m) := BS_of (by decide) (Nat.le_of_ble_eq_true rfl) (fun X _ => by
    show T qX4_isNear X (fX4_isNear r0 x1 x2 m) 0 [(0, .ref r0), (1, .int x1), (2, .int x2)] [] m
    unfold fX4_isNear
    refine T_aload_n 0 rfl rfl dX4_isNear_0 ?_
    refine gRX4_27 rfl h0 (r0 + 1) (rfH5 h0) dX4_isNear_1 ?_
    refine T_iload_n 2 rfl rfl dX4_isNear_4 ?_
    refine T_iald (kdH5 h0) dX4_isNear_5 ?_
    refine T_iconst (3 : Int32) (by decide) dX4_isNear_6 ?_
    refine T_icmp_eq 32 dX4_isNear_7 (by decide) (fun _ => ?_) (fun _ => ?_)
    · refine T_iconst (1 : Int32) (by decide) dX4_isNear_32 ?_
      refine T_goto 37 dX4_isNear_33 (by decide) ?_
      exact T_zretc (by decide) rfl dX4_isNear_37
    · refine T_aload_n 0 rfl rfl dX4_isNear_10 ?_
      refine T_iload_n 2 rfl rfl dX4_isNear_11 ?_
      refine T_cVI (c := 4) [.int x2] [] mkX4_rankOfStep lmX4_75 rfl rfl (by decide) (Nat.le_of_ble_eq_true rfl) h0 dX4_isNear_12 (bsX4_rankOfStep _ r0 x2 m h0) (fun z2 m1 => ?_)
      refine T_aload_n 0 rfl rfl dX4_isNear_15 ?_
      refine gRX4_40 rfl h0 (r0 + 5) (rfH9 h0) dX4_isNear_16 ?_
      refine T_iload_n 1 rfl rfl dX4_isNear_19 ?_
      refine T_iald (kdH9 h0) dX4_isNear_20 ?_
      refine T_isub dX4_isNear_21 ?_
      refine T_mabs lmX4_79 (by decide) (Nat.le_of_ble_eq_true rfl) dX4_isNear_22 ?_
      refine T_aload_n 0 rfl rfl dX4_isNear_25 ?_
      refine gIX4_18 rfl h0 dX4_isNear_26 ?_
      refine T_icmp_gt 36 dX4_isNear_29 (by decide) (fun _ => ?_) (fun _ => ?_)
      · refine T_iconst (0 : Int32) (by decide) dX4_isNear_36 ?_
        exact T_zretc (by decide) rfl dX4_isNear_37
      · refine T_iconst (1 : Int32) (by decide) dX4_isNear_32 ?_
        refine T_goto 37 dX4_isNear_33 (by decide) ?_
        exact T_zretc (by decide) rfl dX4_isNear_37)
theorem lmX4_88 : Cond.methodLink RX4 88 yX4_reachOf ∈ gdL := gd_mem 640 (by decide +kernel) (by decide +kernel)
def jX4_getsHomeBy_48 (k16 : Int32 × Int32 × mMem → mR) (r0 : Nat) (x1 : Int32) (x2 : Int32) (x3 : Int32) (x4 : Int32) (x5 : Int32) (xs0 : Int32) (m : mMem) : mR := if xs0 = (0 : Int32) then li ((x4 <<< ((1 : Int32) &&& 31)) ||| (0 : Int32)) (fun y5 => li (x5 + (1 : Int32)) (fun y6 => k16 (y5, y6, m))) else li ((x4 <<< ((1 : Int32) &&& 31)) ||| (1 : Int32)) (fun y7 => li (x5 + (1 : Int32)) (fun y8 => k16 (y7, y8, m)))
set_option maxRecDepth 100000 in
theorem uX4_getsHomeBy_48 (X : mCx) (k16 : Int32 × Int32 × mMem → mR) (r0 : Nat) (x1 : Int32) (x2 : Int32) (x3 : Int32) (x4 : Int32) (x5 : Int32) (xs0 : Int32) (m : mMem) (h0 : kd r0 = (4, 0)) (hk16 : ∀ s : Int32 × Int32 × mMem, T qX4_getsHomeBy X (k16 s) 16 [(0, .ref r0), (1, .int x1), (2, .int x2), (3, .int x3), (4, .int s.1), (5, .int s.2.1)] [] s.2.2) : T qX4_getsHomeBy X (jX4_getsHomeBy_48 k16 r0 x1 x2 x3 x4 x5 xs0 m) 48 [(0, .ref r0), (1, .int x1), (2, .int x2), (3, .int x3), (4, .int x4), (5, .int x5)] [.int xs0] m := by
  unfold jX4_getsHomeBy_48
  refine T_istore (lv' := [(6, .int xs0), (0, .ref r0), (1, .int x1), (2, .int x2), (3, .int x3), (4, .int x4), (5, .int x5)]) (Nat.le_of_ble_eq_true rfl) rfl dX4_getsHomeBy_48 ?_
  refine T_iload 5 rfl dX4_getsHomeBy_50 ?_
  refine T_iconst (1 : Int32) (by decide) dX4_getsHomeBy_52 ?_
  refine T_ishl dX4_getsHomeBy_53 ?_
  refine T_iload 0 rfl dX4_getsHomeBy_54 ?_
  refine T_if_eq 63 dX4_getsHomeBy_56 (by decide) (fun _ => ?_) (fun _ => ?_)
  · refine T_iconst (0 : Int32) (by decide) dX4_getsHomeBy_63 ?_
    refine T_ior dX4_getsHomeBy_64 ?_
    refine T_istore (lv' := [(4, .int ((x4 <<< ((1 : Int32) &&& 31)) ||| (0 : Int32))), (6, .int xs0), (0, .ref r0), (1, .int x1), (2, .int x2), (3, .int x3), (5, .int x5)]) (Nat.le_of_ble_eq_true rfl) rfl dX4_getsHomeBy_65 ?_
    refine T_li (fun y5 => ?_)
    refine T_iinc (lv' := [(5, .int (x5 + (1 : Int32))), (4, .int y5), (6, .int xs0), (0, .ref r0), (1, .int x1), (2, .int x2), (3, .int x3)]) 6 (1 : Int32) rfl (by decide) (Nat.le_of_ble_eq_true rfl) rfl dX4_getsHomeBy_67 ?_
    refine T_li (fun y6 => ?_)
    refine T_goto 16 dX4_getsHomeBy_70 (by decide) ?_
    exact T_sub [3, 4, 5, 6, 1, 0] rfl (hk16 (y5, y6, m))
  · refine T_iconst (1 : Int32) (by decide) dX4_getsHomeBy_59 ?_
    refine T_goto 64 dX4_getsHomeBy_60 (by decide) ?_
    refine T_ior dX4_getsHomeBy_64 ?_
    refine T_istore (lv' := [(4, .int ((x4 <<< ((1 : Int32) &&& 31)) ||| (1 : Int32))), (6, .int xs0), (0, .ref r0), (1, .int x1), (2, .int x2), (3, .int x3), (5, .int x5)]) (Nat.le_of_ble_eq_true rfl) rfl dX4_getsHomeBy_65 ?_
    refine T_li (fun y7 => ?_)
    refine T_iinc (lv' := [(5, .int (x5 + (1 : Int32))), (4, .int y7), (6, .int xs0), (0, .ref r0), (1, .int x1), (2, .int x2), (3, .int x3)]) 6 (1 : Int32) rfl (by decide) (Nat.le_of_ble_eq_true rfl) rfl dX4_getsHomeBy_67 ?_
    refine T_li (fun y8 => ?_)
    refine T_goto 16 dX4_getsHomeBy_70 (by decide) ?_
    exact T_sub [3, 4, 5, 6, 1, 0] rfl (hk16 (y7, y8, m))
def jX4_getsHomeBy_47 (k16 : Int32 × Int32 × mMem → mR) (r0 : Nat) (x1 : Int32) (x2 : Int32) (x3 : Int32) (x4 : Int32) (x5 : Int32) (m : mMem) : mR := jX4_getsHomeBy_48 k16 r0 x1 x2 x3 x4 x5 (0 : Int32) m
set_option maxRecDepth 100000 in
theorem uX4_getsHomeBy_47 (X : mCx) (k16 : Int32 × Int32 × mMem → mR) (r0 : Nat) (x1 : Int32) (x2 : Int32) (x3 : Int32) (x4 : Int32) (x5 : Int32) (m : mMem) (h0 : kd r0 = (4, 0)) (hk16 : ∀ s : Int32 × Int32 × mMem, T qX4_getsHomeBy X (k16 s) 16 [(0, .ref r0), (1, .int x1), (2, .int x2), (3, .int x3), (4, .int s.1), (5, .int s.2.1)] [] s.2.2) : T qX4_getsHomeBy X (jX4_getsHomeBy_47 k16 r0 x1 x2 x3 x4 x5 m) 47 [(0, .ref r0), (1, .int x1), (2, .int x2), (3, .int x3), (4, .int x4), (5, .int x5)] [] m := by
  unfold jX4_getsHomeBy_47
  refine T_iconst (0 : Int32) (by decide) dX4_getsHomeBy_47 ?_
  exact T_sub [0, 1, 2, 3, 4, 5] rfl (uX4_getsHomeBy_48 X k16 r0 x1 x2 x3 x4 x5 (0 : Int32) m h0 hk16)
def bX4_getsHomeBy_16 (r0 : Nat) (x1 : Int32) (x2 : Int32) (x3 : Int32) (k16 : Int32 × Int32 × mMem → mR) (s : Int32 × Int32 × mMem) : mR := match s with
  | (x4, x5, m) => ga x1 4 (if (m.1 (r0 + 7) (x1).toNatClampNeg) < x5 then if (x4 &&& (1 : Int32)) = (0 : Int32) then some (some (.int (0 : Int32)), m) else some (some (.int (1 : Int32)), m) else if ((x2 >>> (x5 &&& 31)) &&& (1 : Int32)) = (0 : Int32) then jX4_getsHomeBy_47 k16 r0 x1 x2 x3 x4 x5 m else if (x4 &&& x3) = (0 : Int32) then jX4_getsHomeBy_47 k16 r0 x1 x2 x3 x4 x5 m else jX4_getsHomeBy_48 k16 r0 x1 x2 x3 x4 x5 (1 : Int32) m)
set_option maxRecDepth 100000 in
theorem tX4_getsHomeBy_16 (X : mCx) (r0 : Nat) (x1 : Int32) (x2 : Int32) (x3 : Int32) (h0 : kd r0 = (4, 0)) : ∀ (n : Nat) (s : Int32 × Int32 × mMem), T qX4_getsHomeBy X (lp (bX4_getsHomeBy_16 r0 x1 x2 x3) n s) 16 [(0, .ref r0), (1, .int x1), (2, .int x2), (3, .int x3), (4, .int s.1), (5, .int s.2.1)] [] s.2.2 :=
  T_lp (body := bX4_getsHomeBy_16 r0 x1 x2 x3) (lv := fun s => [(0, .ref r0), (1, .int x1), (2, .int x2), (3, .int x3), (4, .int s.1), (5, .int s.2.1)]) (st := fun _ => []) (μ := fun s : Int32 × Int32 × mMem => s.2.2) (fun k16 hk16 s => by
    obtain ⟨x4, x5, m⟩ := s
    show T qX4_getsHomeBy X (bX4_getsHomeBy_16 r0 x1 x2 x3 k16 (x4, x5, m)) 16 [(0, .ref r0), (1, .int x1), (2, .int x2), (3, .int x3), (4, .int x4), (5, .int x5)] [] m
    unfold bX4_getsHomeBy_16
    dsimp only
    refine T_iload 5 rfl dX4_getsHomeBy_16 ?_
    refine T_aload_n 0 rfl rfl dX4_getsHomeBy_18 ?_
    refine gRX4_46 rfl h0 (r0 + 7) (rfH11 h0) dX4_getsHomeBy_19 ?_
    refine T_iload_n 1 rfl rfl dX4_getsHomeBy_22 ?_
    refine T_iald (kdH11 h0) dX4_getsHomeBy_23 ?_
    refine T_icmp_gt 73 dX4_getsHomeBy_24 (by decide) (fun _ => ?_) (fun _ => ?_)
    · refine T_iload 4 rfl dX4_getsHomeBy_73 ?_
      refine T_iconst (1 : Int32) (by decide) dX4_getsHomeBy_75 ?_
      refine T_iand dX4_getsHomeBy_76 ?_
      refine T_if_eq 84 dX4_getsHomeBy_77 (by decide) (fun _ => ?_) (fun _ => ?_)
      · refine T_iconst (0 : Int32) (by decide) dX4_getsHomeBy_84 ?_
        exact T_zretc (by decide) rfl dX4_getsHomeBy_85
      · refine T_iconst (1 : Int32) (by decide) dX4_getsHomeBy_80 ?_
        refine T_goto 85 dX4_getsHomeBy_81 (by decide) ?_
        exact T_zretc (by decide) rfl dX4_getsHomeBy_85
    · refine T_iload_n 2 rfl rfl dX4_getsHomeBy_27 ?_
      refine T_iload 5 rfl dX4_getsHomeBy_28 ?_
      refine T_ishr dX4_getsHomeBy_30 ?_
      refine T_iconst (1 : Int32) (by decide) dX4_getsHomeBy_31 ?_
      refine T_iand dX4_getsHomeBy_32 ?_
      refine T_if_eq 47 dX4_getsHomeBy_33 (by decide) (fun _ => ?_) (fun _ => ?_)
      · exact T_sub [0, 1, 2, 3, 4, 5] rfl (uX4_getsHomeBy_47 X k16 r0 x1 x2 x3 x4 x5 m h0 hk16)
      · refine T_iload 4 rfl dX4_getsHomeBy_36 ?_
        refine T_iload_n 3 rfl rfl dX4_getsHomeBy_38 ?_
        refine T_iand dX4_getsHomeBy_39 ?_
        refine T_if_eq 47 dX4_getsHomeBy_40 (by decide) (fun _ => ?_) (fun _ => ?_)
        · exact T_sub [0, 1, 2, 3, 4, 5] rfl (uX4_getsHomeBy_47 X k16 r0 x1 x2 x3 x4 x5 m h0 hk16)
        · refine T_iconst (1 : Int32) (by decide) dX4_getsHomeBy_43 ?_
          refine T_goto 48 dX4_getsHomeBy_44 (by decide) ?_
          exact T_sub [0, 1, 2, 3, 4, 5] rfl (uX4_getsHomeBy_48 X k16 r0 x1 x2 x3 x4 x5 (1 : Int32) m h0 hk16))
def fX4_getsHomeBy (r0 : Nat) (x1 : Int32) (x2 : Int32) (m : mMem) : mR := bI (fX4_reachOf r0 x1 m) (fun z2 m1 => li (((1 : Int32) <<< (z2 &&& 31)) - (1 : Int32)) (fun y4 => lp (bX4_getsHomeBy_16 r0 x1 x2 y4) FU ((1 : Int32), (0 : Int32), m1)))
set_option maxRecDepth 100000 in
theorem bsX4_getsHomeBy (l : Launch) (r0 : Nat) (x1 : Int32) (x2 : Int32) (m : mMem) (h0 : kd r0 = (4, 0)) : BS l qX4_getsHomeBy [.ref r0, .int x1, .int x2] m (fX4_getsHomeBy r0 x1 x2 m) := BS_of (by decide) (Nat.le_of_ble_eq_true rfl) (fun X _ => by
    show T qX4_getsHomeBy X (fX4_getsHomeBy r0 x1 x2 m) 0 [(0, .ref r0), (1, .int x1), (2, .int x2)] [] m
    unfold fX4_getsHomeBy
    refine T_iconst (1 : Int32) (by decide) dX4_getsHomeBy_0 ?_
    refine T_aload_n 0 rfl rfl dX4_getsHomeBy_1 ?_
    refine T_iload_n 1 rfl rfl dX4_getsHomeBy_2 ?_
    refine T_cVI (c := 4) [.int x1] [.int (1 : Int32)] mkX4_reachOf lmX4_88 rfl rfl (by decide) (Nat.le_of_ble_eq_true rfl) h0 dX4_getsHomeBy_3 (bsX4_reachOf _ r0 x1 m h0) (fun z2 m1 => ?_)
    refine T_ishl dX4_getsHomeBy_6 ?_
    refine T_iconst (1 : Int32) (by decide) dX4_getsHomeBy_7 ?_
    refine T_isub dX4_getsHomeBy_8 ?_
    refine T_istore_n (lv' := [(3, .int (((1 : Int32) <<< (z2 &&& 31)) - (1 : Int32))), (0, .ref r0), (1, .int x1), (2, .int x2)]) rfl (Nat.le_of_ble_eq_true rfl) rfl dX4_getsHomeBy_9 ?_
    refine T_li (fun y4 => ?_)
    refine T_iconst (1 : Int32) (by decide) dX4_getsHomeBy_10 ?_
    refine T_istore (lv' := [(4, .int (1 : Int32)), (3, .int y4), (0, .ref r0), (1, .int x1), (2, .int x2)]) (Nat.le_of_ble_eq_true rfl) rfl dX4_getsHomeBy_11 ?_
    refine T_iconst (0 : Int32) (by decide) dX4_getsHomeBy_13 ?_
    refine T_istore (lv' := [(5, .int (0 : Int32)), (4, .int (1 : Int32)), (3, .int y4), (0, .ref r0), (1, .int x1), (2, .int x2)]) (Nat.le_of_ble_eq_true rfl) rfl dX4_getsHomeBy_14 ?_
    exact T_sub [3, 4, 5, 2, 1, 0] rfl (tX4_getsHomeBy_16 X r0 x1 x2 y4 h0 FU ((1 : Int32), (0 : Int32), m1)))
theorem lmX4_71 : Cond.methodLink RX4 71 yX4_isNear ∈ gdL := gd_mem 537 (by decide +kernel) (by decide +kernel)
def bX4_treadBits_4 (r0 : Nat) (x1 : Int32) (k4 : Int32 × Int32 × mMem → mR) (s : Int32 × Int32 × mMem) : mR := match s with
  | (x2, x3, m) => if (m.1 r0 0) ≤ x3 then some (some (.int x2), m) else bI (fX4_isBroken r0 x3 m) (fun z2 m1 => if z2 = (0 : Int32) then bI (fX4_isNear r0 x1 x3 m1) (fun z5 m4 => if z5 = (0 : Int32) then li (x3 + (1 : Int32)) (fun y7 => k4 (x2, y7, m4)) else li (x2 ||| ((1 : Int32) <<< (x3 &&& 31))) (fun y8 => li (x3 + (1 : Int32)) (fun y9 => k4 (y8, y9, m4)))) else li (x3 + (1 : Int32)) (fun y10 => k4 (x2, y10, m1)))
set_option maxRecDepth 100000 in
theorem tX4_treadBits_4 (X : mCx) (r0 : Nat) (x1 : Int32) (h0 : kd r0 = (4, 0)) : ∀ (n : Nat) (s : Int32 × Int32 × mMem), T qX4_treadBits X (lp (bX4_treadBits_4 r0 x1) n s) 4 [(0, .ref r0), (1, .int x1), (2, .int s.1), (3, .int s.2.1)] [] s.2.2 :=
  T_lp (body := bX4_treadBits_4 r0 x1) (lv := fun s => [(0, .ref r0), (1, .int x1), (2, .int s.1), (3, .int s.2.1)]) (st := fun _ => []) (μ := fun s : Int32 × Int32 × mMem => s.2.2) (fun k4 hk4 s => by
    obtain ⟨x2, x3, m⟩ := s
    show T qX4_treadBits X (bX4_treadBits_4 r0 x1 k4 (x2, x3, m)) 4 [(0, .ref r0), (1, .int x1), (2, .int x2), (3, .int x3)] [] m
    unfold bX4_treadBits_4
    dsimp only
    refine T_iload_n 3 rfl rfl dX4_treadBits_4 ?_
    refine T_aload_n 0 rfl rfl dX4_treadBits_5 ?_
    refine gIX4_9 rfl h0 dX4_treadBits_6 ?_
    refine T_icmp_ge 41 dX4_treadBits_9 (by decide) (fun _ => ?_) (fun _ => ?_)
    · refine T_iload_n 2 rfl rfl dX4_treadBits_41 ?_
      exact T_iret rfl dX4_treadBits_42
    · refine T_aload_n 0 rfl rfl dX4_treadBits_12 ?_
      refine T_iload_n 3 rfl rfl dX4_treadBits_13 ?_
      refine T_cVI (c := 4) [.int x3] [] mkX4_isBroken lmX4_61 rfl rfl (by decide) (Nat.le_of_ble_eq_true rfl) h0 dX4_treadBits_14 (bsX4_isBroken _ r0 x3 m h0) (fun z2 m1 => ?_)
      refine T_if_ne 35 dX4_treadBits_17 (by decide) (fun _ => ?_) (fun _ => ?_)
      · refine T_aload_n 0 rfl rfl dX4_treadBits_20 ?_
        refine T_iload_n 1 rfl rfl dX4_treadBits_21 ?_
        refine T_iload_n 3 rfl rfl dX4_treadBits_22 ?_
        refine T_cVI (c := 4) [.int x1, .int x3] [] mkX4_isNear lmX4_71 rfl rfl (by decide) (Nat.le_of_ble_eq_true rfl) h0 dX4_treadBits_23 (bsX4_isNear _ r0 x1 x3 m1 h0) (fun z5 m4 => ?_)
        refine T_if_eq 35 dX4_treadBits_26 (by decide) (fun _ => ?_) (fun _ => ?_)
        · refine T_iinc (lv' := [(3, .int (x3 + (1 : Int32))), (0, .ref r0), (1, .int x1), (2, .int x2)]) 3 (1 : Int32) rfl (by decide) (Nat.le_of_ble_eq_true rfl) rfl dX4_treadBits_35 ?_
          refine T_li (fun y7 => ?_)
          refine T_goto 4 dX4_treadBits_38 (by decide) ?_
          exact T_sub [1, 2, 3, 0] rfl (hk4 (x2, y7, m4))
        · refine T_iload_n 2 rfl rfl dX4_treadBits_29 ?_
          refine T_iconst (1 : Int32) (by decide) dX4_treadBits_30 ?_
          refine T_iload_n 3 rfl rfl dX4_treadBits_31 ?_
          refine T_ishl dX4_treadBits_32 ?_
          refine T_ior dX4_treadBits_33 ?_
          refine T_istore_n (lv' := [(2, .int (x2 ||| ((1 : Int32) <<< (x3 &&& 31)))), (0, .ref r0), (1, .int x1), (3, .int x3)]) rfl (Nat.le_of_ble_eq_true rfl) rfl dX4_treadBits_34 ?_
          refine T_li (fun y8 => ?_)
          refine T_iinc (lv' := [(3, .int (x3 + (1 : Int32))), (2, .int y8), (0, .ref r0), (1, .int x1)]) 3 (1 : Int32) rfl (by decide) (Nat.le_of_ble_eq_true rfl) rfl dX4_treadBits_35 ?_
          refine T_li (fun y9 => ?_)
          refine T_goto 4 dX4_treadBits_38 (by decide) ?_
          exact T_sub [2, 3, 1, 0] rfl (hk4 (y8, y9, m4))
      · refine T_iinc (lv' := [(3, .int (x3 + (1 : Int32))), (0, .ref r0), (1, .int x1), (2, .int x2)]) 3 (1 : Int32) rfl (by decide) (Nat.le_of_ble_eq_true rfl) rfl dX4_treadBits_35 ?_
        refine T_li (fun y10 => ?_)
        refine T_goto 4 dX4_treadBits_38 (by decide) ?_
        exact T_sub [1, 2, 3, 0] rfl (hk4 (x2, y10, m1)))
def fX4_treadBits (r0 : Nat) (x1 : Int32) (m : mMem) : mR := lp (bX4_treadBits_4 r0 x1) FU ((0 : Int32), (0 : Int32), m)
set_option maxRecDepth 100000 in
theorem bsX4_treadBits (l : Launch) (r0 : Nat) (x1 : Int32) (m : mMem) (h0 : kd r0 = (4, 0)) : BS l qX4_treadBits [.ref r0, .int x1] m (fX4_treadBits r0 x1 m) := BS_of (by decide) (Nat.le_of_ble_eq_true rfl) (fun X _ => by
    show T qX4_treadBits X (fX4_treadBits r0 x1 m) 0 [(0, .ref r0), (1, .int x1)] [] m
    unfold fX4_treadBits
    refine T_iconst (0 : Int32) (by decide) dX4_treadBits_0 ?_
    refine T_istore_n (lv' := [(2, .int (0 : Int32)), (0, .ref r0), (1, .int x1)]) rfl (Nat.le_of_ble_eq_true rfl) rfl dX4_treadBits_1 ?_
    refine T_iconst (0 : Int32) (by decide) dX4_treadBits_2 ?_
    refine T_istore_n (lv' := [(3, .int (0 : Int32)), (2, .int (0 : Int32)), (0, .ref r0), (1, .int x1)]) rfl (Nat.le_of_ble_eq_true rfl) rfl dX4_treadBits_3 ?_
    exact T_sub [2, 3, 1, 0] rfl (tX4_treadBits_4 X r0 x1 h0 FU ((0 : Int32), (0 : Int32), m)))
theorem lmX4_82 : Cond.methodLink RX4 82 yX4_treadBits ∈ gdL := gd_mem 635 (by decide +kernel) (by decide +kernel)
theorem lmX4_85 : Cond.methodLink RX4 85 yX4_getsHomeBy ∈ gdL := gd_mem 636 (by decide +kernel) (by decide +kernel)
def fX4_getsHome (r0 : Nat) (x1 : Int32) (m : mMem) : mR := bI (fX4_treadBits r0 x1 m) (fun z2 m1 => bI (fX4_getsHomeBy r0 x1 z2 m1) (fun z5 m4 => gb z5 (some (some (.int z5), m4))))
set_option maxRecDepth 100000 in
theorem bsX4_getsHome (l : Launch) (r0 : Nat) (x1 : Int32) (m : mMem) (h0 : kd r0 = (4, 0)) : BS l qX4_getsHome [.ref r0, .int x1] m (fX4_getsHome r0 x1 m) := BS_of (by decide) (Nat.le_of_ble_eq_true rfl) (fun X _ => by
    show T qX4_getsHome X (fX4_getsHome r0 x1 m) 0 [(0, .ref r0), (1, .int x1)] [] m
    unfold fX4_getsHome
    refine T_aload_n 0 rfl rfl dX4_getsHome_0 ?_
    refine T_iload_n 1 rfl rfl dX4_getsHome_1 ?_
    refine T_aload_n 0 rfl rfl dX4_getsHome_2 ?_
    refine T_iload_n 1 rfl rfl dX4_getsHome_3 ?_
    refine T_cVI (c := 4) [.int x1] [.int x1, .ref r0] mkX4_treadBits lmX4_82 rfl rfl (by decide) (Nat.le_of_ble_eq_true rfl) h0 dX4_getsHome_4 (bsX4_treadBits _ r0 x1 m h0) (fun z2 m1 => ?_)
    refine T_cVI (c := 4) [.int x1, .int z2] [] mkX4_getsHomeBy lmX4_85 rfl rfl (by decide) (Nat.le_of_ble_eq_true rfl) h0 dX4_getsHome_7 (bsX4_getsHomeBy _ r0 x1 z2 m1 h0) (fun z5 m4 => ?_)
    exact T_zret rfl dX4_getsHome_10)
theorem lmX4_91 : Cond.methodLink RX4 91 yX4_getsHome ∈ gdL := gd_mem 658 (by decide +kernel) (by decide +kernel)
def bX4_homeBits_4 (r0 : Nat) (k4 : Int32 × Int32 × mMem → mR) (s : Int32 × Int32 × mMem) : mR := match s with
  | (x1, x2, m) => if (m.1 r0 1) ≤ x2 then some (some (.int x1), m) else bI (fX4_getsHome r0 x2 m) (fun z2 m1 => if z2 = (0 : Int32) then li (x2 + (1 : Int32)) (fun y4 => k4 (x1, y4, m1)) else li (x1 ||| ((1 : Int32) <<< (x2 &&& 31))) (fun y5 => li (x2 + (1 : Int32)) (fun y6 => k4 (y5, y6, m1))))
set_option maxRecDepth 100000 in
theorem tX4_homeBits_4 (X : mCx) (r0 : Nat) (h0 : kd r0 = (4, 0)) : ∀ (n : Nat) (s : Int32 × Int32 × mMem), T qX4_homeBits X (lp (bX4_homeBits_4 r0) n s) 4 [(0, .ref r0), (1, .int s.1), (2, .int s.2.1)] [] s.2.2 :=
  T_lp (body := bX4_homeBits_4 r0) (lv := fun s => [(0, .ref r0), (1, .int s.1), (2, .int s.2.1)]) (st := fun _ => []) (μ := fun s : Int32 × Int32 × mMem => s.2.2) (fun k4 hk4 s => by
    obtain ⟨x1, x2, m⟩ := s
    show T qX4_homeBits X (bX4_homeBits_4 r0 k4 (x1, x2, m)) 4 [(0, .ref r0), (1, .int x1), (2, .int x2)] [] m
    unfold bX4_homeBits_4
    dsimp only
    refine T_iload_n 2 rfl rfl dX4_homeBits_4 ?_
    refine T_aload_n 0 rfl rfl dX4_homeBits_5 ?_
    refine gIX4_15 rfl h0 dX4_homeBits_6 ?_
    refine T_icmp_ge 32 dX4_homeBits_9 (by decide) (fun _ => ?_) (fun _ => ?_)
    · refine T_iload_n 1 rfl rfl dX4_homeBits_32 ?_
      exact T_iret rfl dX4_homeBits_33
    · refine T_aload_n 0 rfl rfl dX4_homeBits_12 ?_
      refine T_iload_n 2 rfl rfl dX4_homeBits_13 ?_
      refine T_cVI (c := 4) [.int x2] [] mkX4_getsHome lmX4_91 rfl rfl (by decide) (Nat.le_of_ble_eq_true rfl) h0 dX4_homeBits_14 (bsX4_getsHome _ r0 x2 m h0) (fun z2 m1 => ?_)
      refine T_if_eq 26 dX4_homeBits_17 (by decide) (fun _ => ?_) (fun _ => ?_)
      · refine T_iinc (lv' := [(2, .int (x2 + (1 : Int32))), (0, .ref r0), (1, .int x1)]) 2 (1 : Int32) rfl (by decide) (Nat.le_of_ble_eq_true rfl) rfl dX4_homeBits_26 ?_
        refine T_li (fun y4 => ?_)
        refine T_goto 4 dX4_homeBits_29 (by decide) ?_
        exact T_sub [1, 2, 0] rfl (hk4 (x1, y4, m1))
      · refine T_iload_n 1 rfl rfl dX4_homeBits_20 ?_
        refine T_iconst (1 : Int32) (by decide) dX4_homeBits_21 ?_
        refine T_iload_n 2 rfl rfl dX4_homeBits_22 ?_
        refine T_ishl dX4_homeBits_23 ?_
        refine T_ior dX4_homeBits_24 ?_
        refine T_istore_n (lv' := [(1, .int (x1 ||| ((1 : Int32) <<< (x2 &&& 31)))), (0, .ref r0), (2, .int x2)]) rfl (Nat.le_of_ble_eq_true rfl) rfl dX4_homeBits_25 ?_
        refine T_li (fun y5 => ?_)
        refine T_iinc (lv' := [(2, .int (x2 + (1 : Int32))), (1, .int y5), (0, .ref r0)]) 2 (1 : Int32) rfl (by decide) (Nat.le_of_ble_eq_true rfl) rfl dX4_homeBits_26 ?_
        refine T_li (fun y6 => ?_)
        refine T_goto 4 dX4_homeBits_29 (by decide) ?_
        exact T_sub [2, 1, 0] rfl (hk4 (y5, y6, m1)))
def fX4_homeBits (r0 : Nat) (m : mMem) : mR := lp (bX4_homeBits_4 r0) FU ((0 : Int32), (0 : Int32), m)
set_option maxRecDepth 100000 in
theorem bsX4_homeBits (l : Launch) (r0 : Nat) (m : mMem) (h0 : kd r0 = (4, 0)) : BS l qX4_homeBits [.ref r0] m (fX4_homeBits r0 m) := BS_of (by decide) (Nat.le_of_ble_eq_true rfl) (fun X _ => by
    show T qX4_homeBits X (fX4_homeBits r0 m) 0 [(0, .ref r0)] [] m
    unfold fX4_homeBits
    refine T_iconst (0 : Int32) (by decide) dX4_homeBits_0 ?_
    refine T_istore_n (lv' := [(1, .int (0 : Int32)), (0, .ref r0)]) rfl (Nat.le_of_ble_eq_true rfl) rfl dX4_homeBits_1 ?_
    refine T_iconst (0 : Int32) (by decide) dX4_homeBits_2 ?_
    refine T_istore_n (lv' := [(2, .int (0 : Int32)), (1, .int (0 : Int32)), (0, .ref r0)]) rfl (Nat.le_of_ble_eq_true rfl) rfl dX4_homeBits_3 ?_
    exact T_sub [2, 1, 0] rfl (tX4_homeBits_4 X r0 h0 FU ((0 : Int32), (0 : Int32), m)))
end
section
abbrev qX6_put : mMI := (yX6_put, cX6_put, 2, (some .int), 0)
theorem dX6_put_0 : decode cX6_put 0 = .ok (.aload_n 0, 1) := by decide +kernel
theorem dX6_put_1 : decode cX6_put 1 = .ok (.getfield 9, 3) := by decide +kernel
theorem dX6_put_4 : decode cX6_put 4 = .ok (.sipush 160, 3) := by decide +kernel
theorem dX6_put_7 : decode cX6_put 7 = .ok (.if_icmp .lt 6, 3) := by decide +kernel
theorem dX6_put_10 : decode cX6_put 10 = .ok (.bipush (-3), 2) := by decide +kernel
theorem dX6_put_12 : decode cX6_put 12 = .ok (.ireturn, 1) := by decide +kernel
theorem dX6_put_13 : decode cX6_put 13 = .ok (.aload_n 0, 1) := by decide +kernel
theorem dX6_put_14 : decode cX6_put 14 = .ok (.getfield 21, 3) := by decide +kernel
theorem dX6_put_17 : decode cX6_put 17 = .ok (.aload_n 0, 1) := by decide +kernel
theorem dX6_put_18 : decode cX6_put 18 = .ok (.getfield 9, 3) := by decide +kernel
theorem dX6_put_21 : decode cX6_put 21 = .ok (.iload_n 1, 1) := by decide +kernel
theorem dX6_put_22 : decode cX6_put 22 = .ok (.i2b, 1) := by decide +kernel
theorem dX6_put_23 : decode cX6_put 23 = .ok (.bastore, 1) := by decide +kernel
theorem dX6_put_24 : decode cX6_put 24 = .ok (.aload_n 0, 1) := by decide +kernel
theorem dX6_put_25 : decode cX6_put 25 = .ok (.dup, 1) := by decide +kernel
theorem dX6_put_26 : decode cX6_put 26 = .ok (.getfield 9, 3) := by decide +kernel
theorem dX6_put_29 : decode cX6_put 29 = .ok (.iconst 1, 1) := by decide +kernel
theorem dX6_put_30 : decode cX6_put 30 = .ok (.iadd, 1) := by decide +kernel
theorem dX6_put_31 : decode cX6_put 31 = .ok (.putfield 9, 3) := by decide +kernel
theorem dX6_put_34 : decode cX6_put 34 = .ok (.aload_n 0, 1) := by decide +kernel
theorem dX6_put_35 : decode cX6_put 35 = .ok (.getfield 9, 3) := by decide +kernel
theorem dX6_put_38 : decode cX6_put 38 = .ok (.ireturn, 1) := by decide +kernel
theorem mkX6_put : mokV qX6_put 1 := ⟨⟨⟨⟨by decide, by decide, by decide +kernel⟩, by decide⟩, gd_mem 52 (by decide +kernel) (by decide +kernel), gd_mem 344 (by decide +kernel) (by decide +kernel)⟩, gd_mem 342 (by decide +kernel) (by decide +kernel), gd_mem 343 (by decide +kernel) (by decide +kernel)⟩
abbrev qX6_hasLostFloor : mMI := (yX6_hasLostFloor, cX6_hasLostFloor, 2, (some .boolean), 0)
theorem dX6_hasLostFloor_0 : decode cX6_hasLostFloor 0 = .ok (.iconst 0, 1) := by decide +kernel
theorem dX6_hasLostFloor_1 : decode cX6_hasLostFloor 1 = .ok (.istore_n 1, 1) := by decide +kernel
theorem dX6_hasLostFloor_2 : decode cX6_hasLostFloor 2 = .ok (.iload_n 1, 1) := by decide +kernel
theorem dX6_hasLostFloor_3 : decode cX6_hasLostFloor 3 = .ok (.aload_n 0, 1) := by decide +kernel
theorem dX6_hasLostFloor_4 : decode cX6_hasLostFloor 4 = .ok (.getfield 68, 3) := by decide +kernel
theorem dX6_hasLostFloor_7 : decode cX6_hasLostFloor 7 = .ok (.if_icmp .ge 24, 3) := by decide +kernel
theorem dX6_hasLostFloor_10 : decode cX6_hasLostFloor 10 = .ok (.aload_n 0, 1) := by decide +kernel
theorem dX6_hasLostFloor_11 : decode cX6_hasLostFloor 11 = .ok (.getfield 71, 3) := by decide +kernel
theorem dX6_hasLostFloor_14 : decode cX6_hasLostFloor 14 = .ok (.iload_n 1, 1) := by decide +kernel
theorem dX6_hasLostFloor_15 : decode cX6_hasLostFloor 15 = .ok (.iaload, 1) := by decide +kernel
theorem dX6_hasLostFloor_16 : decode cX6_hasLostFloor 16 = .ok (.aload_n 0, 1) := by decide +kernel
theorem dX6_hasLostFloor_17 : decode cX6_hasLostFloor 17 = .ok (.getfield 74, 3) := by decide +kernel
theorem dX6_hasLostFloor_20 : decode cX6_hasLostFloor 20 = .ok (.if_icmp .lt 5, 3) := by decide +kernel
theorem dX6_hasLostFloor_23 : decode cX6_hasLostFloor 23 = .ok (.iconst 1, 1) := by decide +kernel
theorem dX6_hasLostFloor_24 : decode cX6_hasLostFloor 24 = .ok (.ireturn, 1) := by decide +kernel
theorem dX6_hasLostFloor_25 : decode cX6_hasLostFloor 25 = .ok (.iinc 1 1, 3) := by decide +kernel
theorem dX6_hasLostFloor_28 : decode cX6_hasLostFloor 28 = .ok (.goto (-26), 3) := by decide +kernel
theorem dX6_hasLostFloor_31 : decode cX6_hasLostFloor 31 = .ok (.iconst 0, 1) := by decide +kernel
theorem dX6_hasLostFloor_32 : decode cX6_hasLostFloor 32 = .ok (.ireturn, 1) := by decide +kernel
theorem mkX6_hasLostFloor : mokS qX6_hasLostFloor 1 := ⟨⟨⟨⟨by decide, by decide, by decide +kernel⟩, by decide⟩, gd_mem 52 (by decide +kernel) (by decide +kernel), gd_mem 474 (by decide +kernel) (by decide +kernel)⟩, gd_mem 473 (by decide +kernel) (by decide +kernel)⟩
abbrev qX6_kindOfByte : mMI := (yX6_kindOfByte, cX6_kindOfByte, 1, (some .int), 0)
theorem dX6_kindOfByte_0 : decode cX6_kindOfByte 0 = .ok (.iload_n 0, 1) := by decide +kernel
theorem dX6_kindOfByte_1 : decode cX6_kindOfByte 1 = .ok (.bipush 97, 2) := by decide +kernel
theorem dX6_kindOfByte_3 : decode cX6_kindOfByte 3 = .ok (.if_icmp .lt 11, 3) := by decide +kernel
theorem dX6_kindOfByte_6 : decode cX6_kindOfByte 6 = .ok (.iload_n 0, 1) := by decide +kernel
theorem dX6_kindOfByte_7 : decode cX6_kindOfByte 7 = .ok (.bipush 122, 2) := by decide +kernel
theorem dX6_kindOfByte_9 : decode cX6_kindOfByte 9 = .ok (.if_icmp .gt 5, 3) := by decide +kernel
theorem dX6_kindOfByte_12 : decode cX6_kindOfByte 12 = .ok (.iconst 1, 1) := by decide +kernel
theorem dX6_kindOfByte_13 : decode cX6_kindOfByte 13 = .ok (.ireturn, 1) := by decide +kernel
theorem dX6_kindOfByte_14 : decode cX6_kindOfByte 14 = .ok (.iload_n 0, 1) := by decide +kernel
theorem dX6_kindOfByte_15 : decode cX6_kindOfByte 15 = .ok (.bipush 48, 2) := by decide +kernel
theorem dX6_kindOfByte_17 : decode cX6_kindOfByte 17 = .ok (.if_icmp .lt 11, 3) := by decide +kernel
theorem dX6_kindOfByte_20 : decode cX6_kindOfByte 20 = .ok (.iload_n 0, 1) := by decide +kernel
theorem dX6_kindOfByte_21 : decode cX6_kindOfByte 21 = .ok (.bipush 57, 2) := by decide +kernel
theorem dX6_kindOfByte_23 : decode cX6_kindOfByte 23 = .ok (.if_icmp .gt 5, 3) := by decide +kernel
theorem dX6_kindOfByte_26 : decode cX6_kindOfByte 26 = .ok (.iconst 2, 1) := by decide +kernel
theorem dX6_kindOfByte_27 : decode cX6_kindOfByte 27 = .ok (.ireturn, 1) := by decide +kernel
theorem dX6_kindOfByte_28 : decode cX6_kindOfByte 28 = .ok (.iload_n 0, 1) := by decide +kernel
theorem dX6_kindOfByte_29 : decode cX6_kindOfByte 29 = .ok (.bipush 59, 2) := by decide +kernel
theorem dX6_kindOfByte_31 : decode cX6_kindOfByte 31 = .ok (.if_icmp .ne 7, 3) := by decide +kernel
theorem dX6_kindOfByte_34 : decode cX6_kindOfByte 34 = .ok (.iconst 3, 1) := by decide +kernel
theorem dX6_kindOfByte_35 : decode cX6_kindOfByte 35 = .ok (.goto 4, 3) := by decide +kernel
theorem dX6_kindOfByte_38 : decode cX6_kindOfByte 38 = .ok (.iconst 0, 1) := by decide +kernel
theorem dX6_kindOfByte_39 : decode cX6_kindOfByte 39 = .ok (.ireturn, 1) := by decide +kernel
theorem mkX6_kindOfByte : mokS qX6_kindOfByte 1 := ⟨⟨⟨⟨by decide, by decide, by decide +kernel⟩, by decide⟩, gd_mem 52 (by decide +kernel) (by decide +kernel), gd_mem 367 (by decide +kernel) (by decide +kernel)⟩, gd_mem 366 (by decide +kernel) (by decide +kernel)⟩
abbrev qX6_nameOfLine : mMI := (yX6_nameOfLine, cX6_nameOfLine, 1, (some (.object "java/lang/String")), 0)
theorem dX6_nameOfLine_0 : decode cX6_nameOfLine 0 = .ok (.iload_n 0, 1) := by decide +kernel
theorem dX6_nameOfLine_1 : decode cX6_nameOfLine 1 = .ok (.tableswitch 57 0 5 #[39, 42, 45, 48, 51, 54], 39) := by decide +kernel
theorem dX6_nameOfLine_40 : decode cX6_nameOfLine 40 = .ok (.ldc 134, 2) := by decide +kernel
theorem dX6_nameOfLine_42 : decode cX6_nameOfLine 42 = .ok (.areturn, 1) := by decide +kernel
theorem dX6_nameOfLine_43 : decode cX6_nameOfLine 43 = .ok (.ldc 136, 2) := by decide +kernel
theorem dX6_nameOfLine_45 : decode cX6_nameOfLine 45 = .ok (.areturn, 1) := by decide +kernel
theorem dX6_nameOfLine_46 : decode cX6_nameOfLine 46 = .ok (.ldc 138, 2) := by decide +kernel
theorem dX6_nameOfLine_48 : decode cX6_nameOfLine 48 = .ok (.areturn, 1) := by decide +kernel
theorem dX6_nameOfLine_49 : decode cX6_nameOfLine 49 = .ok (.ldc 140, 2) := by decide +kernel
theorem dX6_nameOfLine_51 : decode cX6_nameOfLine 51 = .ok (.areturn, 1) := by decide +kernel
theorem dX6_nameOfLine_52 : decode cX6_nameOfLine 52 = .ok (.ldc 142, 2) := by decide +kernel
theorem dX6_nameOfLine_54 : decode cX6_nameOfLine 54 = .ok (.areturn, 1) := by decide +kernel
theorem dX6_nameOfLine_55 : decode cX6_nameOfLine 55 = .ok (.ldc 144, 2) := by decide +kernel
theorem dX6_nameOfLine_57 : decode cX6_nameOfLine 57 = .ok (.areturn, 1) := by decide +kernel
theorem dX6_nameOfLine_58 : decode cX6_nameOfLine 58 = .ok (.ldc 146, 2) := by decide +kernel
theorem dX6_nameOfLine_60 : decode cX6_nameOfLine 60 = .ok (.areturn, 1) := by decide +kernel
theorem mkX6_nameOfLine : mokS qX6_nameOfLine 1 := ⟨⟨⟨⟨by decide, by decide, by decide +kernel⟩, by decide⟩, gd_mem 52 (by decide +kernel) (by decide +kernel), gd_mem 382 (by decide +kernel) (by decide +kernel)⟩, gd_mem 381 (by decide +kernel) (by decide +kernel)⟩
abbrev qX6_refuse : mMI := (yX6_refuse, cX6_refuse, 3, none, 0)
theorem dX6_refuse_0 : decode cX6_refuse 0 = .ok (.aload_n 0, 1) := by decide +kernel
theorem dX6_refuse_1 : decode cX6_refuse 1 = .ok (.iload_n 1, 1) := by decide +kernel
theorem dX6_refuse_2 : decode cX6_refuse 2 = .ok (.putfield 15, 3) := by decide +kernel
theorem dX6_refuse_5 : decode cX6_refuse 5 = .ok (.aload_n 0, 1) := by decide +kernel
theorem dX6_refuse_6 : decode cX6_refuse 6 = .ok (.iload_n 2, 1) := by decide +kernel
theorem dX6_refuse_7 : decode cX6_refuse 7 = .ok (.putfield 18, 3) := by decide +kernel
theorem dX6_refuse_10 : decode cX6_refuse 10 = .ok (.return_, 1) := by decide +kernel
theorem mkX6_refuse : mokV qX6_refuse 2 := ⟨⟨⟨⟨by decide, by decide, by decide +kernel⟩, by decide⟩, gd_mem 52 (by decide +kernel) (by decide +kernel), gd_mem 371 (by decide +kernel) (by decide +kernel)⟩, gd_mem 370 (by decide +kernel) (by decide +kernel), gd_mem 1 (by decide +kernel) (by decide +kernel)⟩
abbrev qX6_refuseOneTooMany : mMI := (yX6_refuseOneTooMany, cX6_refuseOneTooMany, 3, none, 1)
theorem dX6_refuseOneTooMany_0 : decode cX6_refuseOneTooMany 0 = .ok (.iload_n 2, 1) := by decide +kernel
theorem dX6_refuseOneTooMany_1 : decode cX6_refuseOneTooMany 1 = .ok (.iconst 5, 1) := by decide +kernel
theorem dX6_refuseOneTooMany_2 : decode cX6_refuseOneTooMany 2 = .ok (.if_icmp .ne 10, 3) := by decide +kernel
theorem dX6_refuseOneTooMany_5 : decode cX6_refuseOneTooMany 5 = .ok (.aload_n 0, 1) := by decide +kernel
theorem dX6_refuseOneTooMany_6 : decode cX6_refuseOneTooMany 6 = .ok (.getfield 38, 3) := by decide +kernel
theorem dX6_refuseOneTooMany_9 : decode cX6_refuseOneTooMany 9 = .ok (.ifCond .ne 16, 3) := by decide +kernel
theorem dX6_refuseOneTooMany_12 : decode cX6_refuseOneTooMany 12 = .ok (.iload_n 2, 1) := by decide +kernel
theorem dX6_refuseOneTooMany_13 : decode cX6_refuseOneTooMany 13 = .ok (.bipush 6, 2) := by decide +kernel
theorem dX6_refuseOneTooMany_15 : decode cX6_refuseOneTooMany 15 = .ok (.if_icmp .ne 22, 3) := by decide +kernel
theorem dX6_refuseOneTooMany_18 : decode cX6_refuseOneTooMany 18 = .ok (.aload_n 0, 1) := by decide +kernel
theorem dX6_refuseOneTooMany_19 : decode cX6_refuseOneTooMany 19 = .ok (.getfield 42, 3) := by decide +kernel
theorem dX6_refuseOneTooMany_22 : decode cX6_refuseOneTooMany 22 = .ok (.ifCond .eq 15, 3) := by decide +kernel
theorem dX6_refuseOneTooMany_25 : decode cX6_refuseOneTooMany 25 = .ok (.aload_n 0, 1) := by decide +kernel
theorem dX6_refuseOneTooMany_26 : decode cX6_refuseOneTooMany 26 = .ok (.iconst 4, 1) := by decide +kernel
theorem dX6_refuseOneTooMany_27 : decode cX6_refuseOneTooMany 27 = .ok (.aload_n 0, 1) := by decide +kernel
theorem dX6_refuseOneTooMany_28 : decode cX6_refuseOneTooMany 28 = .ok (.getfield 35, 3) := by decide +kernel
theorem dX6_refuseOneTooMany_31 : decode cX6_refuseOneTooMany 31 = .ok (.invokevirtual 64, 3) := by decide +kernel
theorem dX6_refuseOneTooMany_34 : decode cX6_refuseOneTooMany 34 = .ok (.goto 39, 3) := by decide +kernel
theorem dX6_refuseOneTooMany_37 : decode cX6_refuseOneTooMany 37 = .ok (.iload_n 2, 1) := by decide +kernel
theorem dX6_refuseOneTooMany_38 : decode cX6_refuseOneTooMany 38 = .ok (.iconst 4, 1) := by decide +kernel
theorem dX6_refuseOneTooMany_39 : decode cX6_refuseOneTooMany 39 = .ok (.if_icmp .ge 12, 3) := by decide +kernel
theorem dX6_refuseOneTooMany_42 : decode cX6_refuseOneTooMany 42 = .ok (.aload_n 1, 1) := by decide +kernel
theorem dX6_refuseOneTooMany_43 : decode cX6_refuseOneTooMany 43 = .ok (.getfield 74, 3) := by decide +kernel
theorem dX6_refuseOneTooMany_46 : decode cX6_refuseOneTooMany 46 = .ok (.bipush 10, 2) := by decide +kernel
theorem dX6_refuseOneTooMany_48 : decode cX6_refuseOneTooMany 48 = .ok (.if_icmp .ge 16, 3) := by decide +kernel
theorem dX6_refuseOneTooMany_51 : decode cX6_refuseOneTooMany 51 = .ok (.iload_n 2, 1) := by decide +kernel
theorem dX6_refuseOneTooMany_52 : decode cX6_refuseOneTooMany 52 = .ok (.iconst 4, 1) := by decide +kernel
theorem dX6_refuseOneTooMany_53 : decode cX6_refuseOneTooMany 53 = .ok (.if_icmp .ne 20, 3) := by decide +kernel
theorem dX6_refuseOneTooMany_56 : decode cX6_refuseOneTooMany 56 = .ok (.aload_n 1, 1) := by decide +kernel
theorem dX6_refuseOneTooMany_57 : decode cX6_refuseOneTooMany 57 = .ok (.getfield 68, 3) := by decide +kernel
theorem dX6_refuseOneTooMany_60 : decode cX6_refuseOneTooMany 60 = .ok (.iconst 4, 1) := by decide +kernel
theorem dX6_refuseOneTooMany_61 : decode cX6_refuseOneTooMany 61 = .ok (.if_icmp .lt 12, 3) := by decide +kernel
theorem dX6_refuseOneTooMany_64 : decode cX6_refuseOneTooMany 64 = .ok (.aload_n 0, 1) := by decide +kernel
theorem dX6_refuseOneTooMany_65 : decode cX6_refuseOneTooMany 65 = .ok (.iconst 5, 1) := by decide +kernel
theorem dX6_refuseOneTooMany_66 : decode cX6_refuseOneTooMany 66 = .ok (.aload_n 0, 1) := by decide +kernel
theorem dX6_refuseOneTooMany_67 : decode cX6_refuseOneTooMany 67 = .ok (.getfield 35, 3) := by decide +kernel
theorem dX6_refuseOneTooMany_70 : decode cX6_refuseOneTooMany 70 = .ok (.invokevirtual 64, 3) := by decide +kernel
theorem dX6_refuseOneTooMany_73 : decode cX6_refuseOneTooMany 73 = .ok (.return_, 1) := by decide +kernel
theorem mkX6_refuseOneTooMany : mokV qX6_refuseOneTooMany 2 := ⟨⟨⟨⟨by decide, by decide, by decide +kernel⟩, by decide⟩, gd_mem 52 (by decide +kernel) (by decide +kernel), gd_mem 445 (by decide +kernel) (by decide +kernel)⟩, gd_mem 444 (by decide +kernel) (by decide +kernel), gd_mem 5 (by decide +kernel) (by decide +kernel)⟩
abbrev qX6_takeNumber : mMI := (yX6_takeNumber, cX6_takeNumber, 5, none, 1)
theorem dX6_takeNumber_0 : decode cX6_takeNumber 0 = .ok (.aload_n 0, 1) := by decide +kernel
theorem dX6_takeNumber_1 : decode cX6_takeNumber 1 = .ok (.getfield 15, 3) := by decide +kernel
theorem dX6_takeNumber_4 : decode cX6_takeNumber 4 = .ok (.ifCond .eq 4, 3) := by decide +kernel
theorem dX6_takeNumber_7 : decode cX6_takeNumber 7 = .ok (.return_, 1) := by decide +kernel
theorem dX6_takeNumber_8 : decode cX6_takeNumber 8 = .ok (.aload_n 0, 1) := by decide +kernel
theorem dX6_takeNumber_9 : decode cX6_takeNumber 9 = .ok (.getfield 32, 3) := by decide +kernel
theorem dX6_takeNumber_12 : decode cX6_takeNumber 12 = .ok (.iconst 2, 1) := by decide +kernel
theorem dX6_takeNumber_13 : decode cX6_takeNumber 13 = .ok (.if_icmp .eq 13, 3) := by decide +kernel
theorem dX6_takeNumber_16 : decode cX6_takeNumber 16 = .ok (.aload_n 0, 1) := by decide +kernel
theorem dX6_takeNumber_17 : decode cX6_takeNumber 17 = .ok (.iconst 2, 1) := by decide +kernel
theorem dX6_takeNumber_18 : decode cX6_takeNumber 18 = .ok (.aload_n 0, 1) := by decide +kernel
theorem dX6_takeNumber_19 : decode cX6_takeNumber 19 = .ok (.getfield 35, 3) := by decide +kernel
theorem dX6_takeNumber_22 : decode cX6_takeNumber 22 = .ok (.invokevirtual 64, 3) := by decide +kernel
theorem dX6_takeNumber_25 : decode cX6_takeNumber 25 = .ok (.return_, 1) := by decide +kernel
theorem dX6_takeNumber_26 : decode cX6_takeNumber 26 = .ok (.iconst 0, 1) := by decide +kernel
theorem dX6_takeNumber_27 : decode cX6_takeNumber 27 = .ok (.istore_n 3, 1) := by decide +kernel
theorem dX6_takeNumber_28 : decode cX6_takeNumber 28 = .ok (.aload_n 0, 1) := by decide +kernel
theorem dX6_takeNumber_29 : decode cX6_takeNumber 29 = .ok (.getfield 35, 3) := by decide +kernel
theorem dX6_takeNumber_32 : decode cX6_takeNumber 32 = .ok (.istore 4, 2) := by decide +kernel
theorem dX6_takeNumber_34 : decode cX6_takeNumber 34 = .ok (.iload 4, 2) := by decide +kernel
theorem dX6_takeNumber_36 : decode cX6_takeNumber 36 = .ok (.aload_n 0, 1) := by decide +kernel
theorem dX6_takeNumber_37 : decode cX6_takeNumber 37 = .ok (.getfield 29, 3) := by decide +kernel
theorem dX6_takeNumber_40 : decode cX6_takeNumber 40 = .ok (.if_icmp .ge 25, 3) := by decide +kernel
theorem dX6_takeNumber_43 : decode cX6_takeNumber 43 = .ok (.iload_n 3, 1) := by decide +kernel
theorem dX6_takeNumber_44 : decode cX6_takeNumber 44 = .ok (.bipush 10, 2) := by decide +kernel
theorem dX6_takeNumber_46 : decode cX6_takeNumber 46 = .ok (.imul, 1) := by decide +kernel
theorem dX6_takeNumber_47 : decode cX6_takeNumber 47 = .ok (.aload_n 0, 1) := by decide +kernel
theorem dX6_takeNumber_48 : decode cX6_takeNumber 48 = .ok (.getfield 21, 3) := by decide +kernel
theorem dX6_takeNumber_51 : decode cX6_takeNumber 51 = .ok (.iload 4, 2) := by decide +kernel
theorem dX6_takeNumber_53 : decode cX6_takeNumber 53 = .ok (.baload, 1) := by decide +kernel
theorem dX6_takeNumber_54 : decode cX6_takeNumber 54 = .ok (.iadd, 1) := by decide +kernel
theorem dX6_takeNumber_55 : decode cX6_takeNumber 55 = .ok (.bipush 48, 2) := by decide +kernel
theorem dX6_takeNumber_57 : decode cX6_takeNumber 57 = .ok (.isub, 1) := by decide +kernel
theorem dX6_takeNumber_58 : decode cX6_takeNumber 58 = .ok (.istore_n 3, 1) := by decide +kernel
theorem dX6_takeNumber_59 : decode cX6_takeNumber 59 = .ok (.iinc 4 1, 3) := by decide +kernel
theorem dX6_takeNumber_62 : decode cX6_takeNumber 62 = .ok (.goto (-28), 3) := by decide +kernel
theorem dX6_takeNumber_65 : decode cX6_takeNumber 65 = .ok (.iload_n 1, 1) := by decide +kernel
theorem dX6_takeNumber_66 : decode cX6_takeNumber 66 = .ok (.iconst 4, 1) := by decide +kernel
theorem dX6_takeNumber_67 : decode cX6_takeNumber 67 = .ok (.imul, 1) := by decide +kernel
theorem dX6_takeNumber_68 : decode cX6_takeNumber 68 = .ok (.iload_n 2, 1) := by decide +kernel
theorem dX6_takeNumber_69 : decode cX6_takeNumber 69 = .ok (.iadd, 1) := by decide +kernel
theorem dX6_takeNumber_70 : decode cX6_takeNumber 70 = .ok (.istore 4, 2) := by decide +kernel
theorem dX6_takeNumber_72 : decode cX6_takeNumber 72 = .ok (.iload_n 3, 1) := by decide +kernel
theorem dX6_takeNumber_73 : decode cX6_takeNumber 73 = .ok (.getstatic 94, 3) := by decide +kernel
theorem dX6_takeNumber_76 : decode cX6_takeNumber 76 = .ok (.iload 4, 2) := by decide +kernel
theorem dX6_takeNumber_78 : decode cX6_takeNumber 78 = .ok (.iaload, 1) := by decide +kernel
theorem dX6_takeNumber_79 : decode cX6_takeNumber 79 = .ok (.if_icmp .lt 13, 3) := by decide +kernel
theorem dX6_takeNumber_82 : decode cX6_takeNumber 82 = .ok (.iload_n 3, 1) := by decide +kernel
theorem dX6_takeNumber_83 : decode cX6_takeNumber 83 = .ok (.getstatic 97, 3) := by decide +kernel
theorem dX6_takeNumber_86 : decode cX6_takeNumber 86 = .ok (.iload 4, 2) := by decide +kernel
theorem dX6_takeNumber_88 : decode cX6_takeNumber 88 = .ok (.iaload, 1) := by decide +kernel
theorem dX6_takeNumber_89 : decode cX6_takeNumber 89 = .ok (.if_icmp .le 12, 3) := by decide +kernel
theorem dX6_takeNumber_92 : decode cX6_takeNumber 92 = .ok (.aload_n 0, 1) := by decide +kernel
theorem dX6_takeNumber_93 : decode cX6_takeNumber 93 = .ok (.iconst 3, 1) := by decide +kernel
theorem dX6_takeNumber_94 : decode cX6_takeNumber 94 = .ok (.aload_n 0, 1) := by decide +kernel
theorem dX6_takeNumber_95 : decode cX6_takeNumber 95 = .ok (.getfield 35, 3) := by decide +kernel
theorem dX6_takeNumber_98 : decode cX6_takeNumber 98 = .ok (.invokevirtual 64, 3) := by decide +kernel
theorem dX6_takeNumber_101 : decode cX6_takeNumber 101 = .ok (.aload_n 0, 1) := by decide +kernel
theorem dX6_takeNumber_102 : decode cX6_takeNumber 102 = .ok (.getfield 25, 3) := by decide +kernel
theorem dX6_takeNumber_105 : decode cX6_takeNumber 105 = .ok (.iload_n 2, 1) := by decide +kernel
theorem dX6_takeNumber_106 : decode cX6_takeNumber 106 = .ok (.iload_n 3, 1) := by decide +kernel
theorem dX6_takeNumber_107 : decode cX6_takeNumber 107 = .ok (.iastore, 1) := by decide +kernel
theorem dX6_takeNumber_108 : decode cX6_takeNumber 108 = .ok (.return_, 1) := by decide +kernel
theorem mkX6_takeNumber : mokV qX6_takeNumber 2 := ⟨⟨⟨⟨by decide, by decide, by decide +kernel⟩, by decide⟩, gd_mem 52 (by decide +kernel) (by decide +kernel), gd_mem 451 (by decide +kernel) (by decide +kernel)⟩, gd_mem 450 (by decide +kernel) (by decide +kernel), gd_mem 6 (by decide +kernel) (by decide +kernel)⟩
abbrev qX6_tellLine : mMI := (yX6_tellLine, cX6_tellLine, 3, none, 1)
theorem dX6_tellLine_0 : decode cX6_tellLine 0 = .ok (.iload_n 2, 1) := by decide +kernel
theorem dX6_tellLine_1 : decode cX6_tellLine 1 = .ok (.tableswitch 94 4 6 #[27, 58, 76], 27) := by decide +kernel
theorem dX6_tellLine_28 : decode cX6_tellLine 28 = .ok (.aload_n 1, 1) := by decide +kernel
theorem dX6_tellLine_29 : decode cX6_tellLine 29 = .ok (.aload_n 0, 1) := by decide +kernel
theorem dX6_tellLine_30 : decode cX6_tellLine 30 = .ok (.getfield 25, 3) := by decide +kernel
theorem dX6_tellLine_33 : decode cX6_tellLine 33 = .ok (.iconst 0, 1) := by decide +kernel
theorem dX6_tellLine_34 : decode cX6_tellLine 34 = .ok (.iaload, 1) := by decide +kernel
theorem dX6_tellLine_35 : decode cX6_tellLine 35 = .ok (.aload_n 0, 1) := by decide +kernel
theorem dX6_tellLine_36 : decode cX6_tellLine 36 = .ok (.getfield 25, 3) := by decide +kernel
theorem dX6_tellLine_39 : decode cX6_tellLine 39 = .ok (.iconst 1, 1) := by decide +kernel
theorem dX6_tellLine_40 : decode cX6_tellLine 40 = .ok (.iaload, 1) := by decide +kernel
theorem dX6_tellLine_41 : decode cX6_tellLine 41 = .ok (.aload_n 0, 1) := by decide +kernel
theorem dX6_tellLine_42 : decode cX6_tellLine 42 = .ok (.getfield 25, 3) := by decide +kernel
theorem dX6_tellLine_45 : decode cX6_tellLine 45 = .ok (.iconst 2, 1) := by decide +kernel
theorem dX6_tellLine_46 : decode cX6_tellLine 46 = .ok (.iaload, 1) := by decide +kernel
theorem dX6_tellLine_47 : decode cX6_tellLine 47 = .ok (.aload_n 0, 1) := by decide +kernel
theorem dX6_tellLine_48 : decode cX6_tellLine 48 = .ok (.getfield 25, 3) := by decide +kernel
theorem dX6_tellLine_51 : decode cX6_tellLine 51 = .ok (.iconst 3, 1) := by decide +kernel
theorem dX6_tellLine_52 : decode cX6_tellLine 52 = .ok (.iaload, 1) := by decide +kernel
theorem dX6_tellLine_53 : decode cX6_tellLine 53 = .ok (.invokevirtual 100, 3) := by decide +kernel
theorem dX6_tellLine_56 : decode cX6_tellLine 56 = .ok (.goto 56, 3) := by decide +kernel
theorem dX6_tellLine_59 : decode cX6_tellLine 59 = .ok (.aload_n 1, 1) := by decide +kernel
theorem dX6_tellLine_60 : decode cX6_tellLine 60 = .ok (.aload_n 0, 1) := by decide +kernel
theorem dX6_tellLine_61 : decode cX6_tellLine 61 = .ok (.getfield 25, 3) := by decide +kernel
theorem dX6_tellLine_64 : decode cX6_tellLine 64 = .ok (.iconst 0, 1) := by decide +kernel
theorem dX6_tellLine_65 : decode cX6_tellLine 65 = .ok (.iaload, 1) := by decide +kernel
theorem dX6_tellLine_66 : decode cX6_tellLine 66 = .ok (.putfield 104, 3) := by decide +kernel
theorem dX6_tellLine_69 : decode cX6_tellLine 69 = .ok (.aload_n 0, 1) := by decide +kernel
theorem dX6_tellLine_70 : decode cX6_tellLine 70 = .ok (.iconst 1, 1) := by decide +kernel
theorem dX6_tellLine_71 : decode cX6_tellLine 71 = .ok (.putfield 38, 3) := by decide +kernel
theorem dX6_tellLine_74 : decode cX6_tellLine 74 = .ok (.goto 38, 3) := by decide +kernel
theorem dX6_tellLine_77 : decode cX6_tellLine 77 = .ok (.aload_n 1, 1) := by decide +kernel
theorem dX6_tellLine_78 : decode cX6_tellLine 78 = .ok (.aload_n 0, 1) := by decide +kernel
theorem dX6_tellLine_79 : decode cX6_tellLine 79 = .ok (.getfield 25, 3) := by decide +kernel
theorem dX6_tellLine_82 : decode cX6_tellLine 82 = .ok (.iconst 0, 1) := by decide +kernel
theorem dX6_tellLine_83 : decode cX6_tellLine 83 = .ok (.iaload, 1) := by decide +kernel
theorem dX6_tellLine_84 : decode cX6_tellLine 84 = .ok (.putfield 107, 3) := by decide +kernel
theorem dX6_tellLine_87 : decode cX6_tellLine 87 = .ok (.aload_n 0, 1) := by decide +kernel
theorem dX6_tellLine_88 : decode cX6_tellLine 88 = .ok (.iconst 1, 1) := by decide +kernel
theorem dX6_tellLine_89 : decode cX6_tellLine 89 = .ok (.putfield 42, 3) := by decide +kernel
theorem dX6_tellLine_92 : decode cX6_tellLine 92 = .ok (.goto 20, 3) := by decide +kernel
theorem dX6_tellLine_95 : decode cX6_tellLine 95 = .ok (.aload_n 1, 1) := by decide +kernel
theorem dX6_tellLine_96 : decode cX6_tellLine 96 = .ok (.iload_n 2, 1) := by decide +kernel
theorem dX6_tellLine_97 : decode cX6_tellLine 97 = .ok (.aload_n 0, 1) := by decide +kernel
theorem dX6_tellLine_98 : decode cX6_tellLine 98 = .ok (.getfield 25, 3) := by decide +kernel
theorem dX6_tellLine_101 : decode cX6_tellLine 101 = .ok (.iconst 0, 1) := by decide +kernel
theorem dX6_tellLine_102 : decode cX6_tellLine 102 = .ok (.iaload, 1) := by decide +kernel
theorem dX6_tellLine_103 : decode cX6_tellLine 103 = .ok (.aload_n 0, 1) := by decide +kernel
theorem dX6_tellLine_104 : decode cX6_tellLine 104 = .ok (.getfield 25, 3) := by decide +kernel
theorem dX6_tellLine_107 : decode cX6_tellLine 107 = .ok (.iconst 1, 1) := by decide +kernel
theorem dX6_tellLine_108 : decode cX6_tellLine 108 = .ok (.iaload, 1) := by decide +kernel
theorem dX6_tellLine_109 : decode cX6_tellLine 109 = .ok (.invokevirtual 110, 3) := by decide +kernel
theorem dX6_tellLine_112 : decode cX6_tellLine 112 = .ok (.return_, 1) := by decide +kernel
theorem mkX6_tellLine : mokV qX6_tellLine 2 := ⟨⟨⟨⟨by decide, by decide, by decide +kernel⟩, by decide⟩, gd_mem 52 (by decide +kernel) (by decide +kernel), gd_mem 463 (by decide +kernel) (by decide +kernel)⟩, gd_mem 462 (by decide +kernel) (by decide +kernel), gd_mem 8 (by decide +kernel) (by decide +kernel)⟩
abbrev qX6_takeToken : mMI := (yX6_takeToken, cX6_takeToken, 1, none, 1)
theorem dX6_takeToken_0 : decode cX6_takeToken 0 = .ok (.aload_n 0, 1) := by decide +kernel
theorem dX6_takeToken_1 : decode cX6_takeToken 1 = .ok (.getfield 29, 3) := by decide +kernel
theorem dX6_takeToken_4 : decode cX6_takeToken 4 = .ok (.aload_n 0, 1) := by decide +kernel
theorem dX6_takeToken_5 : decode cX6_takeToken 5 = .ok (.getfield 9, 3) := by decide +kernel
theorem dX6_takeToken_8 : decode cX6_takeToken 8 = .ok (.if_icmp .ge 30, 3) := by decide +kernel
theorem dX6_takeToken_11 : decode cX6_takeToken 11 = .ok (.aload_n 0, 1) := by decide +kernel
theorem dX6_takeToken_12 : decode cX6_takeToken 12 = .ok (.getfield 21, 3) := by decide +kernel
theorem dX6_takeToken_15 : decode cX6_takeToken 15 = .ok (.aload_n 0, 1) := by decide +kernel
theorem dX6_takeToken_16 : decode cX6_takeToken 16 = .ok (.getfield 29, 3) := by decide +kernel
theorem dX6_takeToken_19 : decode cX6_takeToken 19 = .ok (.baload, 1) := by decide +kernel
theorem dX6_takeToken_20 : decode cX6_takeToken 20 = .ok (.bipush 32, 2) := by decide +kernel
theorem dX6_takeToken_22 : decode cX6_takeToken 22 = .ok (.if_icmp .ne 16, 3) := by decide +kernel
theorem dX6_takeToken_25 : decode cX6_takeToken 25 = .ok (.aload_n 0, 1) := by decide +kernel
theorem dX6_takeToken_26 : decode cX6_takeToken 26 = .ok (.dup, 1) := by decide +kernel
theorem dX6_takeToken_27 : decode cX6_takeToken 27 = .ok (.getfield 29, 3) := by decide +kernel
theorem dX6_takeToken_30 : decode cX6_takeToken 30 = .ok (.iconst 1, 1) := by decide +kernel
theorem dX6_takeToken_31 : decode cX6_takeToken 31 = .ok (.iadd, 1) := by decide +kernel
theorem dX6_takeToken_32 : decode cX6_takeToken 32 = .ok (.putfield 29, 3) := by decide +kernel
theorem dX6_takeToken_35 : decode cX6_takeToken 35 = .ok (.goto (-35), 3) := by decide +kernel
theorem dX6_takeToken_38 : decode cX6_takeToken 38 = .ok (.aload_n 0, 1) := by decide +kernel
theorem dX6_takeToken_39 : decode cX6_takeToken 39 = .ok (.aload_n 0, 1) := by decide +kernel
theorem dX6_takeToken_40 : decode cX6_takeToken 40 = .ok (.getfield 29, 3) := by decide +kernel
theorem dX6_takeToken_43 : decode cX6_takeToken 43 = .ok (.putfield 35, 3) := by decide +kernel
theorem dX6_takeToken_46 : decode cX6_takeToken 46 = .ok (.aload_n 0, 1) := by decide +kernel
theorem dX6_takeToken_47 : decode cX6_takeToken 47 = .ok (.aload_n 0, 1) := by decide +kernel
theorem dX6_takeToken_48 : decode cX6_takeToken 48 = .ok (.getfield 29, 3) := by decide +kernel
theorem dX6_takeToken_51 : decode cX6_takeToken 51 = .ok (.aload_n 0, 1) := by decide +kernel
theorem dX6_takeToken_52 : decode cX6_takeToken 52 = .ok (.getfield 9, 3) := by decide +kernel
theorem dX6_takeToken_55 : decode cX6_takeToken 55 = .ok (.if_icmp .ge 18, 3) := by decide +kernel
theorem dX6_takeToken_58 : decode cX6_takeToken 58 = .ok (.aload_n 0, 1) := by decide +kernel
theorem dX6_takeToken_59 : decode cX6_takeToken 59 = .ok (.getfield 21, 3) := by decide +kernel
theorem dX6_takeToken_62 : decode cX6_takeToken 62 = .ok (.aload_n 0, 1) := by decide +kernel
theorem dX6_takeToken_63 : decode cX6_takeToken 63 = .ok (.getfield 29, 3) := by decide +kernel
theorem dX6_takeToken_66 : decode cX6_takeToken 66 = .ok (.baload, 1) := by decide +kernel
theorem dX6_takeToken_67 : decode cX6_takeToken 67 = .ok (.invokestatic 114, 3) := by decide +kernel
theorem dX6_takeToken_70 : decode cX6_takeToken 70 = .ok (.goto 4, 3) := by decide +kernel
theorem dX6_takeToken_73 : decode cX6_takeToken 73 = .ok (.iconst 4, 1) := by decide +kernel
theorem dX6_takeToken_74 : decode cX6_takeToken 74 = .ok (.putfield 32, 3) := by decide +kernel
theorem dX6_takeToken_77 : decode cX6_takeToken 77 = .ok (.aload_n 0, 1) := by decide +kernel
theorem dX6_takeToken_78 : decode cX6_takeToken 78 = .ok (.getfield 32, 3) := by decide +kernel
theorem dX6_takeToken_81 : decode cX6_takeToken 81 = .ok (.ifCond .ne 15, 3) := by decide +kernel
theorem dX6_takeToken_84 : decode cX6_takeToken 84 = .ok (.aload_n 0, 1) := by decide +kernel
theorem dX6_takeToken_85 : decode cX6_takeToken 85 = .ok (.iconst 1, 1) := by decide +kernel
theorem dX6_takeToken_86 : decode cX6_takeToken 86 = .ok (.aload_n 0, 1) := by decide +kernel
theorem dX6_takeToken_87 : decode cX6_takeToken 87 = .ok (.getfield 35, 3) := by decide +kernel
theorem dX6_takeToken_90 : decode cX6_takeToken 90 = .ok (.invokevirtual 64, 3) := by decide +kernel
theorem dX6_takeToken_93 : decode cX6_takeToken 93 = .ok (.goto 105, 3) := by decide +kernel
theorem dX6_takeToken_96 : decode cX6_takeToken 96 = .ok (.aload_n 0, 1) := by decide +kernel
theorem dX6_takeToken_97 : decode cX6_takeToken 97 = .ok (.getfield 32, 3) := by decide +kernel
theorem dX6_takeToken_100 : decode cX6_takeToken 100 = .ok (.iconst 3, 1) := by decide +kernel
theorem dX6_takeToken_101 : decode cX6_takeToken 101 = .ok (.if_icmp .ne 16, 3) := by decide +kernel
theorem dX6_takeToken_104 : decode cX6_takeToken 104 = .ok (.aload_n 0, 1) := by decide +kernel
theorem dX6_takeToken_105 : decode cX6_takeToken 105 = .ok (.dup, 1) := by decide +kernel
theorem dX6_takeToken_106 : decode cX6_takeToken 106 = .ok (.getfield 29, 3) := by decide +kernel
theorem dX6_takeToken_109 : decode cX6_takeToken 109 = .ok (.iconst 1, 1) := by decide +kernel
theorem dX6_takeToken_110 : decode cX6_takeToken 110 = .ok (.iadd, 1) := by decide +kernel
theorem dX6_takeToken_111 : decode cX6_takeToken 111 = .ok (.putfield 29, 3) := by decide +kernel
theorem dX6_takeToken_114 : decode cX6_takeToken 114 = .ok (.goto 84, 3) := by decide +kernel
theorem dX6_takeToken_117 : decode cX6_takeToken 117 = .ok (.aload_n 0, 1) := by decide +kernel
theorem dX6_takeToken_118 : decode cX6_takeToken 118 = .ok (.getfield 32, 3) := by decide +kernel
theorem dX6_takeToken_121 : decode cX6_takeToken 121 = .ok (.iconst 4, 1) := by decide +kernel
theorem dX6_takeToken_122 : decode cX6_takeToken 122 = .ok (.if_icmp .eq 76, 3) := by decide +kernel
theorem dX6_takeToken_125 : decode cX6_takeToken 125 = .ok (.aload_n 0, 1) := by decide +kernel
theorem dX6_takeToken_126 : decode cX6_takeToken 126 = .ok (.getfield 29, 3) := by decide +kernel
theorem dX6_takeToken_129 : decode cX6_takeToken 129 = .ok (.aload_n 0, 1) := by decide +kernel
theorem dX6_takeToken_130 : decode cX6_takeToken 130 = .ok (.getfield 9, 3) := by decide +kernel
theorem dX6_takeToken_133 : decode cX6_takeToken 133 = .ok (.if_icmp .ge 35, 3) := by decide +kernel
theorem dX6_takeToken_136 : decode cX6_takeToken 136 = .ok (.aload_n 0, 1) := by decide +kernel
theorem dX6_takeToken_137 : decode cX6_takeToken 137 = .ok (.getfield 21, 3) := by decide +kernel
theorem dX6_takeToken_140 : decode cX6_takeToken 140 = .ok (.aload_n 0, 1) := by decide +kernel
theorem dX6_takeToken_141 : decode cX6_takeToken 141 = .ok (.getfield 29, 3) := by decide +kernel
theorem dX6_takeToken_144 : decode cX6_takeToken 144 = .ok (.baload, 1) := by decide +kernel
theorem dX6_takeToken_145 : decode cX6_takeToken 145 = .ok (.invokestatic 114, 3) := by decide +kernel
theorem dX6_takeToken_148 : decode cX6_takeToken 148 = .ok (.aload_n 0, 1) := by decide +kernel
theorem dX6_takeToken_149 : decode cX6_takeToken 149 = .ok (.getfield 32, 3) := by decide +kernel
theorem dX6_takeToken_152 : decode cX6_takeToken 152 = .ok (.if_icmp .ne 16, 3) := by decide +kernel
theorem dX6_takeToken_155 : decode cX6_takeToken 155 = .ok (.aload_n 0, 1) := by decide +kernel
theorem dX6_takeToken_156 : decode cX6_takeToken 156 = .ok (.dup, 1) := by decide +kernel
theorem dX6_takeToken_157 : decode cX6_takeToken 157 = .ok (.getfield 29, 3) := by decide +kernel
theorem dX6_takeToken_160 : decode cX6_takeToken 160 = .ok (.iconst 1, 1) := by decide +kernel
theorem dX6_takeToken_161 : decode cX6_takeToken 161 = .ok (.iadd, 1) := by decide +kernel
theorem dX6_takeToken_162 : decode cX6_takeToken 162 = .ok (.putfield 29, 3) := by decide +kernel
theorem dX6_takeToken_165 : decode cX6_takeToken 165 = .ok (.goto (-40), 3) := by decide +kernel
theorem dX6_takeToken_168 : decode cX6_takeToken 168 = .ok (.aload_n 0, 1) := by decide +kernel
theorem dX6_takeToken_169 : decode cX6_takeToken 169 = .ok (.getfield 32, 3) := by decide +kernel
theorem dX6_takeToken_172 : decode cX6_takeToken 172 = .ok (.iconst 2, 1) := by decide +kernel
theorem dX6_takeToken_173 : decode cX6_takeToken 173 = .ok (.if_icmp .ne 25, 3) := by decide +kernel
theorem dX6_takeToken_176 : decode cX6_takeToken 176 = .ok (.aload_n 0, 1) := by decide +kernel
theorem dX6_takeToken_177 : decode cX6_takeToken 177 = .ok (.getfield 29, 3) := by decide +kernel
theorem dX6_takeToken_180 : decode cX6_takeToken 180 = .ok (.aload_n 0, 1) := by decide +kernel
theorem dX6_takeToken_181 : decode cX6_takeToken 181 = .ok (.getfield 35, 3) := by decide +kernel
theorem dX6_takeToken_184 : decode cX6_takeToken 184 = .ok (.isub, 1) := by decide +kernel
theorem dX6_takeToken_185 : decode cX6_takeToken 185 = .ok (.iconst 2, 1) := by decide +kernel
theorem dX6_takeToken_186 : decode cX6_takeToken 186 = .ok (.if_icmp .le 12, 3) := by decide +kernel
theorem dX6_takeToken_189 : decode cX6_takeToken 189 = .ok (.aload_n 0, 1) := by decide +kernel
theorem dX6_takeToken_190 : decode cX6_takeToken 190 = .ok (.iconst 1, 1) := by decide +kernel
theorem dX6_takeToken_191 : decode cX6_takeToken 191 = .ok (.aload_n 0, 1) := by decide +kernel
theorem dX6_takeToken_192 : decode cX6_takeToken 192 = .ok (.getfield 35, 3) := by decide +kernel
theorem dX6_takeToken_195 : decode cX6_takeToken 195 = .ok (.invokevirtual 64, 3) := by decide +kernel
theorem dX6_takeToken_198 : decode cX6_takeToken 198 = .ok (.return_, 1) := by decide +kernel
theorem mkX6_takeToken : mokV qX6_takeToken 0 := ⟨⟨⟨⟨by decide, by decide, by decide +kernel⟩, by decide⟩, gd_mem 52 (by decide +kernel) (by decide +kernel), gd_mem 364 (by decide +kernel) (by decide +kernel)⟩, gd_mem 363 (by decide +kernel) (by decide +kernel), gd_mem 0 (by decide +kernel) (by decide +kernel)⟩
abbrev qX6_takeTokenIfSound : mMI := (yX6_takeTokenIfSound, cX6_takeTokenIfSound, 1, none, 2)
theorem dX6_takeTokenIfSound_0 : decode cX6_takeTokenIfSound 0 = .ok (.aload_n 0, 1) := by decide +kernel
theorem dX6_takeTokenIfSound_1 : decode cX6_takeTokenIfSound 1 = .ok (.getfield 15, 3) := by decide +kernel
theorem dX6_takeTokenIfSound_4 : decode cX6_takeTokenIfSound 4 = .ok (.ifCond .ne 7, 3) := by decide +kernel
theorem dX6_takeTokenIfSound_7 : decode cX6_takeTokenIfSound 7 = .ok (.aload_n 0, 1) := by decide +kernel
theorem dX6_takeTokenIfSound_8 : decode cX6_takeTokenIfSound 8 = .ok (.invokevirtual 50, 3) := by decide +kernel
theorem dX6_takeTokenIfSound_11 : decode cX6_takeTokenIfSound 11 = .ok (.return_, 1) := by decide +kernel
theorem mkX6_takeTokenIfSound : mokV qX6_takeTokenIfSound 0 := ⟨⟨⟨⟨by decide, by decide, by decide +kernel⟩, by decide⟩, gd_mem 52 (by decide +kernel) (by decide +kernel), gd_mem 459 (by decide +kernel) (by decide +kernel)⟩, gd_mem 458 (by decide +kernel) (by decide +kernel), gd_mem 7 (by decide +kernel) (by decide +kernel)⟩
abbrev qX6_isTokenNamed : mMI := (yX6_isTokenNamed, cX6_isTokenNamed, 3, (some .boolean), 5)
theorem dX6_isTokenNamed_0 : decode cX6_isTokenNamed 0 = .ok (.aload_n 0, 1) := by decide +kernel
theorem dX6_isTokenNamed_1 : decode cX6_isTokenNamed 1 = .ok (.getfield 29, 3) := by decide +kernel
theorem dX6_isTokenNamed_4 : decode cX6_isTokenNamed 4 = .ok (.aload_n 0, 1) := by decide +kernel
theorem dX6_isTokenNamed_5 : decode cX6_isTokenNamed 5 = .ok (.getfield 35, 3) := by decide +kernel
theorem dX6_isTokenNamed_8 : decode cX6_isTokenNamed 8 = .ok (.isub, 1) := by decide +kernel
theorem dX6_isTokenNamed_9 : decode cX6_isTokenNamed 9 = .ok (.aload_n 1, 1) := by decide +kernel
theorem dX6_isTokenNamed_10 : decode cX6_isTokenNamed 10 = .ok (.invokevirtual 126, 3) := by decide +kernel
theorem dX6_isTokenNamed_13 : decode cX6_isTokenNamed 13 = .ok (.if_icmp .eq 5, 3) := by decide +kernel
theorem dX6_isTokenNamed_16 : decode cX6_isTokenNamed 16 = .ok (.iconst 0, 1) := by decide +kernel
theorem dX6_isTokenNamed_17 : decode cX6_isTokenNamed 17 = .ok (.ireturn, 1) := by decide +kernel
theorem dX6_isTokenNamed_18 : decode cX6_isTokenNamed 18 = .ok (.iconst 0, 1) := by decide +kernel
theorem dX6_isTokenNamed_19 : decode cX6_isTokenNamed 19 = .ok (.istore_n 2, 1) := by decide +kernel
theorem dX6_isTokenNamed_20 : decode cX6_isTokenNamed 20 = .ok (.iload_n 2, 1) := by decide +kernel
theorem dX6_isTokenNamed_21 : decode cX6_isTokenNamed 21 = .ok (.aload_n 1, 1) := by decide +kernel
theorem dX6_isTokenNamed_22 : decode cX6_isTokenNamed 22 = .ok (.invokevirtual 126, 3) := by decide +kernel
theorem dX6_isTokenNamed_25 : decode cX6_isTokenNamed 25 = .ok (.if_icmp .ge 30, 3) := by decide +kernel
theorem dX6_isTokenNamed_28 : decode cX6_isTokenNamed 28 = .ok (.aload_n 0, 1) := by decide +kernel
theorem dX6_isTokenNamed_29 : decode cX6_isTokenNamed 29 = .ok (.getfield 21, 3) := by decide +kernel
theorem dX6_isTokenNamed_32 : decode cX6_isTokenNamed 32 = .ok (.aload_n 0, 1) := by decide +kernel
theorem dX6_isTokenNamed_33 : decode cX6_isTokenNamed 33 = .ok (.getfield 35, 3) := by decide +kernel
theorem dX6_isTokenNamed_36 : decode cX6_isTokenNamed 36 = .ok (.iload_n 2, 1) := by decide +kernel
theorem dX6_isTokenNamed_37 : decode cX6_isTokenNamed 37 = .ok (.iadd, 1) := by decide +kernel
theorem dX6_isTokenNamed_38 : decode cX6_isTokenNamed 38 = .ok (.baload, 1) := by decide +kernel
theorem dX6_isTokenNamed_39 : decode cX6_isTokenNamed 39 = .ok (.aload_n 1, 1) := by decide +kernel
theorem dX6_isTokenNamed_40 : decode cX6_isTokenNamed 40 = .ok (.iload_n 2, 1) := by decide +kernel
theorem dX6_isTokenNamed_41 : decode cX6_isTokenNamed 41 = .ok (.invokevirtual 130, 3) := by decide +kernel
theorem dX6_isTokenNamed_44 : decode cX6_isTokenNamed 44 = .ok (.if_icmp .eq 5, 3) := by decide +kernel
theorem dX6_isTokenNamed_47 : decode cX6_isTokenNamed 47 = .ok (.iconst 0, 1) := by decide +kernel
theorem dX6_isTokenNamed_48 : decode cX6_isTokenNamed 48 = .ok (.ireturn, 1) := by decide +kernel
theorem dX6_isTokenNamed_49 : decode cX6_isTokenNamed 49 = .ok (.iinc 2 1, 3) := by decide +kernel
theorem dX6_isTokenNamed_52 : decode cX6_isTokenNamed 52 = .ok (.goto (-32), 3) := by decide +kernel
theorem dX6_isTokenNamed_55 : decode cX6_isTokenNamed 55 = .ok (.iconst 1, 1) := by decide +kernel
theorem dX6_isTokenNamed_56 : decode cX6_isTokenNamed 56 = .ok (.ireturn, 1) := by decide +kernel
theorem mkX6_isTokenNamed : mokV qX6_isTokenNamed 1 := ⟨⟨⟨⟨by decide, by decide, by decide +kernel⟩, by decide⟩, gd_mem 52 (by decide +kernel) (by decide +kernel), gd_mem 393 (by decide +kernel) (by decide +kernel)⟩, gd_mem 392 (by decide +kernel) (by decide +kernel), gd_mem 4 (by decide +kernel) (by decide +kernel)⟩
abbrev qX6_lineOfName : mMI := (yX6_lineOfName, cX6_lineOfName, 2, (some .int), 6)
theorem dX6_lineOfName_0 : decode cX6_lineOfName 0 = .ok (.iconst 0, 1) := by decide +kernel
theorem dX6_lineOfName_1 : decode cX6_lineOfName 1 = .ok (.istore_n 1, 1) := by decide +kernel
theorem dX6_lineOfName_2 : decode cX6_lineOfName 2 = .ok (.iload_n 1, 1) := by decide +kernel
theorem dX6_lineOfName_3 : decode cX6_lineOfName 3 = .ok (.bipush 7, 2) := by decide +kernel
theorem dX6_lineOfName_5 : decode cX6_lineOfName 5 = .ok (.if_icmp .ge 22, 3) := by decide +kernel
theorem dX6_lineOfName_8 : decode cX6_lineOfName 8 = .ok (.aload_n 0, 1) := by decide +kernel
theorem dX6_lineOfName_9 : decode cX6_lineOfName 9 = .ok (.iload_n 1, 1) := by decide +kernel
theorem dX6_lineOfName_10 : decode cX6_lineOfName 10 = .ok (.invokestatic 118, 3) := by decide +kernel
theorem dX6_lineOfName_13 : decode cX6_lineOfName 13 = .ok (.invokevirtual 122, 3) := by decide +kernel
theorem dX6_lineOfName_16 : decode cX6_lineOfName 16 = .ok (.ifCond .eq 5, 3) := by decide +kernel
theorem dX6_lineOfName_19 : decode cX6_lineOfName 19 = .ok (.iload_n 1, 1) := by decide +kernel
theorem dX6_lineOfName_20 : decode cX6_lineOfName 20 = .ok (.ireturn, 1) := by decide +kernel
theorem dX6_lineOfName_21 : decode cX6_lineOfName 21 = .ok (.iinc 1 1, 3) := by decide +kernel
theorem dX6_lineOfName_24 : decode cX6_lineOfName 24 = .ok (.goto (-22), 3) := by decide +kernel
theorem dX6_lineOfName_27 : decode cX6_lineOfName 27 = .ok (.bipush 7, 2) := by decide +kernel
theorem dX6_lineOfName_29 : decode cX6_lineOfName 29 = .ok (.ireturn, 1) := by decide +kernel
theorem mkX6_lineOfName : mokV qX6_lineOfName 0 := ⟨⟨⟨⟨by decide, by decide, by decide +kernel⟩, by decide⟩, gd_mem 52 (by decide +kernel) (by decide +kernel), gd_mem 379 (by decide +kernel) (by decide +kernel)⟩, gd_mem 378 (by decide +kernel) (by decide +kernel), gd_mem 3 (by decide +kernel) (by decide +kernel)⟩
abbrev qX6_takeLine : mMI := (yX6_takeLine, cX6_takeLine, 4, none, 7)
theorem dX6_takeLine_0 : decode cX6_takeLine 0 = .ok (.aload_n 0, 1) := by decide +kernel
theorem dX6_takeLine_1 : decode cX6_takeLine 1 = .ok (.getfield 32, 3) := by decide +kernel
theorem dX6_takeLine_4 : decode cX6_takeLine 4 = .ok (.iconst 1, 1) := by decide +kernel
theorem dX6_takeLine_5 : decode cX6_takeLine 5 = .ok (.if_icmp .ne 10, 3) := by decide +kernel
theorem dX6_takeLine_8 : decode cX6_takeLine 8 = .ok (.aload_n 0, 1) := by decide +kernel
theorem dX6_takeLine_9 : decode cX6_takeLine 9 = .ok (.invokevirtual 77, 3) := by decide +kernel
theorem dX6_takeLine_12 : decode cX6_takeLine 12 = .ok (.goto 5, 3) := by decide +kernel
theorem dX6_takeLine_15 : decode cX6_takeLine 15 = .ok (.bipush 7, 2) := by decide +kernel
theorem dX6_takeLine_17 : decode cX6_takeLine 17 = .ok (.istore_n 2, 1) := by decide +kernel
theorem dX6_takeLine_18 : decode cX6_takeLine 18 = .ok (.iload_n 2, 1) := by decide +kernel
theorem dX6_takeLine_19 : decode cX6_takeLine 19 = .ok (.bipush 7, 2) := by decide +kernel
theorem dX6_takeLine_21 : decode cX6_takeLine 21 = .ok (.if_icmp .lt 13, 3) := by decide +kernel
theorem dX6_takeLine_24 : decode cX6_takeLine 24 = .ok (.aload_n 0, 1) := by decide +kernel
theorem dX6_takeLine_25 : decode cX6_takeLine 25 = .ok (.iconst 2, 1) := by decide +kernel
theorem dX6_takeLine_26 : decode cX6_takeLine 26 = .ok (.aload_n 0, 1) := by decide +kernel
theorem dX6_takeLine_27 : decode cX6_takeLine 27 = .ok (.getfield 35, 3) := by decide +kernel
theorem dX6_takeLine_30 : decode cX6_takeLine 30 = .ok (.invokevirtual 64, 3) := by decide +kernel
theorem dX6_takeLine_33 : decode cX6_takeLine 33 = .ok (.return_, 1) := by decide +kernel
theorem dX6_takeLine_34 : decode cX6_takeLine 34 = .ok (.aload_n 0, 1) := by decide +kernel
theorem dX6_takeLine_35 : decode cX6_takeLine 35 = .ok (.aload_n 1, 1) := by decide +kernel
theorem dX6_takeLine_36 : decode cX6_takeLine 36 = .ok (.iload_n 2, 1) := by decide +kernel
theorem dX6_takeLine_37 : decode cX6_takeLine 37 = .ok (.invokevirtual 81, 3) := by decide +kernel
theorem dX6_takeLine_40 : decode cX6_takeLine 40 = .ok (.iconst 0, 1) := by decide +kernel
theorem dX6_takeLine_41 : decode cX6_takeLine 41 = .ok (.istore_n 3, 1) := by decide +kernel
theorem dX6_takeLine_42 : decode cX6_takeLine 42 = .ok (.iload_n 3, 1) := by decide +kernel
theorem dX6_takeLine_43 : decode cX6_takeLine 43 = .ok (.getstatic 85, 3) := by decide +kernel
theorem dX6_takeLine_46 : decode cX6_takeLine 46 = .ok (.iload_n 2, 1) := by decide +kernel
theorem dX6_takeLine_47 : decode cX6_takeLine 47 = .ok (.iaload, 1) := by decide +kernel
theorem dX6_takeLine_48 : decode cX6_takeLine 48 = .ok (.if_icmp .ge 26, 3) := by decide +kernel
theorem dX6_takeLine_51 : decode cX6_takeLine 51 = .ok (.aload_n 0, 1) := by decide +kernel
theorem dX6_takeLine_52 : decode cX6_takeLine 52 = .ok (.getfield 15, 3) := by decide +kernel
theorem dX6_takeLine_55 : decode cX6_takeLine 55 = .ok (.ifCond .ne 19, 3) := by decide +kernel
theorem dX6_takeLine_58 : decode cX6_takeLine 58 = .ok (.aload_n 0, 1) := by decide +kernel
theorem dX6_takeLine_59 : decode cX6_takeLine 59 = .ok (.invokevirtual 50, 3) := by decide +kernel
theorem dX6_takeLine_62 : decode cX6_takeLine 62 = .ok (.aload_n 0, 1) := by decide +kernel
theorem dX6_takeLine_63 : decode cX6_takeLine 63 = .ok (.iload_n 2, 1) := by decide +kernel
theorem dX6_takeLine_64 : decode cX6_takeLine 64 = .ok (.iload_n 3, 1) := by decide +kernel
theorem dX6_takeLine_65 : decode cX6_takeLine 65 = .ok (.invokevirtual 88, 3) := by decide +kernel
theorem dX6_takeLine_68 : decode cX6_takeLine 68 = .ok (.iinc 3 1, 3) := by decide +kernel
theorem dX6_takeLine_71 : decode cX6_takeLine 71 = .ok (.goto (-29), 3) := by decide +kernel
theorem dX6_takeLine_74 : decode cX6_takeLine 74 = .ok (.aload_n 0, 1) := by decide +kernel
theorem dX6_takeLine_75 : decode cX6_takeLine 75 = .ok (.invokevirtual 57, 3) := by decide +kernel
theorem dX6_takeLine_78 : decode cX6_takeLine 78 = .ok (.aload_n 0, 1) := by decide +kernel
theorem dX6_takeLine_79 : decode cX6_takeLine 79 = .ok (.getfield 15, 3) := by decide +kernel
theorem dX6_takeLine_82 : decode cX6_takeLine 82 = .ok (.ifCond .ne 20, 3) := by decide +kernel
theorem dX6_takeLine_85 : decode cX6_takeLine 85 = .ok (.aload_n 0, 1) := by decide +kernel
theorem dX6_takeLine_86 : decode cX6_takeLine 86 = .ok (.getfield 32, 3) := by decide +kernel
theorem dX6_takeLine_89 : decode cX6_takeLine 89 = .ok (.iconst 3, 1) := by decide +kernel
theorem dX6_takeLine_90 : decode cX6_takeLine 90 = .ok (.if_icmp .eq 12, 3) := by decide +kernel
theorem dX6_takeLine_93 : decode cX6_takeLine 93 = .ok (.aload_n 0, 1) := by decide +kernel
theorem dX6_takeLine_94 : decode cX6_takeLine 94 = .ok (.iconst 2, 1) := by decide +kernel
theorem dX6_takeLine_95 : decode cX6_takeLine 95 = .ok (.aload_n 0, 1) := by decide +kernel
theorem dX6_takeLine_96 : decode cX6_takeLine 96 = .ok (.getfield 35, 3) := by decide +kernel
theorem dX6_takeLine_99 : decode cX6_takeLine 99 = .ok (.invokevirtual 64, 3) := by decide +kernel
theorem dX6_takeLine_102 : decode cX6_takeLine 102 = .ok (.aload_n 0, 1) := by decide +kernel
theorem dX6_takeLine_103 : decode cX6_takeLine 103 = .ok (.getfield 15, 3) := by decide +kernel
theorem dX6_takeLine_106 : decode cX6_takeLine 106 = .ok (.ifCond .ne 9, 3) := by decide +kernel
theorem dX6_takeLine_109 : decode cX6_takeLine 109 = .ok (.aload_n 0, 1) := by decide +kernel
theorem dX6_takeLine_110 : decode cX6_takeLine 110 = .ok (.aload_n 1, 1) := by decide +kernel
theorem dX6_takeLine_111 : decode cX6_takeLine 111 = .ok (.iload_n 2, 1) := by decide +kernel
theorem dX6_takeLine_112 : decode cX6_takeLine 112 = .ok (.invokevirtual 91, 3) := by decide +kernel
theorem dX6_takeLine_115 : decode cX6_takeLine 115 = .ok (.return_, 1) := by decide +kernel
theorem mkX6_takeLine : mokV qX6_takeLine 1 := ⟨⟨⟨⟨by decide, by decide, by decide +kernel⟩, by decide⟩, gd_mem 52 (by decide +kernel) (by decide +kernel), gd_mem 375 (by decide +kernel) (by decide +kernel)⟩, gd_mem 374 (by decide +kernel) (by decide +kernel), gd_mem 2 (by decide +kernel) (by decide +kernel)⟩
abbrev qX6_tell : mMI := (yX6_tell, cX6_tell, 3, (some .int), 8)
theorem dX6_tell_0 : decode cX6_tell 0 = .ok (.aload_n 1, 1) := by decide +kernel
theorem dX6_tell_1 : decode cX6_tell 1 = .ok (.invokevirtual 45, 3) := by decide +kernel
theorem dX6_tell_4 : decode cX6_tell 4 = .ok (.aload_n 0, 1) := by decide +kernel
theorem dX6_tell_5 : decode cX6_tell 5 = .ok (.iconst 0, 1) := by decide +kernel
theorem dX6_tell_6 : decode cX6_tell 6 = .ok (.putfield 15, 3) := by decide +kernel
theorem dX6_tell_9 : decode cX6_tell 9 = .ok (.aload_n 0, 1) := by decide +kernel
theorem dX6_tell_10 : decode cX6_tell 10 = .ok (.iconst 0, 1) := by decide +kernel
theorem dX6_tell_11 : decode cX6_tell 11 = .ok (.putfield 18, 3) := by decide +kernel
theorem dX6_tell_14 : decode cX6_tell 14 = .ok (.aload_n 0, 1) := by decide +kernel
theorem dX6_tell_15 : decode cX6_tell 15 = .ok (.iconst 0, 1) := by decide +kernel
theorem dX6_tell_16 : decode cX6_tell 16 = .ok (.putfield 29, 3) := by decide +kernel
theorem dX6_tell_19 : decode cX6_tell 19 = .ok (.aload_n 0, 1) := by decide +kernel
theorem dX6_tell_20 : decode cX6_tell 20 = .ok (.iconst 0, 1) := by decide +kernel
theorem dX6_tell_21 : decode cX6_tell 21 = .ok (.putfield 38, 3) := by decide +kernel
theorem dX6_tell_24 : decode cX6_tell 24 = .ok (.aload_n 0, 1) := by decide +kernel
theorem dX6_tell_25 : decode cX6_tell 25 = .ok (.iconst 0, 1) := by decide +kernel
theorem dX6_tell_26 : decode cX6_tell 26 = .ok (.putfield 42, 3) := by decide +kernel
theorem dX6_tell_29 : decode cX6_tell 29 = .ok (.iconst 0, 1) := by decide +kernel
theorem dX6_tell_30 : decode cX6_tell 30 = .ok (.istore_n 2, 1) := by decide +kernel
theorem dX6_tell_31 : decode cX6_tell 31 = .ok (.aload_n 0, 1) := by decide +kernel
theorem dX6_tell_32 : decode cX6_tell 32 = .ok (.invokevirtual 50, 3) := by decide +kernel
theorem dX6_tell_35 : decode cX6_tell 35 = .ok (.aload_n 0, 1) := by decide +kernel
theorem dX6_tell_36 : decode cX6_tell 36 = .ok (.getfield 15, 3) := by decide +kernel
theorem dX6_tell_39 : decode cX6_tell 39 = .ok (.ifCond .ne 33, 3) := by decide +kernel
theorem dX6_tell_42 : decode cX6_tell 42 = .ok (.aload_n 0, 1) := by decide +kernel
theorem dX6_tell_43 : decode cX6_tell 43 = .ok (.getfield 32, 3) := by decide +kernel
theorem dX6_tell_46 : decode cX6_tell 46 = .ok (.iconst 4, 1) := by decide +kernel
theorem dX6_tell_47 : decode cX6_tell 47 = .ok (.if_icmp .eq 25, 3) := by decide +kernel
theorem dX6_tell_50 : decode cX6_tell 50 = .ok (.iload_n 2, 1) := by decide +kernel
theorem dX6_tell_51 : decode cX6_tell 51 = .ok (.sipush 160, 3) := by decide +kernel
theorem dX6_tell_54 : decode cX6_tell 54 = .ok (.if_icmp .ge 18, 3) := by decide +kernel
theorem dX6_tell_57 : decode cX6_tell 57 = .ok (.aload_n 0, 1) := by decide +kernel
theorem dX6_tell_58 : decode cX6_tell 58 = .ok (.aload_n 1, 1) := by decide +kernel
theorem dX6_tell_59 : decode cX6_tell 59 = .ok (.invokevirtual 53, 3) := by decide +kernel
theorem dX6_tell_62 : decode cX6_tell 62 = .ok (.aload_n 0, 1) := by decide +kernel
theorem dX6_tell_63 : decode cX6_tell 63 = .ok (.invokevirtual 57, 3) := by decide +kernel
theorem dX6_tell_66 : decode cX6_tell 66 = .ok (.iinc 2 1, 3) := by decide +kernel
theorem dX6_tell_69 : decode cX6_tell 69 = .ok (.goto (-34), 3) := by decide +kernel
theorem dX6_tell_72 : decode cX6_tell 72 = .ok (.aload_n 0, 1) := by decide +kernel
theorem dX6_tell_73 : decode cX6_tell 73 = .ok (.getfield 15, 3) := by decide +kernel
theorem dX6_tell_76 : decode cX6_tell 76 = .ok (.ifCond .ne 20, 3) := by decide +kernel
theorem dX6_tell_79 : decode cX6_tell 79 = .ok (.aload_n 1, 1) := by decide +kernel
theorem dX6_tell_80 : decode cX6_tell 80 = .ok (.invokestatic 60, 3) := by decide +kernel
theorem dX6_tell_83 : decode cX6_tell 83 = .ok (.ifCond .eq 13, 3) := by decide +kernel
theorem dX6_tell_86 : decode cX6_tell 86 = .ok (.aload_n 0, 1) := by decide +kernel
theorem dX6_tell_87 : decode cX6_tell 87 = .ok (.bipush 6, 2) := by decide +kernel
theorem dX6_tell_89 : decode cX6_tell 89 = .ok (.aload_n 0, 1) := by decide +kernel
theorem dX6_tell_90 : decode cX6_tell 90 = .ok (.getfield 9, 3) := by decide +kernel
theorem dX6_tell_93 : decode cX6_tell 93 = .ok (.invokevirtual 64, 3) := by decide +kernel
theorem dX6_tell_96 : decode cX6_tell 96 = .ok (.aload_n 0, 1) := by decide +kernel
theorem dX6_tell_97 : decode cX6_tell 97 = .ok (.iconst 0, 1) := by decide +kernel
theorem dX6_tell_98 : decode cX6_tell 98 = .ok (.putfield 9, 3) := by decide +kernel
theorem dX6_tell_101 : decode cX6_tell 101 = .ok (.aload_n 0, 1) := by decide +kernel
theorem dX6_tell_102 : decode cX6_tell 102 = .ok (.getfield 15, 3) := by decide +kernel
theorem dX6_tell_105 : decode cX6_tell 105 = .ok (.ifCond .ne 7, 3) := by decide +kernel
theorem dX6_tell_108 : decode cX6_tell 108 = .ok (.iload_n 2, 1) := by decide +kernel
theorem dX6_tell_109 : decode cX6_tell 109 = .ok (.goto 10, 3) := by decide +kernel
theorem dX6_tell_112 : decode cX6_tell 112 = .ok (.bipush (-10), 2) := by decide +kernel
theorem dX6_tell_114 : decode cX6_tell 114 = .ok (.aload_n 0, 1) := by decide +kernel
theorem dX6_tell_115 : decode cX6_tell 115 = .ok (.getfield 18, 3) := by decide +kernel
theorem dX6_tell_118 : decode cX6_tell 118 = .ok (.isub, 1) := by decide +kernel
theorem dX6_tell_119 : decode cX6_tell 119 = .ok (.ireturn, 1) := by decide +kernel
theorem mkX6_tell : mokV qX6_tell 1 := ⟨⟨⟨⟨by decide, by decide, by decide +kernel⟩, by decide⟩, gd_mem 52 (by decide +kernel) (by decide +kernel), gd_mem 356 (by decide +kernel) (by decide +kernel)⟩, gd_mem 354 (by decide +kernel) (by decide +kernel), gd_mem 355 (by decide +kernel) (by decide +kernel)⟩
theorem lfX6_9 : Cond.fieldLink RX6 9 "RankStairs$Tape" "length" "I" ∈ gdL := gd_mem 82 (by decide +kernel) (by decide +kernel)
theorem gIX6_9 {q : mMI} {X : mCx} {tgt : mR} {pc : Nat} {lv : List (Nat × Value)} {st : List Value} {μ : mMem} {b : Nat} (hq : q.1.cls = RX6) (hb : kd b = (6, 0)) (hd : decode q.2.1 pc = .ok (.getfield 9, 3)) (h : T q X tgt (pc + 3) lv (.int (μ.1 b 0) :: st) μ) : T q X tgt pc lv (.ref b :: st) μ := T_getI (c := 6) rfl (by decide) rfl (by decide) (by rw [hq]; exact lfX6_9) hb hd h
theorem pIX6_9 {q : mMI} {X : mCx} {tgt : mR} {pc : Nat} {lv : List (Nat × Value)} {st : List Value} {μ : mMem} {b : Nat} {x : Int32} (hq : q.1.cls = RX6) (hn : narrow .int (.int x) = .int x) (hfit : fits .int (.int x) = true) (hb : kd b = (6, 0)) (hd : decode q.2.1 pc = .ok (.putfield 9, 3)) (h : T q X tgt (pc + 3) lv st (si μ b 0 x)) : T q X tgt pc lv (.int x :: .ref b :: st) μ := T_put (c := 6) rfl (by decide) rfl (by decide) (by rw [hq]; exact lfX6_9) (by decide) hn hfit hb hd h
theorem lfX6_21 : Cond.fieldLink RX6 21 "RankStairs$Tape" "bytes" "[B" ∈ gdL := gd_mem 87 (by decide +kernel) (by decide +kernel)
theorem gRX6_21 {q : mMI} {X : mCx} {tgt : mR} {pc : Nat} {lv : List (Nat × Value)} {st : List Value} {μ : mMem} {b : Nat} (hq : q.1.cls = RX6) (hb : kd b = (6, 0)) (z : Nat) (hz : rf b 3 = z) (hd : decode q.2.1 pc = .ok (.getfield 21, 3)) (h : T q X tgt (pc + 3) lv (.ref z :: st) μ) : T q X tgt pc lv (.ref b :: st) μ := T_getR (c := 6) rfl (by decide) rfl (by decide) (by rw [hq]; exact lfX6_21) hb z hz hd h
def fX6_put (x1 : Int32) (m : mMem) : mR := if (m.1 49 0) < (160 : Int32) then ga (m.1 49 0) 160 (lt (si m 50 ((m.1 49 0)).toNatClampNeg (vp_nar .byte (x1).toInt8.toInt32)) (fun m1 => lt (si m1 49 0 ((m1.1 49 0) + (1 : Int32))) (fun m2 => some (some (.int (m2.1 49 0)), m2)))) else some (some (.int (-3 : Int32)), m)
set_option maxRecDepth 100000 in
theorem bsX6_put (l : Launch) (x1 : Int32) (m : mMem)  : BS l qX6_put [.ref 49, .int x1] m (fX6_put x1 m) := BS_of (by decide) (Nat.le_of_ble_eq_true rfl) (fun X _ => by
    show T qX6_put X (fX6_put x1 m) 0 [(0, .ref 49), (1, .int x1)] [] m
    unfold fX6_put
    refine T_aload_n 0 rfl rfl dX6_put_0 ?_
    refine gIX6_9 rfl kd_49 dX6_put_1 ?_
    refine T_sipush (160 : Int32) (by decide) dX6_put_4 ?_
    refine T_icmp_lt 13 dX6_put_7 (by decide) (fun _ => ?_) (fun _ => ?_)
    · refine T_aload_n 0 rfl rfl dX6_put_13 ?_
      refine gRX6_21 rfl kd_49 50 rfl dX6_put_14 ?_
      refine T_aload_n 0 rfl rfl dX6_put_17 ?_
      refine gIX6_9 rfl kd_49 dX6_put_18 ?_
      refine T_iload_n 1 rfl rfl dX6_put_21 ?_
      refine T_i2b dX6_put_22 ?_
      refine T_bast _ rfl kd_50 dX6_put_23 ?_
      refine T_lt (fun m1 => ?_)
      refine T_aload_n 0 rfl rfl dX6_put_24 ?_
      refine T_dup rfl dX6_put_25 ?_
      refine gIX6_9 rfl kd_49 dX6_put_26 ?_
      refine T_iconst (1 : Int32) (by decide) dX6_put_29 ?_
      refine T_iadd dX6_put_30 ?_
      refine pIX6_9 rfl rfl rfl kd_49 dX6_put_31 ?_
      refine T_lt (fun m2 => ?_)
      refine T_aload_n 0 rfl rfl dX6_put_34 ?_
      refine gIX6_9 rfl kd_49 dX6_put_35 ?_
      exact T_iret rfl dX6_put_38
    · refine T_bipush (-3 : Int32) (by decide) dX6_put_10 ?_
      exact T_iret rfl dX6_put_12)
theorem lfX6_68 : Cond.fieldLink RX6 68 "RankStairs$House" "lodgers" "I" ∈ gdL := gd_mem 131 (by decide +kernel) (by decide +kernel)
theorem gIX6_68 {q : mMI} {X : mCx} {tgt : mR} {pc : Nat} {lv : List (Nat × Value)} {st : List Value} {μ : mMem} {b : Nat} (hq : q.1.cls = RX6) (hb : kd b = (4, 0)) (hd : decode q.2.1 pc = .ok (.getfield 68, 3)) (h : T q X tgt (pc + 3) lv (.int (μ.1 b 1) :: st) μ) : T q X tgt pc lv (.ref b :: st) μ := T_getI (c := 4) rfl (by decide) rfl (by decide) (by rw [hq]; exact lfX6_68) hb hd h
theorem pIX6_68 {q : mMI} {X : mCx} {tgt : mR} {pc : Nat} {lv : List (Nat × Value)} {st : List Value} {μ : mMem} {b : Nat} {x : Int32} (hq : q.1.cls = RX6) (hn : narrow .int (.int x) = .int x) (hfit : fits .int (.int x) = true) (hb : kd b = (4, 0)) (hd : decode q.2.1 pc = .ok (.putfield 68, 3)) (h : T q X tgt (pc + 3) lv st (si μ b 1 x)) : T q X tgt pc lv (.int x :: .ref b :: st) μ := T_put (c := 4) rfl (by decide) rfl (by decide) (by rw [hq]; exact lfX6_68) (by decide) hn hfit hb hd h
theorem lfX6_71 : Cond.fieldLink RX6 71 "RankStairs$House" "floorOf" "[I" ∈ gdL := gd_mem 163 (by decide +kernel) (by decide +kernel)
theorem gRX6_71 {q : mMI} {X : mCx} {tgt : mR} {pc : Nat} {lv : List (Nat × Value)} {st : List Value} {μ : mMem} {b : Nat} (hq : q.1.cls = RX6) (hb : kd b = (4, 0)) (z : Nat) (hz : rf b 11 = z) (hd : decode q.2.1 pc = .ok (.getfield 71, 3)) (h : T q X tgt (pc + 3) lv (.ref z :: st) μ) : T q X tgt pc lv (.ref b :: st) μ := T_getR (c := 4) rfl (by decide) rfl (by decide) (by rw [hq]; exact lfX6_71) hb z hz hd h
theorem lfX6_74 : Cond.fieldLink RX6 74 "RankStairs$House" "steps" "I" ∈ gdL := gd_mem 125 (by decide +kernel) (by decide +kernel)
theorem gIX6_74 {q : mMI} {X : mCx} {tgt : mR} {pc : Nat} {lv : List (Nat × Value)} {st : List Value} {μ : mMem} {b : Nat} (hq : q.1.cls = RX6) (hb : kd b = (4, 0)) (hd : decode q.2.1 pc = .ok (.getfield 74, 3)) (h : T q X tgt (pc + 3) lv (.int (μ.1 b 0) :: st) μ) : T q X tgt pc lv (.ref b :: st) μ := T_getI (c := 4) rfl (by decide) rfl (by decide) (by rw [hq]; exact lfX6_74) hb hd h
theorem pIX6_74 {q : mMI} {X : mCx} {tgt : mR} {pc : Nat} {lv : List (Nat × Value)} {st : List Value} {μ : mMem} {b : Nat} {x : Int32} (hq : q.1.cls = RX6) (hn : narrow .int (.int x) = .int x) (hfit : fits .int (.int x) = true) (hb : kd b = (4, 0)) (hd : decode q.2.1 pc = .ok (.putfield 74, 3)) (h : T q X tgt (pc + 3) lv st (si μ b 0 x)) : T q X tgt pc lv (.int x :: .ref b :: st) μ := T_put (c := 4) rfl (by decide) rfl (by decide) (by rw [hq]; exact lfX6_74) (by decide) hn hfit hb hd h
def bX6_hasLostFloor_2 (r0 : Nat) (k2 : Int32 × mMem → mR) (s : Int32 × mMem) : mR := match s with
  | (x1, m) => if (m.1 r0 1) ≤ x1 then some (some (.int (0 : Int32)), m) else ga x1 4 (if (m.1 (r0 + 7) (x1).toNatClampNeg) < (m.1 r0 0) then li (x1 + (1 : Int32)) (fun y1 => k2 (y1, m)) else some (some (.int (1 : Int32)), m))
set_option maxRecDepth 100000 in
theorem tX6_hasLostFloor_2 (X : mCx) (r0 : Nat) (h0 : kd r0 = (4, 0)) : ∀ (n : Nat) (s : Int32 × mMem), T qX6_hasLostFloor X (lp (bX6_hasLostFloor_2 r0) n s) 2 [(0, .ref r0), (1, .int s.1)] [] s.2 :=
  T_lp (body := bX6_hasLostFloor_2 r0) (lv := fun s => [(0, .ref r0), (1, .int s.1)]) (st := fun _ => []) (μ := fun s : Int32 × mMem => s.2) (fun k2 hk2 s => by
    obtain ⟨x1, m⟩ := s
    show T qX6_hasLostFloor X (bX6_hasLostFloor_2 r0 k2 (x1, m)) 2 [(0, .ref r0), (1, .int x1)] [] m
    unfold bX6_hasLostFloor_2
    dsimp only
    refine T_iload_n 1 rfl rfl dX6_hasLostFloor_2 ?_
    refine T_aload_n 0 rfl rfl dX6_hasLostFloor_3 ?_
    refine gIX6_68 rfl h0 dX6_hasLostFloor_4 ?_
    refine T_icmp_ge 31 dX6_hasLostFloor_7 (by decide) (fun _ => ?_) (fun _ => ?_)
    · refine T_iconst (0 : Int32) (by decide) dX6_hasLostFloor_31 ?_
      exact T_zretc (by decide) rfl dX6_hasLostFloor_32
    · refine T_aload_n 0 rfl rfl dX6_hasLostFloor_10 ?_
      refine gRX6_71 rfl h0 (r0 + 7) (rfH11 h0) dX6_hasLostFloor_11 ?_
      refine T_iload_n 1 rfl rfl dX6_hasLostFloor_14 ?_
      refine T_iald (kdH11 h0) dX6_hasLostFloor_15 ?_
      refine T_aload_n 0 rfl rfl dX6_hasLostFloor_16 ?_
      refine gIX6_74 rfl h0 dX6_hasLostFloor_17 ?_
      refine T_icmp_lt 25 dX6_hasLostFloor_20 (by decide) (fun _ => ?_) (fun _ => ?_)
      · refine T_iinc (lv' := [(1, .int (x1 + (1 : Int32))), (0, .ref r0)]) 1 (1 : Int32) rfl (by decide) (Nat.le_of_ble_eq_true rfl) rfl dX6_hasLostFloor_25 ?_
        refine T_li (fun y1 => ?_)
        refine T_goto 2 dX6_hasLostFloor_28 (by decide) ?_
        exact T_sub [1, 0] rfl (hk2 (y1, m))
      · refine T_iconst (1 : Int32) (by decide) dX6_hasLostFloor_23 ?_
        exact T_zretc (by decide) rfl dX6_hasLostFloor_24)
def fX6_hasLostFloor (r0 : Nat) (m : mMem) : mR := lp (bX6_hasLostFloor_2 r0) FU ((0 : Int32), m)
set_option maxRecDepth 100000 in
theorem bsX6_hasLostFloor (l : Launch) (r0 : Nat) (m : mMem) (h0 : kd r0 = (4, 0)) : BS l qX6_hasLostFloor [.ref r0] m (fX6_hasLostFloor r0 m) := BS_of (by decide) (Nat.le_of_ble_eq_true rfl) (fun X _ => by
    show T qX6_hasLostFloor X (fX6_hasLostFloor r0 m) 0 [(0, .ref r0)] [] m
    unfold fX6_hasLostFloor
    refine T_iconst (0 : Int32) (by decide) dX6_hasLostFloor_0 ?_
    refine T_istore_n (lv' := [(1, .int (0 : Int32)), (0, .ref r0)]) rfl (Nat.le_of_ble_eq_true rfl) rfl dX6_hasLostFloor_1 ?_
    exact T_sub [1, 0] rfl (tX6_hasLostFloor_2 X r0 h0 FU ((0 : Int32), m)))
def jX6_kindOfByte_28 (x0 : Int32) (m : mMem) : mR := if x0 = (59 : Int32) then some (some (.int (3 : Int32)), m) else some (some (.int (0 : Int32)), m)
set_option maxRecDepth 100000 in
theorem uX6_kindOfByte_28 (X : mCx) (x0 : Int32) (m : mMem)  : T qX6_kindOfByte X (jX6_kindOfByte_28 x0 m) 28 [(0, .int x0)] [] m := by
  unfold jX6_kindOfByte_28
  refine T_iload_n 0 rfl rfl dX6_kindOfByte_28 ?_
  refine T_bipush (59 : Int32) (by decide) dX6_kindOfByte_29 ?_
  refine T_icmp_ne 38 dX6_kindOfByte_31 (by decide) (fun _ => ?_) (fun _ => ?_)
  · refine T_iconst (3 : Int32) (by decide) dX6_kindOfByte_34 ?_
    refine T_goto 39 dX6_kindOfByte_35 (by decide) ?_
    exact T_iret rfl dX6_kindOfByte_39
  · refine T_iconst (0 : Int32) (by decide) dX6_kindOfByte_38 ?_
    exact T_iret rfl dX6_kindOfByte_39
def jX6_kindOfByte_14 (x0 : Int32) (m : mMem) : mR := if x0 < (48 : Int32) then jX6_kindOfByte_28 x0 m else if (57 : Int32) < x0 then jX6_kindOfByte_28 x0 m else some (some (.int (2 : Int32)), m)
set_option maxRecDepth 100000 in
theorem uX6_kindOfByte_14 (X : mCx) (x0 : Int32) (m : mMem)  : T qX6_kindOfByte X (jX6_kindOfByte_14 x0 m) 14 [(0, .int x0)] [] m := by
  unfold jX6_kindOfByte_14
  refine T_iload_n 0 rfl rfl dX6_kindOfByte_14 ?_
  refine T_bipush (48 : Int32) (by decide) dX6_kindOfByte_15 ?_
  refine T_icmp_lt 28 dX6_kindOfByte_17 (by decide) (fun _ => ?_) (fun _ => ?_)
  · exact T_sub [0] rfl (uX6_kindOfByte_28 X x0 m )
  · refine T_iload_n 0 rfl rfl dX6_kindOfByte_20 ?_
    refine T_bipush (57 : Int32) (by decide) dX6_kindOfByte_21 ?_
    refine T_icmp_gt 28 dX6_kindOfByte_23 (by decide) (fun _ => ?_) (fun _ => ?_)
    · exact T_sub [0] rfl (uX6_kindOfByte_28 X x0 m )
    · refine T_iconst (2 : Int32) (by decide) dX6_kindOfByte_26 ?_
      exact T_iret rfl dX6_kindOfByte_27
def fX6_kindOfByte (x0 : Int32) (m : mMem) : mR := if x0 < (97 : Int32) then jX6_kindOfByte_14 x0 m else if (122 : Int32) < x0 then jX6_kindOfByte_14 x0 m else some (some (.int (1 : Int32)), m)
set_option maxRecDepth 100000 in
theorem bsX6_kindOfByte (l : Launch) (x0 : Int32) (m : mMem)  : BS l qX6_kindOfByte [.int x0] m (fX6_kindOfByte x0 m) := BS_of (by decide) (Nat.le_of_ble_eq_true rfl) (fun X _ => by
    show T qX6_kindOfByte X (fX6_kindOfByte x0 m) 0 [(0, .int x0)] [] m
    unfold fX6_kindOfByte
    refine T_iload_n 0 rfl rfl dX6_kindOfByte_0 ?_
    refine T_bipush (97 : Int32) (by decide) dX6_kindOfByte_1 ?_
    refine T_icmp_lt 14 dX6_kindOfByte_3 (by decide) (fun _ => ?_) (fun _ => ?_)
    · exact T_sub [0] rfl (uX6_kindOfByte_14 X x0 m )
    · refine T_iload_n 0 rfl rfl dX6_kindOfByte_6 ?_
      refine T_bipush (122 : Int32) (by decide) dX6_kindOfByte_7 ?_
      refine T_icmp_gt 14 dX6_kindOfByte_9 (by decide) (fun _ => ?_) (fun _ => ?_)
      · exact T_sub [0] rfl (uX6_kindOfByte_14 X x0 m )
      · refine T_iconst (1 : Int32) (by decide) dX6_kindOfByte_12 ?_
        exact T_iret rfl dX6_kindOfByte_13)
def fX6_nameOfLine (x0 : Int32) (m : mMem) : mR := if x0 = (0 : Int32) then some (some (.ref (100 + 0)), m) else if x0 = (1 : Int32) then some (some (.ref (100 + 1)), m) else if x0 = (2 : Int32) then some (some (.ref (100 + 2)), m) else if x0 = (3 : Int32) then some (some (.ref (100 + 3)), m) else if x0 = (4 : Int32) then some (some (.ref (100 + 4)), m) else if x0 = (5 : Int32) then some (some (.ref (100 + 5)), m) else some (some (.ref (100 + 6)), m)
set_option maxRecDepth 100000 in
theorem bsX6_nameOfLine (l : Launch) (x0 : Int32) (m : mMem)  : BS l qX6_nameOfLine [.int x0] m (fX6_nameOfLine x0 m) := BS_of (by decide) (Nat.le_of_ble_eq_true rfl) (fun X _ => by
    show T qX6_nameOfLine X (fX6_nameOfLine x0 m) 0 [(0, .int x0)] [] m
    unfold fX6_nameOfLine
    refine T_iload_n 0 rfl rfl dX6_nameOfLine_0 ?_
    refine T_ite (fun hc => ?_) (fun hn0 => ?_)
    · refine T_tsIn (0 : Int32) 40 hc dX6_nameOfLine_1 (by decide) (by decide) rfl (by decide) ?_
      refine T_ldcS 0 (by decide) rfl rfl dX6_nameOfLine_40 ?_
      exact T_aret rfl dX6_nameOfLine_42
    · refine T_ite (fun hc => ?_) (fun hn1 => ?_)
      · refine T_tsIn (1 : Int32) 43 hc dX6_nameOfLine_1 (by decide) (by decide) rfl (by decide) ?_
        refine T_ldcS 1 (by decide) rfl rfl dX6_nameOfLine_43 ?_
        exact T_aret rfl dX6_nameOfLine_45
      · refine T_ite (fun hc => ?_) (fun hn2 => ?_)
        · refine T_tsIn (2 : Int32) 46 hc dX6_nameOfLine_1 (by decide) (by decide) rfl (by decide) ?_
          refine T_ldcS 2 (by decide) rfl rfl dX6_nameOfLine_46 ?_
          exact T_aret rfl dX6_nameOfLine_48
        · refine T_ite (fun hc => ?_) (fun hn3 => ?_)
          · refine T_tsIn (3 : Int32) 49 hc dX6_nameOfLine_1 (by decide) (by decide) rfl (by decide) ?_
            refine T_ldcS 3 (by decide) rfl rfl dX6_nameOfLine_49 ?_
            exact T_aret rfl dX6_nameOfLine_51
          · refine T_ite (fun hc => ?_) (fun hn4 => ?_)
            · refine T_tsIn (4 : Int32) 52 hc dX6_nameOfLine_1 (by decide) (by decide) rfl (by decide) ?_
              refine T_ldcS 4 (by decide) rfl rfl dX6_nameOfLine_52 ?_
              exact T_aret rfl dX6_nameOfLine_54
            · refine T_ite (fun hc => ?_) (fun hn5 => ?_)
              · refine T_tsIn (5 : Int32) 55 hc dX6_nameOfLine_1 (by decide) (by decide) rfl (by decide) ?_
                refine T_ldcS 5 (by decide) rfl rfl dX6_nameOfLine_55 ?_
                exact T_aret rfl dX6_nameOfLine_57
              · refine T_tsOut 58 (by have e0 := neT (k := 0) hn0 (by decide); have e1 := neT (k := 1) hn1 (by decide); have e2 := neT (k := 2) hn2 (by decide); have e3 := neT (k := 3) hn3 (by decide); have e4 := neT (k := 4) hn4 (by decide); have e5 := neT (k := 5) hn5 (by decide); omega) dX6_nameOfLine_1 (by decide) ?_
                refine T_ldcS 6 (by decide) rfl rfl dX6_nameOfLine_58 ?_
                exact T_aret rfl dX6_nameOfLine_60)
theorem lfX6_15 : Cond.fieldLink RX6 15 "RankStairs$Tape" "found" "I" ∈ gdL := gd_mem 84 (by decide +kernel) (by decide +kernel)
theorem gIX6_15 {q : mMI} {X : mCx} {tgt : mR} {pc : Nat} {lv : List (Nat × Value)} {st : List Value} {μ : mMem} {b : Nat} (hq : q.1.cls = RX6) (hb : kd b = (6, 0)) (hd : decode q.2.1 pc = .ok (.getfield 15, 3)) (h : T q X tgt (pc + 3) lv (.int (μ.1 b 1) :: st) μ) : T q X tgt pc lv (.ref b :: st) μ := T_getI (c := 6) rfl (by decide) rfl (by decide) (by rw [hq]; exact lfX6_15) hb hd h
theorem pIX6_15 {q : mMI} {X : mCx} {tgt : mR} {pc : Nat} {lv : List (Nat × Value)} {st : List Value} {μ : mMem} {b : Nat} {x : Int32} (hq : q.1.cls = RX6) (hn : narrow .int (.int x) = .int x) (hfit : fits .int (.int x) = true) (hb : kd b = (6, 0)) (hd : decode q.2.1 pc = .ok (.putfield 15, 3)) (h : T q X tgt (pc + 3) lv st (si μ b 1 x)) : T q X tgt pc lv (.int x :: .ref b :: st) μ := T_put (c := 6) rfl (by decide) rfl (by decide) (by rw [hq]; exact lfX6_15) (by decide) hn hfit hb hd h
theorem lfX6_18 : Cond.fieldLink RX6 18 "RankStairs$Tape" "foundAt" "I" ∈ gdL := gd_mem 86 (by decide +kernel) (by decide +kernel)
theorem gIX6_18 {q : mMI} {X : mCx} {tgt : mR} {pc : Nat} {lv : List (Nat × Value)} {st : List Value} {μ : mMem} {b : Nat} (hq : q.1.cls = RX6) (hb : kd b = (6, 0)) (hd : decode q.2.1 pc = .ok (.getfield 18, 3)) (h : T q X tgt (pc + 3) lv (.int (μ.1 b 2) :: st) μ) : T q X tgt pc lv (.ref b :: st) μ := T_getI (c := 6) rfl (by decide) rfl (by decide) (by rw [hq]; exact lfX6_18) hb hd h
theorem pIX6_18 {q : mMI} {X : mCx} {tgt : mR} {pc : Nat} {lv : List (Nat × Value)} {st : List Value} {μ : mMem} {b : Nat} {x : Int32} (hq : q.1.cls = RX6) (hn : narrow .int (.int x) = .int x) (hfit : fits .int (.int x) = true) (hb : kd b = (6, 0)) (hd : decode q.2.1 pc = .ok (.putfield 18, 3)) (h : T q X tgt (pc + 3) lv st (si μ b 2 x)) : T q X tgt pc lv (.int x :: .ref b :: st) μ := T_put (c := 6) rfl (by decide) rfl (by decide) (by rw [hq]; exact lfX6_18) (by decide) hn hfit hb hd h
def fX6_refuse (x1 : Int32) (x2 : Int32) (m : mMem) : mR := lt (si m 49 1 x1) (fun m1 => lt (si m1 49 2 x2) (fun m2 => some (none, m2)))
set_option maxRecDepth 100000 in
theorem bsX6_refuse (l : Launch) (x1 : Int32) (x2 : Int32) (m : mMem)  : BS l qX6_refuse [.ref 49, .int x1, .int x2] m (fX6_refuse x1 x2 m) := BS_of (by decide) (Nat.le_of_ble_eq_true rfl) (fun X _ => by
    show T qX6_refuse X (fX6_refuse x1 x2 m) 0 [(0, .ref 49), (1, .int x1), (2, .int x2)] [] m
    unfold fX6_refuse
    refine T_aload_n 0 rfl rfl dX6_refuse_0 ?_
    refine T_iload_n 1 rfl rfl dX6_refuse_1 ?_
    refine pIX6_15 rfl rfl rfl kd_49 dX6_refuse_2 ?_
    refine T_lt (fun m1 => ?_)
    refine T_aload_n 0 rfl rfl dX6_refuse_5 ?_
    refine T_iload_n 2 rfl rfl dX6_refuse_6 ?_
    refine pIX6_18 rfl rfl rfl kd_49 dX6_refuse_7 ?_
    refine T_lt (fun m2 => ?_)
    exact T_vret rfl dX6_refuse_10)
theorem lmX6_64 : Cond.methodLink RX6 64 yX6_refuse ∈ gdL := gd_mem 368 (by decide +kernel) (by decide +kernel)
theorem lfX6_35 : Cond.fieldLink RX6 35 "RankStairs$Tape" "tokenAt" "I" ∈ gdL := gd_mem 91 (by decide +kernel) (by decide +kernel)
theorem gIX6_35 {q : mMI} {X : mCx} {tgt : mR} {pc : Nat} {lv : List (Nat × Value)} {st : List Value} {μ : mMem} {b : Nat} (hq : q.1.cls = RX6) (hb : kd b = (6, 0)) (hd : decode q.2.1 pc = .ok (.getfield 35, 3)) (h : T q X tgt (pc + 3) lv (.int (μ.1 b 7) :: st) μ) : T q X tgt pc lv (.ref b :: st) μ := T_getI (c := 6) rfl (by decide) rfl (by decide) (by rw [hq]; exact lfX6_35) hb hd h
theorem pIX6_35 {q : mMI} {X : mCx} {tgt : mR} {pc : Nat} {lv : List (Nat × Value)} {st : List Value} {μ : mMem} {b : Nat} {x : Int32} (hq : q.1.cls = RX6) (hn : narrow .int (.int x) = .int x) (hfit : fits .int (.int x) = true) (hb : kd b = (6, 0)) (hd : decode q.2.1 pc = .ok (.putfield 35, 3)) (h : T q X tgt (pc + 3) lv st (si μ b 7 x)) : T q X tgt pc lv (.int x :: .ref b :: st) μ := T_put (c := 6) rfl (by decide) rfl (by decide) (by rw [hq]; exact lfX6_35) (by decide) hn hfit hb hd h
theorem lfX6_38 : Cond.fieldLink RX6 38 "RankStairs$Tape" "gapTold" "Z" ∈ gdL := gd_mem 92 (by decide +kernel) (by decide +kernel)
theorem gIX6_38 {q : mMI} {X : mCx} {tgt : mR} {pc : Nat} {lv : List (Nat × Value)} {st : List Value} {μ : mMem} {b : Nat} (hq : q.1.cls = RX6) (hb : kd b = (6, 0)) (hd : decode q.2.1 pc = .ok (.getfield 38, 3)) (h : T q X tgt (pc + 3) lv (.int (μ.1 b 8) :: st) μ) : T q X tgt pc lv (.ref b :: st) μ := T_getI (c := 6) rfl (by decide) rfl (by decide) (by rw [hq]; exact lfX6_38) hb hd h
theorem pIX6_38 {q : mMI} {X : mCx} {tgt : mR} {pc : Nat} {lv : List (Nat × Value)} {st : List Value} {μ : mMem} {b : Nat} {x : Int32} (hq : q.1.cls = RX6) (hn : narrow .boolean (.int x) = .int x) (hfit : fits .boolean (.int x) = true) (hb : kd b = (6, 0)) (hd : decode q.2.1 pc = .ok (.putfield 38, 3)) (h : T q X tgt (pc + 3) lv st (si μ b 8 x)) : T q X tgt pc lv (.int x :: .ref b :: st) μ := T_put (c := 6) rfl (by decide) rfl (by decide) (by rw [hq]; exact lfX6_38) (by decide) hn hfit hb hd h
theorem lfX6_42 : Cond.fieldLink RX6 42 "RankStairs$Tape" "holdTold" "Z" ∈ gdL := gd_mem 93 (by decide +kernel) (by decide +kernel)
theorem gIX6_42 {q : mMI} {X : mCx} {tgt : mR} {pc : Nat} {lv : List (Nat × Value)} {st : List Value} {μ : mMem} {b : Nat} (hq : q.1.cls = RX6) (hb : kd b = (6, 0)) (hd : decode q.2.1 pc = .ok (.getfield 42, 3)) (h : T q X tgt (pc + 3) lv (.int (μ.1 b 9) :: st) μ) : T q X tgt pc lv (.ref b :: st) μ := T_getI (c := 6) rfl (by decide) rfl (by decide) (by rw [hq]; exact lfX6_42) hb hd h
theorem pIX6_42 {q : mMI} {X : mCx} {tgt : mR} {pc : Nat} {lv : List (Nat × Value)} {st : List Value} {μ : mMem} {b : Nat} {x : Int32} (hq : q.1.cls = RX6) (hn : narrow .boolean (.int x) = .int x) (hfit : fits .boolean (.int x) = true) (hb : kd b = (6, 0)) (hd : decode q.2.1 pc = .ok (.putfield 42, 3)) (h : T q X tgt (pc + 3) lv st (si μ b 9 x)) : T q X tgt pc lv (.int x :: .ref b :: st) μ := T_put (c := 6) rfl (by decide) rfl (by decide) (by rw [hq]; exact lfX6_42) (by decide) hn hfit hb hd h
def jX6_refuseOneTooMany_64 (m : mMem) : mR := bV (fX6_refuse (5 : Int32) (m.1 49 7) m) (fun m1 => some (none, m1))
set_option maxRecDepth 100000 in
theorem uX6_refuseOneTooMany_64 (X : mCx) (m : mMem)  : T qX6_refuseOneTooMany X (jX6_refuseOneTooMany_64 m) 64 [(0, .ref 49)] [] m := by
  unfold jX6_refuseOneTooMany_64
  refine T_aload_n 0 rfl rfl dX6_refuseOneTooMany_64 ?_
  refine T_iconst (5 : Int32) (by decide) dX6_refuseOneTooMany_65 ?_
  refine T_aload_n 0 rfl rfl dX6_refuseOneTooMany_66 ?_
  refine gIX6_35 rfl kd_49 dX6_refuseOneTooMany_67 ?_
  refine T_cVV (c := 6) [.int (5 : Int32), .int (m.1 49 7)] [] mkX6_refuse lmX6_64 rfl rfl (by decide) (Nat.le_of_ble_eq_true rfl) kd_49 dX6_refuseOneTooMany_70 (bsX6_refuse _ (5 : Int32) (m.1 49 7) m) (fun m1 => ?_)
  exact T_vret rfl dX6_refuseOneTooMany_73
def jX6_refuseOneTooMany_51 (r1 : Nat) (x2 : Int32) (m : mMem) : mR := if x2 = (4 : Int32) then if (m.1 r1 1) < (4 : Int32) then some (none, m) else jX6_refuseOneTooMany_64 m else some (none, m)
set_option maxRecDepth 100000 in
theorem uX6_refuseOneTooMany_51 (X : mCx) (r1 : Nat) (x2 : Int32) (m : mMem) (h1 : kd r1 = (4, 0)) : T qX6_refuseOneTooMany X (jX6_refuseOneTooMany_51 r1 x2 m) 51 [(0, .ref 49), (1, .ref r1), (2, .int x2)] [] m := by
  unfold jX6_refuseOneTooMany_51
  refine T_iload_n 2 rfl rfl dX6_refuseOneTooMany_51 ?_
  refine T_iconst (4 : Int32) (by decide) dX6_refuseOneTooMany_52 ?_
  refine T_icmp_ne 73 dX6_refuseOneTooMany_53 (by decide) (fun _ => ?_) (fun _ => ?_)
  · refine T_aload_n 1 rfl rfl dX6_refuseOneTooMany_56 ?_
    refine gIX6_68 rfl h1 dX6_refuseOneTooMany_57 ?_
    refine T_iconst (4 : Int32) (by decide) dX6_refuseOneTooMany_60 ?_
    refine T_icmp_lt 73 dX6_refuseOneTooMany_61 (by decide) (fun _ => ?_) (fun _ => ?_)
    · exact T_vret rfl dX6_refuseOneTooMany_73
    · exact T_sub [0] rfl (uX6_refuseOneTooMany_64 X m )
  · exact T_vret rfl dX6_refuseOneTooMany_73
def jX6_refuseOneTooMany_37 (r1 : Nat) (x2 : Int32) (m : mMem) : mR := if (4 : Int32) ≤ x2 then jX6_refuseOneTooMany_51 r1 x2 m else if (10 : Int32) ≤ (m.1 r1 0) then jX6_refuseOneTooMany_64 m else jX6_refuseOneTooMany_51 r1 x2 m
set_option maxRecDepth 100000 in
theorem uX6_refuseOneTooMany_37 (X : mCx) (r1 : Nat) (x2 : Int32) (m : mMem) (h1 : kd r1 = (4, 0)) : T qX6_refuseOneTooMany X (jX6_refuseOneTooMany_37 r1 x2 m) 37 [(0, .ref 49), (1, .ref r1), (2, .int x2)] [] m := by
  unfold jX6_refuseOneTooMany_37
  refine T_iload_n 2 rfl rfl dX6_refuseOneTooMany_37 ?_
  refine T_iconst (4 : Int32) (by decide) dX6_refuseOneTooMany_38 ?_
  refine T_icmp_ge 51 dX6_refuseOneTooMany_39 (by decide) (fun _ => ?_) (fun _ => ?_)
  · exact T_sub [0, 1, 2] rfl (uX6_refuseOneTooMany_51 X r1 x2 m h1)
  · refine T_aload_n 1 rfl rfl dX6_refuseOneTooMany_42 ?_
    refine gIX6_74 rfl h1 dX6_refuseOneTooMany_43 ?_
    refine T_bipush (10 : Int32) (by decide) dX6_refuseOneTooMany_46 ?_
    refine T_icmp_ge 64 dX6_refuseOneTooMany_48 (by decide) (fun _ => ?_) (fun _ => ?_)
    · exact T_sub [0] rfl (uX6_refuseOneTooMany_64 X m )
    · exact T_sub [0, 1, 2] rfl (uX6_refuseOneTooMany_51 X r1 x2 m h1)
def jX6_refuseOneTooMany_25 (m : mMem) : mR := bV (fX6_refuse (4 : Int32) (m.1 49 7) m) (fun m2 => some (none, m2))
set_option maxRecDepth 100000 in
theorem uX6_refuseOneTooMany_25 (X : mCx) (m : mMem)  : T qX6_refuseOneTooMany X (jX6_refuseOneTooMany_25 m) 25 [(0, .ref 49)] [] m := by
  unfold jX6_refuseOneTooMany_25
  refine T_aload_n 0 rfl rfl dX6_refuseOneTooMany_25 ?_
  refine T_iconst (4 : Int32) (by decide) dX6_refuseOneTooMany_26 ?_
  refine T_aload_n 0 rfl rfl dX6_refuseOneTooMany_27 ?_
  refine gIX6_35 rfl kd_49 dX6_refuseOneTooMany_28 ?_
  refine T_cVV (c := 6) [.int (4 : Int32), .int (m.1 49 7)] [] mkX6_refuse lmX6_64 rfl rfl (by decide) (Nat.le_of_ble_eq_true rfl) kd_49 dX6_refuseOneTooMany_31 (bsX6_refuse _ (4 : Int32) (m.1 49 7) m) (fun m2 => ?_)
  refine T_goto 73 dX6_refuseOneTooMany_34 (by decide) ?_
  exact T_vret rfl dX6_refuseOneTooMany_73
def jX6_refuseOneTooMany_12 (r1 : Nat) (x2 : Int32) (m : mMem) : mR := if x2 = (6 : Int32) then if (m.1 49 9) = (0 : Int32) then jX6_refuseOneTooMany_37 r1 x2 m else jX6_refuseOneTooMany_25 m else jX6_refuseOneTooMany_37 r1 x2 m
set_option maxRecDepth 100000 in
theorem uX6_refuseOneTooMany_12 (X : mCx) (r1 : Nat) (x2 : Int32) (m : mMem) (h1 : kd r1 = (4, 0)) : T qX6_refuseOneTooMany X (jX6_refuseOneTooMany_12 r1 x2 m) 12 [(0, .ref 49), (1, .ref r1), (2, .int x2)] [] m := by
  unfold jX6_refuseOneTooMany_12
  refine T_iload_n 2 rfl rfl dX6_refuseOneTooMany_12 ?_
  refine T_bipush (6 : Int32) (by decide) dX6_refuseOneTooMany_13 ?_
  refine T_icmp_ne 37 dX6_refuseOneTooMany_15 (by decide) (fun _ => ?_) (fun _ => ?_)
  · refine T_aload_n 0 rfl rfl dX6_refuseOneTooMany_18 ?_
    refine gIX6_42 rfl kd_49 dX6_refuseOneTooMany_19 ?_
    refine T_if_eq 37 dX6_refuseOneTooMany_22 (by decide) (fun _ => ?_) (fun _ => ?_)
    · exact T_sub [0, 1, 2] rfl (uX6_refuseOneTooMany_37 X r1 x2 m h1)
    · exact T_sub [0] rfl (uX6_refuseOneTooMany_25 X m )
  · exact T_sub [0, 1, 2] rfl (uX6_refuseOneTooMany_37 X r1 x2 m h1)
def fX6_refuseOneTooMany (r1 : Nat) (x2 : Int32) (m : mMem) : mR := if x2 = (5 : Int32) then if (m.1 49 8) = (0 : Int32) then jX6_refuseOneTooMany_12 r1 x2 m else jX6_refuseOneTooMany_25 m else jX6_refuseOneTooMany_12 r1 x2 m
set_option maxRecDepth 100000 in
theorem bsX6_refuseOneTooMany (l : Launch) (r1 : Nat) (x2 : Int32) (m : mMem) (h1 : kd r1 = (4, 0)) : BS l qX6_refuseOneTooMany [.ref 49, .ref r1, .int x2] m (fX6_refuseOneTooMany r1 x2 m) := BS_of (by decide) (Nat.le_of_ble_eq_true rfl) (fun X _ => by
    show T qX6_refuseOneTooMany X (fX6_refuseOneTooMany r1 x2 m) 0 [(0, .ref 49), (1, .ref r1), (2, .int x2)] [] m
    unfold fX6_refuseOneTooMany
    refine T_iload_n 2 rfl rfl dX6_refuseOneTooMany_0 ?_
    refine T_iconst (5 : Int32) (by decide) dX6_refuseOneTooMany_1 ?_
    refine T_icmp_ne 12 dX6_refuseOneTooMany_2 (by decide) (fun _ => ?_) (fun _ => ?_)
    · refine T_aload_n 0 rfl rfl dX6_refuseOneTooMany_5 ?_
      refine gIX6_38 rfl kd_49 dX6_refuseOneTooMany_6 ?_
      refine T_if_ne 25 dX6_refuseOneTooMany_9 (by decide) (fun _ => ?_) (fun _ => ?_)
      · exact T_sub [0, 1, 2] rfl (uX6_refuseOneTooMany_12 X r1 x2 m h1)
      · exact T_sub [0] rfl (uX6_refuseOneTooMany_25 X m )
    · exact T_sub [0, 1, 2] rfl (uX6_refuseOneTooMany_12 X r1 x2 m h1))
theorem lfX6_25 : Cond.fieldLink RX6 25 "RankStairs$Tape" "numbers" "[I" ∈ gdL := gd_mem 88 (by decide +kernel) (by decide +kernel)
theorem gRX6_25 {q : mMI} {X : mCx} {tgt : mR} {pc : Nat} {lv : List (Nat × Value)} {st : List Value} {μ : mMem} {b : Nat} (hq : q.1.cls = RX6) (hb : kd b = (6, 0)) (z : Nat) (hz : rf b 4 = z) (hd : decode q.2.1 pc = .ok (.getfield 25, 3)) (h : T q X tgt (pc + 3) lv (.ref z :: st) μ) : T q X tgt pc lv (.ref b :: st) μ := T_getR (c := 6) rfl (by decide) rfl (by decide) (by rw [hq]; exact lfX6_25) hb z hz hd h
theorem lfX6_29 : Cond.fieldLink RX6 29 "RankStairs$Tape" "place" "I" ∈ gdL := gd_mem 89 (by decide +kernel) (by decide +kernel)
theorem gIX6_29 {q : mMI} {X : mCx} {tgt : mR} {pc : Nat} {lv : List (Nat × Value)} {st : List Value} {μ : mMem} {b : Nat} (hq : q.1.cls = RX6) (hb : kd b = (6, 0)) (hd : decode q.2.1 pc = .ok (.getfield 29, 3)) (h : T q X tgt (pc + 3) lv (.int (μ.1 b 5) :: st) μ) : T q X tgt pc lv (.ref b :: st) μ := T_getI (c := 6) rfl (by decide) rfl (by decide) (by rw [hq]; exact lfX6_29) hb hd h
theorem pIX6_29 {q : mMI} {X : mCx} {tgt : mR} {pc : Nat} {lv : List (Nat × Value)} {st : List Value} {μ : mMem} {b : Nat} {x : Int32} (hq : q.1.cls = RX6) (hn : narrow .int (.int x) = .int x) (hfit : fits .int (.int x) = true) (hb : kd b = (6, 0)) (hd : decode q.2.1 pc = .ok (.putfield 29, 3)) (h : T q X tgt (pc + 3) lv st (si μ b 5 x)) : T q X tgt pc lv (.int x :: .ref b :: st) μ := T_put (c := 6) rfl (by decide) rfl (by decide) (by rw [hq]; exact lfX6_29) (by decide) hn hfit hb hd h
theorem lfX6_32 : Cond.fieldLink RX6 32 "RankStairs$Tape" "token" "I" ∈ gdL := gd_mem 90 (by decide +kernel) (by decide +kernel)
theorem gIX6_32 {q : mMI} {X : mCx} {tgt : mR} {pc : Nat} {lv : List (Nat × Value)} {st : List Value} {μ : mMem} {b : Nat} (hq : q.1.cls = RX6) (hb : kd b = (6, 0)) (hd : decode q.2.1 pc = .ok (.getfield 32, 3)) (h : T q X tgt (pc + 3) lv (.int (μ.1 b 6) :: st) μ) : T q X tgt pc lv (.ref b :: st) μ := T_getI (c := 6) rfl (by decide) rfl (by decide) (by rw [hq]; exact lfX6_32) hb hd h
theorem pIX6_32 {q : mMI} {X : mCx} {tgt : mR} {pc : Nat} {lv : List (Nat × Value)} {st : List Value} {μ : mMem} {b : Nat} {x : Int32} (hq : q.1.cls = RX6) (hn : narrow .int (.int x) = .int x) (hfit : fits .int (.int x) = true) (hb : kd b = (6, 0)) (hd : decode q.2.1 pc = .ok (.putfield 32, 3)) (h : T q X tgt (pc + 3) lv st (si μ b 6 x)) : T q X tgt pc lv (.int x :: .ref b :: st) μ := T_put (c := 6) rfl (by decide) rfl (by decide) (by rw [hq]; exact lfX6_32) (by decide) hn hfit hb hd h
theorem lfX6_94 : Cond.fieldLink RX6 94 "RankStairs$Tape" "LEAST" "[I" ∈ gdL := gd_mem 452 (by decide +kernel) (by decide +kernel)
theorem lfX6_97 : Cond.fieldLink RX6 97 "RankStairs$Tape" "MOST" "[I" ∈ gdL := gd_mem 454 (by decide +kernel) (by decide +kernel)
def jX6_takeNumber_92 (x2 : Int32) (x3 : Int32) (m : mMem) : mR := bV (fX6_refuse (3 : Int32) (m.1 49 7) m) (fun m3 => ga x2 4 (lt (si m3 51 (x2).toNatClampNeg x3) (fun m4 => some (none, m4))))
set_option maxRecDepth 100000 in
theorem uX6_takeNumber_92 (X : mCx) (x2 : Int32) (x3 : Int32) (m : mMem)  : T qX6_takeNumber X (jX6_takeNumber_92 x2 x3 m) 92 [(0, .ref 49), (2, .int x2), (3, .int x3)] [] m := by
  unfold jX6_takeNumber_92
  refine T_aload_n 0 rfl rfl dX6_takeNumber_92 ?_
  refine T_iconst (3 : Int32) (by decide) dX6_takeNumber_93 ?_
  refine T_aload_n 0 rfl rfl dX6_takeNumber_94 ?_
  refine gIX6_35 rfl kd_49 dX6_takeNumber_95 ?_
  refine T_cVV (c := 6) [.int (3 : Int32), .int (m.1 49 7)] [] mkX6_refuse lmX6_64 rfl rfl (by decide) (Nat.le_of_ble_eq_true rfl) kd_49 dX6_takeNumber_98 (bsX6_refuse _ (3 : Int32) (m.1 49 7) m) (fun m3 => ?_)
  refine T_aload_n 0 rfl rfl dX6_takeNumber_101 ?_
  refine gRX6_25 rfl kd_49 51 rfl dX6_takeNumber_102 ?_
  refine T_iload_n 1 rfl rfl dX6_takeNumber_105 ?_
  refine T_iload_n 2 rfl rfl dX6_takeNumber_106 ?_
  refine T_iast _ rfl kd_51 dX6_takeNumber_107 ?_
  refine T_lt (fun m4 => ?_)
  exact T_vret rfl dX6_takeNumber_108
def bX6_takeNumber_34 (x1 : Int32) (x2 : Int32) (k34 : Int32 × Int32 × mMem → mR) (s : Int32 × Int32 × mMem) : mR := match s with
  | (x3, x4, m) => if (m.1 49 5) ≤ x4 then li ((x1 * (4 : Int32)) + x2) (fun y2 => ga y2 28 (if x3 < (tb115.getD (y2).toNatClampNeg 0) then jX6_takeNumber_92 x2 x3 m else ga y2 28 (if x3 ≤ (tb116.getD (y2).toNatClampNeg 0) then ga x2 4 (lt (si m 51 (x2).toNatClampNeg x3) (fun m5 => some (none, m5))) else jX6_takeNumber_92 x2 x3 m))) else ga x4 160 (li (((x3 * (10 : Int32)) + (m.1 50 (x4).toNatClampNeg)) - (48 : Int32)) (fun y6 => li (x4 + (1 : Int32)) (fun y7 => k34 (y6, y7, m))))
set_option maxRecDepth 100000 in
theorem tX6_takeNumber_34 (X : mCx) (x1 : Int32) (x2 : Int32)  : ∀ (n : Nat) (s : Int32 × Int32 × mMem), T qX6_takeNumber X (lp (bX6_takeNumber_34 x1 x2) n s) 34 [(0, .ref 49), (1, .int x1), (2, .int x2), (3, .int s.1), (4, .int s.2.1)] [] s.2.2 :=
  T_lp (body := bX6_takeNumber_34 x1 x2) (lv := fun s => [(0, .ref 49), (1, .int x1), (2, .int x2), (3, .int s.1), (4, .int s.2.1)]) (st := fun _ => []) (μ := fun s : Int32 × Int32 × mMem => s.2.2) (fun k34 hk34 s => by
    obtain ⟨x3, x4, m⟩ := s
    show T qX6_takeNumber X (bX6_takeNumber_34 x1 x2 k34 (x3, x4, m)) 34 [(0, .ref 49), (1, .int x1), (2, .int x2), (3, .int x3), (4, .int x4)] [] m
    unfold bX6_takeNumber_34
    dsimp only
    refine T_iload 4 rfl dX6_takeNumber_34 ?_
    refine T_aload_n 0 rfl rfl dX6_takeNumber_36 ?_
    refine gIX6_29 rfl kd_49 dX6_takeNumber_37 ?_
    refine T_icmp_ge 65 dX6_takeNumber_40 (by decide) (fun _ => ?_) (fun _ => ?_)
    · refine T_iload_n 1 rfl rfl dX6_takeNumber_65 ?_
      refine T_iconst (4 : Int32) (by decide) dX6_takeNumber_66 ?_
      refine T_imul dX6_takeNumber_67 ?_
      refine T_iload_n 2 rfl rfl dX6_takeNumber_68 ?_
      refine T_iadd dX6_takeNumber_69 ?_
      refine T_istore (lv' := [(4, .int ((x1 * (4 : Int32)) + x2)), (0, .ref 49), (1, .int x1), (2, .int x2), (3, .int x3)]) (Nat.le_of_ble_eq_true rfl) rfl dX6_takeNumber_70 ?_
      refine T_li (fun y2 => ?_)
      refine T_iload_n 4 rfl rfl dX6_takeNumber_72 ?_
      refine T_gs (x := .ref 115) zs115 lfX6_94 dX6_takeNumber_73 ?_
      refine T_iload 0 rfl dX6_takeNumber_76 ?_
      refine T_tald zt115 dX6_takeNumber_78 ?_
      refine T_icmp_lt 92 dX6_takeNumber_79 (by decide) (fun _ => ?_) (fun _ => ?_)
      · exact T_sub [1, 3, 4] rfl (uX6_takeNumber_92 X x2 x3 m )
      · refine T_iload_n 4 rfl rfl dX6_takeNumber_82 ?_
        refine T_gs (x := .ref 116) zs116 lfX6_97 dX6_takeNumber_83 ?_
        refine T_iload 0 rfl dX6_takeNumber_86 ?_
        refine T_tald zt116 dX6_takeNumber_88 ?_
        refine T_icmp_le 101 dX6_takeNumber_89 (by decide) (fun _ => ?_) (fun _ => ?_)
        · refine T_aload_n 1 rfl rfl dX6_takeNumber_101 ?_
          refine gRX6_25 rfl kd_49 51 rfl dX6_takeNumber_102 ?_
          refine T_iload_n 3 rfl rfl dX6_takeNumber_105 ?_
          refine T_iload_n 4 rfl rfl dX6_takeNumber_106 ?_
          refine T_iast _ rfl kd_51 dX6_takeNumber_107 ?_
          refine T_lt (fun m5 => ?_)
          exact T_vret rfl dX6_takeNumber_108
        · exact T_sub [1, 3, 4] rfl (uX6_takeNumber_92 X x2 x3 m )
    · refine T_iload_n 3 rfl rfl dX6_takeNumber_43 ?_
      refine T_bipush (10 : Int32) (by decide) dX6_takeNumber_44 ?_
      refine T_imul dX6_takeNumber_46 ?_
      refine T_aload_n 0 rfl rfl dX6_takeNumber_47 ?_
      refine gRX6_21 rfl kd_49 50 rfl dX6_takeNumber_48 ?_
      refine T_iload 4 rfl dX6_takeNumber_51 ?_
      refine T_bald kd_50 dX6_takeNumber_53 ?_
      refine T_iadd dX6_takeNumber_54 ?_
      refine T_bipush (48 : Int32) (by decide) dX6_takeNumber_55 ?_
      refine T_isub dX6_takeNumber_57 ?_
      refine T_istore_n (lv' := [(3, .int (((x3 * (10 : Int32)) + (m.1 50 (x4).toNatClampNeg)) - (48 : Int32))), (0, .ref 49), (1, .int x1), (2, .int x2), (4, .int x4)]) rfl (Nat.le_of_ble_eq_true rfl) rfl dX6_takeNumber_58 ?_
      refine T_li (fun y6 => ?_)
      refine T_iinc (lv' := [(4, .int (x4 + (1 : Int32))), (3, .int y6), (0, .ref 49), (1, .int x1), (2, .int x2)]) 4 (1 : Int32) rfl (by decide) (Nat.le_of_ble_eq_true rfl) rfl dX6_takeNumber_59 ?_
      refine T_li (fun y7 => ?_)
      refine T_goto 34 dX6_takeNumber_62 (by decide) ?_
      exact T_sub [2, 3, 4, 1, 0] rfl (hk34 (y6, y7, m)))
def fX6_takeNumber (x1 : Int32) (x2 : Int32) (m : mMem) : mR := if (m.1 49 1) = (0 : Int32) then if (m.1 49 6) = (2 : Int32) then li (m.1 49 7) (fun y1 => lp (bX6_takeNumber_34 x1 x2) FU ((0 : Int32), y1, m)) else bV (fX6_refuse (2 : Int32) (m.1 49 7) m) (fun m8 => some (none, m8)) else some (none, m)
set_option maxRecDepth 100000 in
theorem bsX6_takeNumber (l : Launch) (x1 : Int32) (x2 : Int32) (m : mMem)  : BS l qX6_takeNumber [.ref 49, .int x1, .int x2] m (fX6_takeNumber x1 x2 m) := BS_of (by decide) (Nat.le_of_ble_eq_true rfl) (fun X _ => by
    show T qX6_takeNumber X (fX6_takeNumber x1 x2 m) 0 [(0, .ref 49), (1, .int x1), (2, .int x2)] [] m
    unfold fX6_takeNumber
    refine T_aload_n 0 rfl rfl dX6_takeNumber_0 ?_
    refine gIX6_15 rfl kd_49 dX6_takeNumber_1 ?_
    refine T_if_eq 8 dX6_takeNumber_4 (by decide) (fun _ => ?_) (fun _ => ?_)
    · refine T_aload_n 0 rfl rfl dX6_takeNumber_8 ?_
      refine gIX6_32 rfl kd_49 dX6_takeNumber_9 ?_
      refine T_iconst (2 : Int32) (by decide) dX6_takeNumber_12 ?_
      refine T_icmp_eq 26 dX6_takeNumber_13 (by decide) (fun _ => ?_) (fun _ => ?_)
      · refine T_iconst (0 : Int32) (by decide) dX6_takeNumber_26 ?_
        refine T_istore_n (lv' := [(3, .int (0 : Int32)), (0, .ref 49), (1, .int x1), (2, .int x2)]) rfl (Nat.le_of_ble_eq_true rfl) rfl dX6_takeNumber_27 ?_
        refine T_aload_n 1 rfl rfl dX6_takeNumber_28 ?_
        refine gIX6_35 rfl kd_49 dX6_takeNumber_29 ?_
        refine T_istore (lv' := [(4, .int (m.1 49 7)), (3, .int (0 : Int32)), (0, .ref 49), (1, .int x1), (2, .int x2)]) (Nat.le_of_ble_eq_true rfl) rfl dX6_takeNumber_32 ?_
        refine T_li (fun y1 => ?_)
        exact T_sub [2, 3, 4, 1, 0] rfl (tX6_takeNumber_34 X x1 x2  FU ((0 : Int32), y1, m))
      · refine T_aload_n 0 rfl rfl dX6_takeNumber_16 ?_
        refine T_iconst (2 : Int32) (by decide) dX6_takeNumber_17 ?_
        refine T_aload_n 0 rfl rfl dX6_takeNumber_18 ?_
        refine gIX6_35 rfl kd_49 dX6_takeNumber_19 ?_
        refine T_cVV (c := 6) [.int (2 : Int32), .int (m.1 49 7)] [] mkX6_refuse lmX6_64 rfl rfl (by decide) (Nat.le_of_ble_eq_true rfl) kd_49 dX6_takeNumber_22 (bsX6_refuse _ (2 : Int32) (m.1 49 7) m) (fun m8 => ?_)
        exact T_vret rfl dX6_takeNumber_25
    · exact T_vret rfl dX6_takeNumber_7)
theorem lmX6_100 : Cond.methodLink RX6 100 yX4_addLodger ∈ gdL := gd_mem 464 (by decide +kernel) (by decide +kernel)
theorem lmX6_110 : Cond.methodLink RX6 110 yX4_addStep ∈ gdL := gd_mem 468 (by decide +kernel) (by decide +kernel)
theorem lfX6_104 : Cond.fieldLink RX6 104 "RankStairs$House" "gapLaw" "I" ∈ gdL := gd_mem 137 (by decide +kernel) (by decide +kernel)
theorem gIX6_104 {q : mMI} {X : mCx} {tgt : mR} {pc : Nat} {lv : List (Nat × Value)} {st : List Value} {μ : mMem} {b : Nat} (hq : q.1.cls = RX6) (hb : kd b = (4, 0)) (hd : decode q.2.1 pc = .ok (.getfield 104, 3)) (h : T q X tgt (pc + 3) lv (.int (μ.1 b 2) :: st) μ) : T q X tgt pc lv (.ref b :: st) μ := T_getI (c := 4) rfl (by decide) rfl (by decide) (by rw [hq]; exact lfX6_104) hb hd h
theorem pIX6_104 {q : mMI} {X : mCx} {tgt : mR} {pc : Nat} {lv : List (Nat × Value)} {st : List Value} {μ : mMem} {b : Nat} {x : Int32} (hq : q.1.cls = RX6) (hn : narrow .int (.int x) = .int x) (hfit : fits .int (.int x) = true) (hb : kd b = (4, 0)) (hd : decode q.2.1 pc = .ok (.putfield 104, 3)) (h : T q X tgt (pc + 3) lv st (si μ b 2 x)) : T q X tgt pc lv (.int x :: .ref b :: st) μ := T_put (c := 4) rfl (by decide) rfl (by decide) (by rw [hq]; exact lfX6_104) (by decide) hn hfit hb hd h
theorem lfX6_107 : Cond.fieldLink RX6 107 "RankStairs$House" "holdLaw" "I" ∈ gdL := gd_mem 140 (by decide +kernel) (by decide +kernel)
theorem gIX6_107 {q : mMI} {X : mCx} {tgt : mR} {pc : Nat} {lv : List (Nat × Value)} {st : List Value} {μ : mMem} {b : Nat} (hq : q.1.cls = RX6) (hb : kd b = (4, 0)) (hd : decode q.2.1 pc = .ok (.getfield 107, 3)) (h : T q X tgt (pc + 3) lv (.int (μ.1 b 3) :: st) μ) : T q X tgt pc lv (.ref b :: st) μ := T_getI (c := 4) rfl (by decide) rfl (by decide) (by rw [hq]; exact lfX6_107) hb hd h
theorem pIX6_107 {q : mMI} {X : mCx} {tgt : mR} {pc : Nat} {lv : List (Nat × Value)} {st : List Value} {μ : mMem} {b : Nat} {x : Int32} (hq : q.1.cls = RX6) (hn : narrow .int (.int x) = .int x) (hfit : fits .int (.int x) = true) (hb : kd b = (4, 0)) (hd : decode q.2.1 pc = .ok (.putfield 107, 3)) (h : T q X tgt (pc + 3) lv st (si μ b 3 x)) : T q X tgt pc lv (.int x :: .ref b :: st) μ := T_put (c := 4) rfl (by decide) rfl (by decide) (by rw [hq]; exact lfX6_107) (by decide) hn hfit hb hd h
def fX6_tellLine (r1 : Nat) (x2 : Int32) (m : mMem) : mR := if x2 = (4 : Int32) then ga (0 : Int32) 4 (ga (1 : Int32) 4 (ga (2 : Int32) 4 (ga (3 : Int32) 4 (bV (fX4_addLodger r1 (m.1 51 ((0 : Int32)).toNatClampNeg) (m.1 51 ((1 : Int32)).toNatClampNeg) (m.1 51 ((2 : Int32)).toNatClampNeg) (m.1 51 ((3 : Int32)).toNatClampNeg) m) (fun m1 => some (none, m1)))))) else if x2 = (5 : Int32) then ga (0 : Int32) 4 (lt (si m r1 2 (m.1 51 ((0 : Int32)).toNatClampNeg)) (fun m2 => lt (si m2 49 8 (1 : Int32)) (fun m3 => some (none, m3)))) else if x2 = (6 : Int32) then ga (0 : Int32) 4 (lt (si m r1 3 (m.1 51 ((0 : Int32)).toNatClampNeg)) (fun m4 => lt (si m4 49 9 (1 : Int32)) (fun m5 => some (none, m5)))) else ga (0 : Int32) 4 (ga (1 : Int32) 4 (bV (fX4_addStep r1 x2 (m.1 51 ((0 : Int32)).toNatClampNeg) (m.1 51 ((1 : Int32)).toNatClampNeg) m) (fun m6 => some (none, m6))))
set_option maxRecDepth 100000 in
theorem bsX6_tellLine (l : Launch) (r1 : Nat) (x2 : Int32) (m : mMem) (h1 : kd r1 = (4, 0)) : BS l qX6_tellLine [.ref 49, .ref r1, .int x2] m (fX6_tellLine r1 x2 m) := BS_of (by decide) (Nat.le_of_ble_eq_true rfl) (fun X _ => by
    show T qX6_tellLine X (fX6_tellLine r1 x2 m) 0 [(0, .ref 49), (1, .ref r1), (2, .int x2)] [] m
    unfold fX6_tellLine
    refine T_iload_n 2 rfl rfl dX6_tellLine_0 ?_
    refine T_ite (fun hc => ?_) (fun hn0 => ?_)
    · refine T_tsIn (4 : Int32) 28 hc dX6_tellLine_1 (by decide) (by decide) rfl (by decide) ?_
      refine T_aload_n 1 rfl rfl dX6_tellLine_28 ?_
      refine T_aload_n 0 rfl rfl dX6_tellLine_29 ?_
      refine gRX6_25 rfl kd_49 51 rfl dX6_tellLine_30 ?_
      refine T_iconst (0 : Int32) (by decide) dX6_tellLine_33 ?_
      refine T_iald kd_51 dX6_tellLine_34 ?_
      refine T_aload_n 0 rfl rfl dX6_tellLine_35 ?_
      refine gRX6_25 rfl kd_49 51 rfl dX6_tellLine_36 ?_
      refine T_iconst (1 : Int32) (by decide) dX6_tellLine_39 ?_
      refine T_iald kd_51 dX6_tellLine_40 ?_
      refine T_aload_n 0 rfl rfl dX6_tellLine_41 ?_
      refine gRX6_25 rfl kd_49 51 rfl dX6_tellLine_42 ?_
      refine T_iconst (2 : Int32) (by decide) dX6_tellLine_45 ?_
      refine T_iald kd_51 dX6_tellLine_46 ?_
      refine T_aload_n 0 rfl rfl dX6_tellLine_47 ?_
      refine gRX6_25 rfl kd_49 51 rfl dX6_tellLine_48 ?_
      refine T_iconst (3 : Int32) (by decide) dX6_tellLine_51 ?_
      refine T_iald kd_51 dX6_tellLine_52 ?_
      refine T_cVV (c := 4) [.int (m.1 51 ((0 : Int32)).toNatClampNeg), .int (m.1 51 ((1 : Int32)).toNatClampNeg), .int (m.1 51 ((2 : Int32)).toNatClampNeg), .int (m.1 51 ((3 : Int32)).toNatClampNeg)] [] mkX4_addLodger lmX6_100 rfl rfl (by decide) (Nat.le_of_ble_eq_true rfl) h1 dX6_tellLine_53 (bsX4_addLodger _ r1 (m.1 51 ((0 : Int32)).toNatClampNeg) (m.1 51 ((1 : Int32)).toNatClampNeg) (m.1 51 ((2 : Int32)).toNatClampNeg) (m.1 51 ((3 : Int32)).toNatClampNeg) m h1) (fun m1 => ?_)
      refine T_goto 112 dX6_tellLine_56 (by decide) ?_
      exact T_vret rfl dX6_tellLine_112
    · refine T_ite (fun hc => ?_) (fun hn1 => ?_)
      · refine T_tsIn (5 : Int32) 59 hc dX6_tellLine_1 (by decide) (by decide) rfl (by decide) ?_
        refine T_aload_n 1 rfl rfl dX6_tellLine_59 ?_
        refine T_aload_n 0 rfl rfl dX6_tellLine_60 ?_
        refine gRX6_25 rfl kd_49 51 rfl dX6_tellLine_61 ?_
        refine T_iconst (0 : Int32) (by decide) dX6_tellLine_64 ?_
        refine T_iald kd_51 dX6_tellLine_65 ?_
        refine pIX6_104 rfl rfl rfl h1 dX6_tellLine_66 ?_
        refine T_lt (fun m2 => ?_)
        refine T_aload_n 0 rfl rfl dX6_tellLine_69 ?_
        refine T_iconst (1 : Int32) (by decide) dX6_tellLine_70 ?_
        refine pIX6_38 rfl rfl rfl kd_49 dX6_tellLine_71 ?_
        refine T_lt (fun m3 => ?_)
        refine T_goto 112 dX6_tellLine_74 (by decide) ?_
        exact T_vret rfl dX6_tellLine_112
      · refine T_ite (fun hc => ?_) (fun hn2 => ?_)
        · refine T_tsIn (6 : Int32) 77 hc dX6_tellLine_1 (by decide) (by decide) rfl (by decide) ?_
          refine T_aload_n 1 rfl rfl dX6_tellLine_77 ?_
          refine T_aload_n 0 rfl rfl dX6_tellLine_78 ?_
          refine gRX6_25 rfl kd_49 51 rfl dX6_tellLine_79 ?_
          refine T_iconst (0 : Int32) (by decide) dX6_tellLine_82 ?_
          refine T_iald kd_51 dX6_tellLine_83 ?_
          refine pIX6_107 rfl rfl rfl h1 dX6_tellLine_84 ?_
          refine T_lt (fun m4 => ?_)
          refine T_aload_n 0 rfl rfl dX6_tellLine_87 ?_
          refine T_iconst (1 : Int32) (by decide) dX6_tellLine_88 ?_
          refine pIX6_42 rfl rfl rfl kd_49 dX6_tellLine_89 ?_
          refine T_lt (fun m5 => ?_)
          refine T_goto 112 dX6_tellLine_92 (by decide) ?_
          exact T_vret rfl dX6_tellLine_112
        · refine T_tsOut 95 (by have e0 := neT (k := 4) hn0 (by decide); have e1 := neT (k := 5) hn1 (by decide); have e2 := neT (k := 6) hn2 (by decide); omega) dX6_tellLine_1 (by decide) ?_
          refine T_aload_n 1 rfl rfl dX6_tellLine_95 ?_
          refine T_iload_n 2 rfl rfl dX6_tellLine_96 ?_
          refine T_aload_n 0 rfl rfl dX6_tellLine_97 ?_
          refine gRX6_25 rfl kd_49 51 rfl dX6_tellLine_98 ?_
          refine T_iconst (0 : Int32) (by decide) dX6_tellLine_101 ?_
          refine T_iald kd_51 dX6_tellLine_102 ?_
          refine T_aload_n 0 rfl rfl dX6_tellLine_103 ?_
          refine gRX6_25 rfl kd_49 51 rfl dX6_tellLine_104 ?_
          refine T_iconst (1 : Int32) (by decide) dX6_tellLine_107 ?_
          refine T_iald kd_51 dX6_tellLine_108 ?_
          refine T_cVV (c := 4) [.int x2, .int (m.1 51 ((0 : Int32)).toNatClampNeg), .int (m.1 51 ((1 : Int32)).toNatClampNeg)] [] mkX4_addStep lmX6_110 rfl rfl (by decide) (Nat.le_of_ble_eq_true rfl) h1 dX6_tellLine_109 (bsX4_addStep _ r1 x2 (m.1 51 ((0 : Int32)).toNatClampNeg) (m.1 51 ((1 : Int32)).toNatClampNeg) m h1) (fun m6 => ?_)
          exact T_vret rfl dX6_tellLine_112)
theorem lmX6_114 : Cond.methodLink RX6 114 yX6_kindOfByte ∈ gdL := gd_mem 365 (by decide +kernel) (by decide +kernel)
def jX6_takeToken_168 (m : mMem) : mR := if (m.1 49 6) = (2 : Int32) then if ((m.1 49 5) - (m.1 49 7)) ≤ (2 : Int32) then some (none, m) else bV (fX6_refuse (1 : Int32) (m.1 49 7) m) (fun m5 => some (none, m5)) else some (none, m)
set_option maxRecDepth 100000 in
theorem uX6_takeToken_168 (X : mCx) (m : mMem)  : T qX6_takeToken X (jX6_takeToken_168 m) 168 [(0, .ref 49)] [] m := by
  unfold jX6_takeToken_168
  refine T_aload_n 0 rfl rfl dX6_takeToken_168 ?_
  refine gIX6_32 rfl kd_49 dX6_takeToken_169 ?_
  refine T_iconst (2 : Int32) (by decide) dX6_takeToken_172 ?_
  refine T_icmp_ne 198 dX6_takeToken_173 (by decide) (fun _ => ?_) (fun _ => ?_)
  · refine T_aload_n 0 rfl rfl dX6_takeToken_176 ?_
    refine gIX6_29 rfl kd_49 dX6_takeToken_177 ?_
    refine T_aload_n 0 rfl rfl dX6_takeToken_180 ?_
    refine gIX6_35 rfl kd_49 dX6_takeToken_181 ?_
    refine T_isub dX6_takeToken_184 ?_
    refine T_iconst (2 : Int32) (by decide) dX6_takeToken_185 ?_
    refine T_icmp_le 198 dX6_takeToken_186 (by decide) (fun _ => ?_) (fun _ => ?_)
    · exact T_vret rfl dX6_takeToken_198
    · refine T_aload_n 0 rfl rfl dX6_takeToken_189 ?_
      refine T_iconst (1 : Int32) (by decide) dX6_takeToken_190 ?_
      refine T_aload_n 0 rfl rfl dX6_takeToken_191 ?_
      refine gIX6_35 rfl kd_49 dX6_takeToken_192 ?_
      refine T_cVV (c := 6) [.int (1 : Int32), .int (m.1 49 7)] [] mkX6_refuse lmX6_64 rfl rfl (by decide) (Nat.le_of_ble_eq_true rfl) kd_49 dX6_takeToken_195 (bsX6_refuse _ (1 : Int32) (m.1 49 7) m) (fun m5 => ?_)
      exact T_vret rfl dX6_takeToken_198
  · exact T_vret rfl dX6_takeToken_198
def bX6_takeToken_125  (k125 : mMem → mR) (s : mMem) : mR := match s with
  | m => if (m.1 49 0) ≤ (m.1 49 5) then jX6_takeToken_168 m else ga (m.1 49 5) 160 (bI (fX6_kindOfByte (m.1 50 ((m.1 49 5)).toNatClampNeg) m) (fun z7 m6 => if z7 = (m6.1 49 6) then lt (si m6 49 5 ((m6.1 49 5) + (1 : Int32))) (fun m9 => k125 m9) else jX6_takeToken_168 m6))
set_option maxRecDepth 100000 in
theorem tX6_takeToken_125 (X : mCx)   : ∀ (n : Nat) (s : mMem), T qX6_takeToken X (lp (bX6_takeToken_125 ) n s) 125 [(0, .ref 49)] [] s :=
  T_lp (body := bX6_takeToken_125 ) (lv := fun s => [(0, .ref 49)]) (st := fun _ => []) (μ := fun s : mMem => s) (fun k125 hk125 s => by
    obtain ⟨m, hms⟩ : ∃ z, z = s := ⟨s, rfl⟩
    subst hms
    show T qX6_takeToken X (bX6_takeToken_125  k125 m) 125 [(0, .ref 49)] [] m
    unfold bX6_takeToken_125
    dsimp only
    refine T_aload_n 0 rfl rfl dX6_takeToken_125 ?_
    refine gIX6_29 rfl kd_49 dX6_takeToken_126 ?_
    refine T_aload_n 0 rfl rfl dX6_takeToken_129 ?_
    refine gIX6_9 rfl kd_49 dX6_takeToken_130 ?_
    refine T_icmp_ge 168 dX6_takeToken_133 (by decide) (fun _ => ?_) (fun _ => ?_)
    · exact T_sub [0] rfl (uX6_takeToken_168 X m )
    · refine T_aload_n 0 rfl rfl dX6_takeToken_136 ?_
      refine gRX6_21 rfl kd_49 50 rfl dX6_takeToken_137 ?_
      refine T_aload_n 0 rfl rfl dX6_takeToken_140 ?_
      refine gIX6_29 rfl kd_49 dX6_takeToken_141 ?_
      refine T_bald kd_50 dX6_takeToken_144 ?_
      refine T_cSI [.int (m.1 50 ((m.1 49 5)).toNatClampNeg)] [] mkX6_kindOfByte lmX6_114 rfl (by decide) (Nat.le_of_ble_eq_true rfl) dX6_takeToken_145 (bsX6_kindOfByte _ (m.1 50 ((m.1 49 5)).toNatClampNeg) m) (fun z7 m6 => ?_)
      refine T_aload_n 0 rfl rfl dX6_takeToken_148 ?_
      refine gIX6_32 rfl kd_49 dX6_takeToken_149 ?_
      refine T_icmp_ne 168 dX6_takeToken_152 (by decide) (fun _ => ?_) (fun _ => ?_)
      · refine T_aload_n 0 rfl rfl dX6_takeToken_155 ?_
        refine T_dup rfl dX6_takeToken_156 ?_
        refine gIX6_29 rfl kd_49 dX6_takeToken_157 ?_
        refine T_iconst (1 : Int32) (by decide) dX6_takeToken_160 ?_
        refine T_iadd dX6_takeToken_161 ?_
        refine pIX6_29 rfl rfl rfl kd_49 dX6_takeToken_162 ?_
        refine T_lt (fun m9 => ?_)
        refine T_goto 125 dX6_takeToken_165 (by decide) ?_
        exact T_sub [0] rfl (hk125 m9)
      · exact T_sub [0] rfl (uX6_takeToken_168 X m6 ))
def jX6_takeToken_74 (xs0 : Int32) (m : mMem) : mR := lt (si m 49 6 xs0) (fun m2 => if (m2.1 49 6) = (0 : Int32) then bV (fX6_refuse (1 : Int32) (m2.1 49 7) m2) (fun m3 => some (none, m3)) else if (m2.1 49 6) = (3 : Int32) then lt (si m2 49 5 ((m2.1 49 5) + (1 : Int32))) (fun m4 => some (none, m4)) else if (m2.1 49 6) = (4 : Int32) then some (none, m2) else lp (bX6_takeToken_125 ) FU m2)
set_option maxRecDepth 100000 in
theorem uX6_takeToken_74 (X : mCx) (xs0 : Int32) (m : mMem)  : T qX6_takeToken X (jX6_takeToken_74 xs0 m) 74 [(0, .ref 49)] [.int xs0, .ref 49] m := by
  unfold jX6_takeToken_74
  refine pIX6_32 rfl rfl rfl kd_49 dX6_takeToken_74 ?_
  refine T_lt (fun m2 => ?_)
  refine T_aload_n 0 rfl rfl dX6_takeToken_77 ?_
  refine gIX6_32 rfl kd_49 dX6_takeToken_78 ?_
  refine T_if_ne 96 dX6_takeToken_81 (by decide) (fun _ => ?_) (fun _ => ?_)
  · refine T_aload_n 0 rfl rfl dX6_takeToken_84 ?_
    refine T_iconst (1 : Int32) (by decide) dX6_takeToken_85 ?_
    refine T_aload_n 0 rfl rfl dX6_takeToken_86 ?_
    refine gIX6_35 rfl kd_49 dX6_takeToken_87 ?_
    refine T_cVV (c := 6) [.int (1 : Int32), .int (m2.1 49 7)] [] mkX6_refuse lmX6_64 rfl rfl (by decide) (Nat.le_of_ble_eq_true rfl) kd_49 dX6_takeToken_90 (bsX6_refuse _ (1 : Int32) (m2.1 49 7) m2) (fun m3 => ?_)
    refine T_goto 198 dX6_takeToken_93 (by decide) ?_
    exact T_vret rfl dX6_takeToken_198
  · refine T_aload_n 0 rfl rfl dX6_takeToken_96 ?_
    refine gIX6_32 rfl kd_49 dX6_takeToken_97 ?_
    refine T_iconst (3 : Int32) (by decide) dX6_takeToken_100 ?_
    refine T_icmp_ne 117 dX6_takeToken_101 (by decide) (fun _ => ?_) (fun _ => ?_)
    · refine T_aload_n 0 rfl rfl dX6_takeToken_104 ?_
      refine T_dup rfl dX6_takeToken_105 ?_
      refine gIX6_29 rfl kd_49 dX6_takeToken_106 ?_
      refine T_iconst (1 : Int32) (by decide) dX6_takeToken_109 ?_
      refine T_iadd dX6_takeToken_110 ?_
      refine pIX6_29 rfl rfl rfl kd_49 dX6_takeToken_111 ?_
      refine T_lt (fun m4 => ?_)
      refine T_goto 198 dX6_takeToken_114 (by decide) ?_
      exact T_vret rfl dX6_takeToken_198
    · refine T_aload_n 0 rfl rfl dX6_takeToken_117 ?_
      refine gIX6_32 rfl kd_49 dX6_takeToken_118 ?_
      refine T_iconst (4 : Int32) (by decide) dX6_takeToken_121 ?_
      refine T_icmp_eq 198 dX6_takeToken_122 (by decide) (fun _ => ?_) (fun _ => ?_)
      · exact T_vret rfl dX6_takeToken_198
      · exact T_sub [0] rfl (tX6_takeToken_125 X   FU m2)
def jX6_takeToken_38 (m : mMem) : mR := lt (si m 49 7 (m.1 49 5)) (fun m1 => if (m1.1 49 0) ≤ (m1.1 49 5) then jX6_takeToken_74 (4 : Int32) m1 else ga (m1.1 49 5) 160 (bI (fX6_kindOfByte (m1.1 50 ((m1.1 49 5)).toNatClampNeg) m1) (fun z11 m10 => jX6_takeToken_74 z11 m10)))
set_option maxRecDepth 100000 in
theorem uX6_takeToken_38 (X : mCx) (m : mMem)  : T qX6_takeToken X (jX6_takeToken_38 m) 38 [(0, .ref 49)] [] m := by
  unfold jX6_takeToken_38
  refine T_aload_n 0 rfl rfl dX6_takeToken_38 ?_
  refine T_aload_n 0 rfl rfl dX6_takeToken_39 ?_
  refine gIX6_29 rfl kd_49 dX6_takeToken_40 ?_
  refine pIX6_35 rfl rfl rfl kd_49 dX6_takeToken_43 ?_
  refine T_lt (fun m1 => ?_)
  refine T_aload_n 0 rfl rfl dX6_takeToken_46 ?_
  refine T_aload_n 0 rfl rfl dX6_takeToken_47 ?_
  refine gIX6_29 rfl kd_49 dX6_takeToken_48 ?_
  refine T_aload_n 0 rfl rfl dX6_takeToken_51 ?_
  refine gIX6_9 rfl kd_49 dX6_takeToken_52 ?_
  refine T_icmp_ge 73 dX6_takeToken_55 (by decide) (fun _ => ?_) (fun _ => ?_)
  · refine T_iconst (4 : Int32) (by decide) dX6_takeToken_73 ?_
    exact T_sub [0] rfl (uX6_takeToken_74 X (4 : Int32) m1 )
  · refine T_aload_n 0 rfl rfl dX6_takeToken_58 ?_
    refine gRX6_21 rfl kd_49 50 rfl dX6_takeToken_59 ?_
    refine T_aload_n 0 rfl rfl dX6_takeToken_62 ?_
    refine gIX6_29 rfl kd_49 dX6_takeToken_63 ?_
    refine T_bald kd_50 dX6_takeToken_66 ?_
    refine T_cSI [.int (m1.1 50 ((m1.1 49 5)).toNatClampNeg)] [.ref 49] mkX6_kindOfByte lmX6_114 rfl (by decide) (Nat.le_of_ble_eq_true rfl) dX6_takeToken_67 (bsX6_kindOfByte _ (m1.1 50 ((m1.1 49 5)).toNatClampNeg) m1) (fun z11 m10 => ?_)
    refine T_goto 74 dX6_takeToken_70 (by decide) ?_
    exact T_sub [0] rfl (uX6_takeToken_74 X z11 m10 )
def bX6_takeToken_0  (k0 : mMem → mR) (s : mMem) : mR := match s with
  | m => if (m.1 49 0) ≤ (m.1 49 5) then jX6_takeToken_38 m else ga (m.1 49 5) 160 (if (m.1 50 ((m.1 49 5)).toNatClampNeg) = (32 : Int32) then lt (si m 49 5 ((m.1 49 5) + (1 : Int32))) (fun m13 => k0 m13) else jX6_takeToken_38 m)
set_option maxRecDepth 100000 in
theorem tX6_takeToken_0 (X : mCx)   : ∀ (n : Nat) (s : mMem), T qX6_takeToken X (lp (bX6_takeToken_0 ) n s) 0 [(0, .ref 49)] [] s :=
  T_lp (body := bX6_takeToken_0 ) (lv := fun s => [(0, .ref 49)]) (st := fun _ => []) (μ := fun s : mMem => s) (fun k0 hk0 s => by
    obtain ⟨m, hms⟩ : ∃ z, z = s := ⟨s, rfl⟩
    subst hms
    show T qX6_takeToken X (bX6_takeToken_0  k0 m) 0 [(0, .ref 49)] [] m
    unfold bX6_takeToken_0
    dsimp only
    refine T_aload_n 0 rfl rfl dX6_takeToken_0 ?_
    refine gIX6_29 rfl kd_49 dX6_takeToken_1 ?_
    refine T_aload_n 0 rfl rfl dX6_takeToken_4 ?_
    refine gIX6_9 rfl kd_49 dX6_takeToken_5 ?_
    refine T_icmp_ge 38 dX6_takeToken_8 (by decide) (fun _ => ?_) (fun _ => ?_)
    · exact T_sub [0] rfl (uX6_takeToken_38 X m )
    · refine T_aload_n 0 rfl rfl dX6_takeToken_11 ?_
      refine gRX6_21 rfl kd_49 50 rfl dX6_takeToken_12 ?_
      refine T_aload_n 0 rfl rfl dX6_takeToken_15 ?_
      refine gIX6_29 rfl kd_49 dX6_takeToken_16 ?_
      refine T_bald kd_50 dX6_takeToken_19 ?_
      refine T_bipush (32 : Int32) (by decide) dX6_takeToken_20 ?_
      refine T_icmp_ne 38 dX6_takeToken_22 (by decide) (fun _ => ?_) (fun _ => ?_)
      · refine T_aload_n 0 rfl rfl dX6_takeToken_25 ?_
        refine T_dup rfl dX6_takeToken_26 ?_
        refine gIX6_29 rfl kd_49 dX6_takeToken_27 ?_
        refine T_iconst (1 : Int32) (by decide) dX6_takeToken_30 ?_
        refine T_iadd dX6_takeToken_31 ?_
        refine pIX6_29 rfl rfl rfl kd_49 dX6_takeToken_32 ?_
        refine T_lt (fun m13 => ?_)
        refine T_goto 0 dX6_takeToken_35 (by decide) ?_
        exact T_sub [0] rfl (hk0 m13)
      · exact T_sub [0] rfl (uX6_takeToken_38 X m ))
def fX6_takeToken  (m : mMem) : mR := lp (bX6_takeToken_0 ) FU m
set_option maxRecDepth 100000 in
theorem bsX6_takeToken (l : Launch)  (m : mMem)  : BS l qX6_takeToken [.ref 49] m (fX6_takeToken  m) := BS_of (by decide) (Nat.le_of_ble_eq_true rfl) (fun X _ => by
    show T qX6_takeToken X (fX6_takeToken  m) 0 [(0, .ref 49)] [] m
    unfold fX6_takeToken
    exact T_sub [0] rfl (tX6_takeToken_0 X   FU m))
theorem lmX6_50 : Cond.methodLink RX6 50 yX6_takeToken ∈ gdL := gd_mem 361 (by decide +kernel) (by decide +kernel)
def fX6_takeTokenIfSound  (m : mMem) : mR := if (m.1 49 1) = (0 : Int32) then bV (fX6_takeToken m) (fun m1 => some (none, m1)) else some (none, m)
set_option maxRecDepth 100000 in
theorem bsX6_takeTokenIfSound (l : Launch)  (m : mMem)  : BS l qX6_takeTokenIfSound [.ref 49] m (fX6_takeTokenIfSound  m) := BS_of (by decide) (Nat.le_of_ble_eq_true rfl) (fun X _ => by
    show T qX6_takeTokenIfSound X (fX6_takeTokenIfSound  m) 0 [(0, .ref 49)] [] m
    unfold fX6_takeTokenIfSound
    refine T_aload_n 0 rfl rfl dX6_takeTokenIfSound_0 ?_
    refine gIX6_15 rfl kd_49 dX6_takeTokenIfSound_1 ?_
    refine T_if_ne 11 dX6_takeTokenIfSound_4 (by decide) (fun _ => ?_) (fun _ => ?_)
    · refine T_aload_n 0 rfl rfl dX6_takeTokenIfSound_7 ?_
      refine T_cVV (c := 6) [] [] mkX6_takeToken lmX6_50 rfl rfl (by decide) (Nat.le_of_ble_eq_true rfl) kd_49 dX6_takeTokenIfSound_8 (bsX6_takeToken _  m) (fun m1 => ?_)
      exact T_vret rfl dX6_takeTokenIfSound_11
    · exact T_vret rfl dX6_takeTokenIfSound_11)
theorem lmX6_126 : Cond.methodLink RX6 126 yJ0_length_8abf5 ∈ gdL := gd_mem 394 (by decide +kernel) (by decide +kernel)
theorem lmX6_130 : Cond.methodLink RX6 130 yJ0_charAt_5068e ∈ gdL := gd_mem 404 (by decide +kernel) (by decide +kernel)
def bX6_isTokenNamed_20 (r1 : Nat) (k20 : Int32 × mMem → mR) (s : Int32 × mMem) : mR := match s with
  | (x2, m) => bI (fJ0_length_8abf5 r1 m) (fun z5 m4 => if z5 ≤ x2 then some (some (.int (1 : Int32)), m4) else ga ((m4.1 49 7) + x2) 160 (bI (fJ0_charAt_5068e r1 x2 m4) (fun z8 m7 => if (m4.1 50 (((m4.1 49 7) + x2)).toNatClampNeg) = z8 then li (x2 + (1 : Int32)) (fun y10 => k20 (y10, m7)) else some (some (.int (0 : Int32)), m7))))
set_option maxRecDepth 100000 in
theorem tX6_isTokenNamed_20 (X : mCx) (r1 : Nat) (h1 : 100 ≤ r1 ∧ r1 < 107) : ∀ (n : Nat) (s : Int32 × mMem), T qX6_isTokenNamed X (lp (bX6_isTokenNamed_20 r1) n s) 20 [(0, .ref 49), (1, .ref r1), (2, .int s.1)] [] s.2 :=
  T_lp (body := bX6_isTokenNamed_20 r1) (lv := fun s => [(0, .ref 49), (1, .ref r1), (2, .int s.1)]) (st := fun _ => []) (μ := fun s : Int32 × mMem => s.2) (fun k20 hk20 s => by
    obtain ⟨x2, m⟩ := s
    show T qX6_isTokenNamed X (bX6_isTokenNamed_20 r1 k20 (x2, m)) 20 [(0, .ref 49), (1, .ref r1), (2, .int x2)] [] m
    unfold bX6_isTokenNamed_20
    dsimp only
    refine T_iload_n 2 rfl rfl dX6_isTokenNamed_20 ?_
    refine T_aload_n 1 rfl rfl dX6_isTokenNamed_21 ?_
    refine T_cVIS [] [.int x2] mkJ0_length_8abf5 lmX6_126 rfl rfl (by decide) (Nat.le_of_ble_eq_true rfl) h1 dX6_isTokenNamed_22 (bsJ0_length_8abf5 _ r1 m h1) (fun z5 m4 => ?_)
    refine T_icmp_ge 55 dX6_isTokenNamed_25 (by decide) (fun _ => ?_) (fun _ => ?_)
    · refine T_iconst (1 : Int32) (by decide) dX6_isTokenNamed_55 ?_
      exact T_zretc (by decide) rfl dX6_isTokenNamed_56
    · refine T_aload_n 0 rfl rfl dX6_isTokenNamed_28 ?_
      refine gRX6_21 rfl kd_49 50 rfl dX6_isTokenNamed_29 ?_
      refine T_aload_n 0 rfl rfl dX6_isTokenNamed_32 ?_
      refine gIX6_35 rfl kd_49 dX6_isTokenNamed_33 ?_
      refine T_iload_n 2 rfl rfl dX6_isTokenNamed_36 ?_
      refine T_iadd dX6_isTokenNamed_37 ?_
      refine T_bald kd_50 dX6_isTokenNamed_38 ?_
      refine T_aload_n 1 rfl rfl dX6_isTokenNamed_39 ?_
      refine T_iload_n 2 rfl rfl dX6_isTokenNamed_40 ?_
      refine T_cVIS [.int x2] [.int (m4.1 50 (((m4.1 49 7) + x2)).toNatClampNeg)] mkJ0_charAt_5068e lmX6_130 rfl rfl (by decide) (Nat.le_of_ble_eq_true rfl) h1 dX6_isTokenNamed_41 (bsJ0_charAt_5068e _ r1 x2 m4 h1) (fun z8 m7 => ?_)
      refine T_icmp_eq 49 dX6_isTokenNamed_44 (by decide) (fun _ => ?_) (fun _ => ?_)
      · refine T_iinc (lv' := [(2, .int (x2 + (1 : Int32))), (0, .ref 49), (1, .ref r1)]) 2 (1 : Int32) rfl (by decide) (Nat.le_of_ble_eq_true rfl) rfl dX6_isTokenNamed_49 ?_
        refine T_li (fun y10 => ?_)
        refine T_goto 20 dX6_isTokenNamed_52 (by decide) ?_
        exact T_sub [1, 2, 0] rfl (hk20 (y10, m7))
      · refine T_iconst (0 : Int32) (by decide) dX6_isTokenNamed_47 ?_
        exact T_zretc (by decide) rfl dX6_isTokenNamed_48)
def fX6_isTokenNamed (r1 : Nat) (m : mMem) : mR := bI (fJ0_length_8abf5 r1 m) (fun z2 m1 => if ((m.1 49 5) - (m.1 49 7)) = z2 then lp (bX6_isTokenNamed_20 r1) FU ((0 : Int32), m1) else some (some (.int (0 : Int32)), m1))
set_option maxRecDepth 100000 in
theorem bsX6_isTokenNamed (l : Launch) (r1 : Nat) (m : mMem) (h1 : 100 ≤ r1 ∧ r1 < 107) : BS l qX6_isTokenNamed [.ref 49, .ref r1] m (fX6_isTokenNamed r1 m) := BS_of (by decide) (Nat.le_of_ble_eq_true rfl) (fun X _ => by
    show T qX6_isTokenNamed X (fX6_isTokenNamed r1 m) 0 [(0, .ref 49), (1, .ref r1)] [] m
    unfold fX6_isTokenNamed
    refine T_aload_n 0 rfl rfl dX6_isTokenNamed_0 ?_
    refine gIX6_29 rfl kd_49 dX6_isTokenNamed_1 ?_
    refine T_aload_n 0 rfl rfl dX6_isTokenNamed_4 ?_
    refine gIX6_35 rfl kd_49 dX6_isTokenNamed_5 ?_
    refine T_isub dX6_isTokenNamed_8 ?_
    refine T_aload_n 1 rfl rfl dX6_isTokenNamed_9 ?_
    refine T_cVIS [] [.int ((m.1 49 5) - (m.1 49 7))] mkJ0_length_8abf5 lmX6_126 rfl rfl (by decide) (Nat.le_of_ble_eq_true rfl) h1 dX6_isTokenNamed_10 (bsJ0_length_8abf5 _ r1 m h1) (fun z2 m1 => ?_)
    refine T_icmp_eq 18 dX6_isTokenNamed_13 (by decide) (fun _ => ?_) (fun _ => ?_)
    · refine T_iconst (0 : Int32) (by decide) dX6_isTokenNamed_18 ?_
      refine T_istore_n (lv' := [(2, .int (0 : Int32)), (0, .ref 49), (1, .ref r1)]) rfl (Nat.le_of_ble_eq_true rfl) rfl dX6_isTokenNamed_19 ?_
      exact T_sub [1, 2, 0] rfl (tX6_isTokenNamed_20 X r1 h1 FU ((0 : Int32), m1))
    · refine T_iconst (0 : Int32) (by decide) dX6_isTokenNamed_16 ?_
      exact T_zretc (by decide) rfl dX6_isTokenNamed_17)
theorem lmX6_118 : Cond.methodLink RX6 118 yX6_nameOfLine ∈ gdL := gd_mem 380 (by decide +kernel) (by decide +kernel)
theorem lmX6_122 : Cond.methodLink RX6 122 yX6_isTokenNamed ∈ gdL := gd_mem 390 (by decide +kernel) (by decide +kernel)
def bX6_lineOfName_2  (k2 : Int32 × mMem → mR) (s : Int32 × mMem) : mR := match s with
  | (x1, m) => if (7 : Int32) ≤ x1 then some (some (.int (7 : Int32)), m) else bA (fX6_nameOfLine x1 m) (fun z2 m1 => gd (100 ≤ z2 ∧ z2 < 107) (bI (fX6_isTokenNamed z2 m1) (fun z5 m4 => if z5 = (0 : Int32) then li (x1 + (1 : Int32)) (fun y7 => k2 (y7, m4)) else some (some (.int x1), m4))) inferInstance)
set_option maxRecDepth 100000 in
theorem tX6_lineOfName_2 (X : mCx)   : ∀ (n : Nat) (s : Int32 × mMem), T qX6_lineOfName X (lp (bX6_lineOfName_2 ) n s) 2 [(0, .ref 49), (1, .int s.1)] [] s.2 :=
  T_lp (body := bX6_lineOfName_2 ) (lv := fun s => [(0, .ref 49), (1, .int s.1)]) (st := fun _ => []) (μ := fun s : Int32 × mMem => s.2) (fun k2 hk2 s => by
    obtain ⟨x1, m⟩ := s
    show T qX6_lineOfName X (bX6_lineOfName_2  k2 (x1, m)) 2 [(0, .ref 49), (1, .int x1)] [] m
    unfold bX6_lineOfName_2
    dsimp only
    refine T_iload_n 1 rfl rfl dX6_lineOfName_2 ?_
    refine T_bipush (7 : Int32) (by decide) dX6_lineOfName_3 ?_
    refine T_icmp_ge 27 dX6_lineOfName_5 (by decide) (fun _ => ?_) (fun _ => ?_)
    · refine T_bipush (7 : Int32) (by decide) dX6_lineOfName_27 ?_
      exact T_iret rfl dX6_lineOfName_29
    · refine T_aload_n 0 rfl rfl dX6_lineOfName_8 ?_
      refine T_iload_n 1 rfl rfl dX6_lineOfName_9 ?_
      refine T_cSA [.int x1] [.ref 49] mkX6_nameOfLine lmX6_118 rfl (by decide) (Nat.le_of_ble_eq_true rfl) dX6_lineOfName_10 (bsX6_nameOfLine _ x1 m) (fun z2 m1 => ?_)
      refine T_gg (fun hz3 => ?_)
      refine T_cVI (c := 6) [.ref z2] [] mkX6_isTokenNamed lmX6_122 rfl rfl (by decide) (Nat.le_of_ble_eq_true rfl) kd_49 dX6_lineOfName_13 (bsX6_isTokenNamed _ z2 m1 hz3) (fun z5 m4 => ?_)
      refine T_if_eq 21 dX6_lineOfName_16 (by decide) (fun _ => ?_) (fun _ => ?_)
      · refine T_iinc (lv' := [(1, .int (x1 + (1 : Int32))), (0, .ref 49)]) 1 (1 : Int32) rfl (by decide) (Nat.le_of_ble_eq_true rfl) rfl dX6_lineOfName_21 ?_
        refine T_li (fun y7 => ?_)
        refine T_goto 2 dX6_lineOfName_24 (by decide) ?_
        exact T_sub [1, 0] rfl (hk2 (y7, m4))
      · refine T_iload_n 1 rfl rfl dX6_lineOfName_19 ?_
        exact T_iret rfl dX6_lineOfName_20)
def fX6_lineOfName  (m : mMem) : mR := lp (bX6_lineOfName_2 ) FU ((0 : Int32), m)
set_option maxRecDepth 100000 in
theorem bsX6_lineOfName (l : Launch)  (m : mMem)  : BS l qX6_lineOfName [.ref 49] m (fX6_lineOfName  m) := BS_of (by decide) (Nat.le_of_ble_eq_true rfl) (fun X _ => by
    show T qX6_lineOfName X (fX6_lineOfName  m) 0 [(0, .ref 49)] [] m
    unfold fX6_lineOfName
    refine T_iconst (0 : Int32) (by decide) dX6_lineOfName_0 ?_
    refine T_istore_n (lv' := [(1, .int (0 : Int32)), (0, .ref 49)]) rfl (Nat.le_of_ble_eq_true rfl) rfl dX6_lineOfName_1 ?_
    exact T_sub [1, 0] rfl (tX6_lineOfName_2 X   FU ((0 : Int32), m)))
theorem lmX6_57 : Cond.methodLink RX6 57 yX6_takeTokenIfSound ∈ gdL := gd_mem 456 (by decide +kernel) (by decide +kernel)
theorem lmX6_77 : Cond.methodLink RX6 77 yX6_lineOfName ∈ gdL := gd_mem 376 (by decide +kernel) (by decide +kernel)
theorem lmX6_81 : Cond.methodLink RX6 81 yX6_refuseOneTooMany ∈ gdL := gd_mem 442 (by decide +kernel) (by decide +kernel)
theorem lmX6_88 : Cond.methodLink RX6 88 yX6_takeNumber ∈ gdL := gd_mem 448 (by decide +kernel) (by decide +kernel)
theorem lmX6_91 : Cond.methodLink RX6 91 yX6_tellLine ∈ gdL := gd_mem 460 (by decide +kernel) (by decide +kernel)
theorem lfX6_85 : Cond.fieldLink RX6 85 "RankStairs$Tape" "NUMBERS" "[I" ∈ gdL := gd_mem 446 (by decide +kernel) (by decide +kernel)
def jX6_takeLine_102 (r1 : Nat) (x2 : Int32) (m : mMem) : mR := if (m.1 49 1) = (0 : Int32) then bV (fX6_tellLine r1 x2 m) (fun m6 => some (none, m6)) else some (none, m)
set_option maxRecDepth 100000 in
theorem uX6_takeLine_102 (X : mCx) (r1 : Nat) (x2 : Int32) (m : mMem) (h1 : kd r1 = (4, 0)) : T qX6_takeLine X (jX6_takeLine_102 r1 x2 m) 102 [(0, .ref 49), (1, .ref r1), (2, .int x2)] [] m := by
  unfold jX6_takeLine_102
  refine T_aload_n 0 rfl rfl dX6_takeLine_102 ?_
  refine gIX6_15 rfl kd_49 dX6_takeLine_103 ?_
  refine T_if_ne 115 dX6_takeLine_106 (by decide) (fun _ => ?_) (fun _ => ?_)
  · refine T_aload_n 0 rfl rfl dX6_takeLine_109 ?_
    refine T_aload_n 1 rfl rfl dX6_takeLine_110 ?_
    refine T_iload_n 2 rfl rfl dX6_takeLine_111 ?_
    refine T_cVV (c := 6) [.ref r1, .int x2] [] mkX6_tellLine lmX6_91 rfl rfl (by decide) (Nat.le_of_ble_eq_true rfl) kd_49 dX6_takeLine_112 (bsX6_tellLine _ r1 x2 m h1) (fun m6 => ?_)
    exact T_vret rfl dX6_takeLine_115
  · exact T_vret rfl dX6_takeLine_115
def jX6_takeLine_74 (r1 : Nat) (x2 : Int32) (m : mMem) : mR := bV (fX6_takeTokenIfSound m) (fun m5 => if (m5.1 49 1) = (0 : Int32) then if (m5.1 49 6) = (3 : Int32) then jX6_takeLine_102 r1 x2 m5 else bV (fX6_refuse (2 : Int32) (m5.1 49 7) m5) (fun m7 => jX6_takeLine_102 r1 x2 m7) else jX6_takeLine_102 r1 x2 m5)
set_option maxRecDepth 100000 in
theorem uX6_takeLine_74 (X : mCx) (r1 : Nat) (x2 : Int32) (m : mMem) (h1 : kd r1 = (4, 0)) : T qX6_takeLine X (jX6_takeLine_74 r1 x2 m) 74 [(0, .ref 49), (1, .ref r1), (2, .int x2)] [] m := by
  unfold jX6_takeLine_74
  refine T_aload_n 0 rfl rfl dX6_takeLine_74 ?_
  refine T_cVV (c := 6) [] [] mkX6_takeTokenIfSound lmX6_57 rfl rfl (by decide) (Nat.le_of_ble_eq_true rfl) kd_49 dX6_takeLine_75 (bsX6_takeTokenIfSound _  m) (fun m5 => ?_)
  refine T_aload_n 0 rfl rfl dX6_takeLine_78 ?_
  refine gIX6_15 rfl kd_49 dX6_takeLine_79 ?_
  refine T_if_ne 102 dX6_takeLine_82 (by decide) (fun _ => ?_) (fun _ => ?_)
  · refine T_aload_n 0 rfl rfl dX6_takeLine_85 ?_
    refine gIX6_32 rfl kd_49 dX6_takeLine_86 ?_
    refine T_iconst (3 : Int32) (by decide) dX6_takeLine_89 ?_
    refine T_icmp_eq 102 dX6_takeLine_90 (by decide) (fun _ => ?_) (fun _ => ?_)
    · exact T_sub [0, 1, 2] rfl (uX6_takeLine_102 X r1 x2 m5 h1)
    · refine T_aload_n 0 rfl rfl dX6_takeLine_93 ?_
      refine T_iconst (2 : Int32) (by decide) dX6_takeLine_94 ?_
      refine T_aload_n 0 rfl rfl dX6_takeLine_95 ?_
      refine gIX6_35 rfl kd_49 dX6_takeLine_96 ?_
      refine T_cVV (c := 6) [.int (2 : Int32), .int (m5.1 49 7)] [] mkX6_refuse lmX6_64 rfl rfl (by decide) (Nat.le_of_ble_eq_true rfl) kd_49 dX6_takeLine_99 (bsX6_refuse _ (2 : Int32) (m5.1 49 7) m5) (fun m7 => ?_)
      exact T_sub [0, 1, 2] rfl (uX6_takeLine_102 X r1 x2 m7 h1)
  · exact T_sub [0, 1, 2] rfl (uX6_takeLine_102 X r1 x2 m5 h1)
def bX6_takeLine_42 (r1 : Nat) (x2 : Int32) (k42 : Int32 × mMem → mR) (s : Int32 × mMem) : mR := match s with
  | (x3, m) => ga x2 7 (if (tb114.getD (x2).toNatClampNeg 0) ≤ x3 then jX6_takeLine_74 r1 x2 m else if (m.1 49 1) = (0 : Int32) then bV (fX6_takeToken m) (fun m8 => bV (fX6_takeNumber x2 x3 m8) (fun m9 => li (x3 + (1 : Int32)) (fun y10 => k42 (y10, m9)))) else jX6_takeLine_74 r1 x2 m)
set_option maxRecDepth 100000 in
theorem tX6_takeLine_42 (X : mCx) (r1 : Nat) (x2 : Int32) (h1 : kd r1 = (4, 0)) : ∀ (n : Nat) (s : Int32 × mMem), T qX6_takeLine X (lp (bX6_takeLine_42 r1 x2) n s) 42 [(0, .ref 49), (1, .ref r1), (2, .int x2), (3, .int s.1)] [] s.2 :=
  T_lp (body := bX6_takeLine_42 r1 x2) (lv := fun s => [(0, .ref 49), (1, .ref r1), (2, .int x2), (3, .int s.1)]) (st := fun _ => []) (μ := fun s : Int32 × mMem => s.2) (fun k42 hk42 s => by
    obtain ⟨x3, m⟩ := s
    show T qX6_takeLine X (bX6_takeLine_42 r1 x2 k42 (x3, m)) 42 [(0, .ref 49), (1, .ref r1), (2, .int x2), (3, .int x3)] [] m
    unfold bX6_takeLine_42
    dsimp only
    refine T_iload_n 3 rfl rfl dX6_takeLine_42 ?_
    refine T_gs (x := .ref 114) zs114 lfX6_85 dX6_takeLine_43 ?_
    refine T_iload_n 2 rfl rfl dX6_takeLine_46 ?_
    refine T_tald zt114 dX6_takeLine_47 ?_
    refine T_icmp_ge 74 dX6_takeLine_48 (by decide) (fun _ => ?_) (fun _ => ?_)
    · exact T_sub [0, 1, 2] rfl (uX6_takeLine_74 X r1 x2 m h1)
    · refine T_aload_n 0 rfl rfl dX6_takeLine_51 ?_
      refine gIX6_15 rfl kd_49 dX6_takeLine_52 ?_
      refine T_if_ne 74 dX6_takeLine_55 (by decide) (fun _ => ?_) (fun _ => ?_)
      · refine T_aload_n 0 rfl rfl dX6_takeLine_58 ?_
        refine T_cVV (c := 6) [] [] mkX6_takeToken lmX6_50 rfl rfl (by decide) (Nat.le_of_ble_eq_true rfl) kd_49 dX6_takeLine_59 (bsX6_takeToken _  m) (fun m8 => ?_)
        refine T_aload_n 0 rfl rfl dX6_takeLine_62 ?_
        refine T_iload_n 2 rfl rfl dX6_takeLine_63 ?_
        refine T_iload_n 3 rfl rfl dX6_takeLine_64 ?_
        refine T_cVV (c := 6) [.int x2, .int x3] [] mkX6_takeNumber lmX6_88 rfl rfl (by decide) (Nat.le_of_ble_eq_true rfl) kd_49 dX6_takeLine_65 (bsX6_takeNumber _ x2 x3 m8) (fun m9 => ?_)
        refine T_iinc (lv' := [(3, .int (x3 + (1 : Int32))), (0, .ref 49), (1, .ref r1), (2, .int x2)]) 3 (1 : Int32) rfl (by decide) (Nat.le_of_ble_eq_true rfl) rfl dX6_takeLine_68 ?_
        refine T_li (fun y10 => ?_)
        refine T_goto 42 dX6_takeLine_71 (by decide) ?_
        exact T_sub [1, 2, 3, 0] rfl (hk42 (y10, m9))
      · exact T_sub [0, 1, 2] rfl (uX6_takeLine_74 X r1 x2 m h1))
def jX6_takeLine_17 (r1 : Nat) (xs0 : Int32) (m : mMem) : mR := if xs0 < (7 : Int32) then bV (fX6_refuseOneTooMany r1 xs0 m) (fun m4 => lp (bX6_takeLine_42 r1 xs0) FU ((0 : Int32), m4)) else bV (fX6_refuse (2 : Int32) (m.1 49 7) m) (fun m11 => some (none, m11))
set_option maxRecDepth 100000 in
theorem uX6_takeLine_17 (X : mCx) (r1 : Nat) (xs0 : Int32) (m : mMem) (h1 : kd r1 = (4, 0)) : T qX6_takeLine X (jX6_takeLine_17 r1 xs0 m) 17 [(0, .ref 49), (1, .ref r1)] [.int xs0] m := by
  unfold jX6_takeLine_17
  refine T_istore_n (lv' := [(2, .int xs0), (0, .ref 49), (1, .ref r1)]) rfl (Nat.le_of_ble_eq_true rfl) rfl dX6_takeLine_17 ?_
  refine T_iload_n 0 rfl rfl dX6_takeLine_18 ?_
  refine T_bipush (7 : Int32) (by decide) dX6_takeLine_19 ?_
  refine T_icmp_lt 34 dX6_takeLine_21 (by decide) (fun _ => ?_) (fun _ => ?_)
  · refine T_aload_n 1 rfl rfl dX6_takeLine_34 ?_
    refine T_aload_n 2 rfl rfl dX6_takeLine_35 ?_
    refine T_iload_n 0 rfl rfl dX6_takeLine_36 ?_
    refine T_cVV (c := 6) [.ref r1, .int xs0] [] mkX6_refuseOneTooMany lmX6_81 rfl rfl (by decide) (Nat.le_of_ble_eq_true rfl) kd_49 dX6_takeLine_37 (bsX6_refuseOneTooMany _ r1 xs0 m h1) (fun m4 => ?_)
    refine T_iconst (0 : Int32) (by decide) dX6_takeLine_40 ?_
    refine T_istore_n (lv' := [(3, .int (0 : Int32)), (2, .int xs0), (0, .ref 49), (1, .ref r1)]) rfl (Nat.le_of_ble_eq_true rfl) rfl dX6_takeLine_41 ?_
    exact T_sub [2, 3, 1, 0] rfl (tX6_takeLine_42 X r1 xs0 h1 FU ((0 : Int32), m4))
  · refine T_aload_n 1 rfl rfl dX6_takeLine_24 ?_
    refine T_iconst (2 : Int32) (by decide) dX6_takeLine_25 ?_
    refine T_aload_n 1 rfl rfl dX6_takeLine_26 ?_
    refine gIX6_35 rfl kd_49 dX6_takeLine_27 ?_
    refine T_cVV (c := 6) [.int (2 : Int32), .int (m.1 49 7)] [] mkX6_refuse lmX6_64 rfl rfl (by decide) (Nat.le_of_ble_eq_true rfl) kd_49 dX6_takeLine_30 (bsX6_refuse _ (2 : Int32) (m.1 49 7) m) (fun m11 => ?_)
    exact T_vret rfl dX6_takeLine_33
def fX6_takeLine (r1 : Nat) (m : mMem) : mR := if (m.1 49 6) = (1 : Int32) then bI (fX6_lineOfName m) (fun z2 m1 => jX6_takeLine_17 r1 z2 m1) else jX6_takeLine_17 r1 (7 : Int32) m
set_option maxRecDepth 100000 in
theorem bsX6_takeLine (l : Launch) (r1 : Nat) (m : mMem) (h1 : kd r1 = (4, 0)) : BS l qX6_takeLine [.ref 49, .ref r1] m (fX6_takeLine r1 m) := BS_of (by decide) (Nat.le_of_ble_eq_true rfl) (fun X _ => by
    show T qX6_takeLine X (fX6_takeLine r1 m) 0 [(0, .ref 49), (1, .ref r1)] [] m
    unfold fX6_takeLine
    refine T_aload_n 0 rfl rfl dX6_takeLine_0 ?_
    refine gIX6_32 rfl kd_49 dX6_takeLine_1 ?_
    refine T_iconst (1 : Int32) (by decide) dX6_takeLine_4 ?_
    refine T_icmp_ne 15 dX6_takeLine_5 (by decide) (fun _ => ?_) (fun _ => ?_)
    · refine T_aload_n 0 rfl rfl dX6_takeLine_8 ?_
      refine T_cVI (c := 6) [] [] mkX6_lineOfName lmX6_77 rfl rfl (by decide) (Nat.le_of_ble_eq_true rfl) kd_49 dX6_takeLine_9 (bsX6_lineOfName _  m) (fun z2 m1 => ?_)
      refine T_goto 17 dX6_takeLine_12 (by decide) ?_
      exact T_sub [0, 1] rfl (uX6_takeLine_17 X r1 z2 m1 h1)
    · refine T_bipush (7 : Int32) (by decide) dX6_takeLine_15 ?_
      exact T_sub [0, 1] rfl (uX6_takeLine_17 X r1 (7 : Int32) m h1))
theorem lmX6_45 : Cond.methodLink RX6 45 yX4_empty ∈ gdL := gd_mem 357 (by decide +kernel) (by decide +kernel)
theorem lmX6_53 : Cond.methodLink RX6 53 yX6_takeLine ∈ gdL := gd_mem 372 (by decide +kernel) (by decide +kernel)
theorem lmX6_60 : Cond.methodLink RX6 60 yX6_hasLostFloor ∈ gdL := gd_mem 472 (by decide +kernel) (by decide +kernel)
def jX6_tell_96 (x2 : Int32) (m : mMem) : mR := lt (si m 49 0 (0 : Int32)) (fun m11 => if (m11.1 49 1) = (0 : Int32) then some (some (.int x2), m11) else some (some (.int ((-10 : Int32) - (m11.1 49 2))), m11))
set_option maxRecDepth 100000 in
theorem uX6_tell_96 (X : mCx) (x2 : Int32) (m : mMem)  : T qX6_tell X (jX6_tell_96 x2 m) 96 [(0, .ref 49), (2, .int x2)] [] m := by
  unfold jX6_tell_96
  refine T_aload_n 0 rfl rfl dX6_tell_96 ?_
  refine T_iconst (0 : Int32) (by decide) dX6_tell_97 ?_
  refine pIX6_9 rfl rfl rfl kd_49 dX6_tell_98 ?_
  refine T_lt (fun m11 => ?_)
  refine T_aload_n 0 rfl rfl dX6_tell_101 ?_
  refine gIX6_15 rfl kd_49 dX6_tell_102 ?_
  refine T_if_ne 112 dX6_tell_105 (by decide) (fun _ => ?_) (fun _ => ?_)
  · refine T_iload_n 1 rfl rfl dX6_tell_108 ?_
    refine T_goto 119 dX6_tell_109 (by decide) ?_
    exact T_iret rfl dX6_tell_119
  · refine T_bipush (-10 : Int32) (by decide) dX6_tell_112 ?_
    refine T_aload_n 0 rfl rfl dX6_tell_114 ?_
    refine gIX6_18 rfl kd_49 dX6_tell_115 ?_
    refine T_isub dX6_tell_118 ?_
    exact T_iret rfl dX6_tell_119
def jX6_tell_72 (r1 : Nat) (x2 : Int32) (m : mMem) : mR := if (m.1 49 1) = (0 : Int32) then bI (fX6_hasLostFloor r1 m) (fun z9 m8 => if z9 = (0 : Int32) then jX6_tell_96 x2 m8 else bV (fX6_refuse (6 : Int32) (m8.1 49 0) m8) (fun m12 => jX6_tell_96 x2 m12)) else jX6_tell_96 x2 m
set_option maxRecDepth 100000 in
theorem uX6_tell_72 (X : mCx) (r1 : Nat) (x2 : Int32) (m : mMem) (h1 : kd r1 = (4, 0)) : T qX6_tell X (jX6_tell_72 r1 x2 m) 72 [(0, .ref 49), (1, .ref r1), (2, .int x2)] [] m := by
  unfold jX6_tell_72
  refine T_aload_n 0 rfl rfl dX6_tell_72 ?_
  refine gIX6_15 rfl kd_49 dX6_tell_73 ?_
  refine T_if_ne 96 dX6_tell_76 (by decide) (fun _ => ?_) (fun _ => ?_)
  · refine T_aload_n 1 rfl rfl dX6_tell_79 ?_
    refine T_cSI [.ref r1] [] mkX6_hasLostFloor lmX6_60 rfl (by decide) (Nat.le_of_ble_eq_true rfl) dX6_tell_80 (bsX6_hasLostFloor _ r1 m h1) (fun z9 m8 => ?_)
    refine T_if_eq 96 dX6_tell_83 (by decide) (fun _ => ?_) (fun _ => ?_)
    · exact T_sub [0, 2] rfl (uX6_tell_96 X x2 m8 )
    · refine T_aload_n 0 rfl rfl dX6_tell_86 ?_
      refine T_bipush (6 : Int32) (by decide) dX6_tell_87 ?_
      refine T_aload_n 0 rfl rfl dX6_tell_89 ?_
      refine gIX6_9 rfl kd_49 dX6_tell_90 ?_
      refine T_cVV (c := 6) [.int (6 : Int32), .int (m8.1 49 0)] [] mkX6_refuse lmX6_64 rfl rfl (by decide) (Nat.le_of_ble_eq_true rfl) kd_49 dX6_tell_93 (bsX6_refuse _ (6 : Int32) (m8.1 49 0) m8) (fun m12 => ?_)
      exact T_sub [0, 2] rfl (uX6_tell_96 X x2 m12 )
  · exact T_sub [0, 2] rfl (uX6_tell_96 X x2 m )
def bX6_tell_35 (r1 : Nat) (k35 : Int32 × mMem → mR) (s : Int32 × mMem) : mR := match s with
  | (x2, m) => if (m.1 49 1) = (0 : Int32) then if (m.1 49 6) = (4 : Int32) then jX6_tell_72 r1 x2 m else if (160 : Int32) ≤ x2 then jX6_tell_72 r1 x2 m else bV (fX6_takeLine r1 m) (fun m13 => bV (fX6_takeTokenIfSound m13) (fun m14 => li (x2 + (1 : Int32)) (fun y15 => k35 (y15, m14)))) else jX6_tell_72 r1 x2 m
set_option maxRecDepth 100000 in
theorem tX6_tell_35 (X : mCx) (r1 : Nat) (h1 : kd r1 = (4, 0)) : ∀ (n : Nat) (s : Int32 × mMem), T qX6_tell X (lp (bX6_tell_35 r1) n s) 35 [(0, .ref 49), (1, .ref r1), (2, .int s.1)] [] s.2 :=
  T_lp (body := bX6_tell_35 r1) (lv := fun s => [(0, .ref 49), (1, .ref r1), (2, .int s.1)]) (st := fun _ => []) (μ := fun s : Int32 × mMem => s.2) (fun k35 hk35 s => by
    obtain ⟨x2, m⟩ := s
    show T qX6_tell X (bX6_tell_35 r1 k35 (x2, m)) 35 [(0, .ref 49), (1, .ref r1), (2, .int x2)] [] m
    unfold bX6_tell_35
    dsimp only
    refine T_aload_n 0 rfl rfl dX6_tell_35 ?_
    refine gIX6_15 rfl kd_49 dX6_tell_36 ?_
    refine T_if_ne 72 dX6_tell_39 (by decide) (fun _ => ?_) (fun _ => ?_)
    · refine T_aload_n 0 rfl rfl dX6_tell_42 ?_
      refine gIX6_32 rfl kd_49 dX6_tell_43 ?_
      refine T_iconst (4 : Int32) (by decide) dX6_tell_46 ?_
      refine T_icmp_eq 72 dX6_tell_47 (by decide) (fun _ => ?_) (fun _ => ?_)
      · exact T_sub [0, 1, 2] rfl (uX6_tell_72 X r1 x2 m h1)
      · refine T_iload_n 2 rfl rfl dX6_tell_50 ?_
        refine T_sipush (160 : Int32) (by decide) dX6_tell_51 ?_
        refine T_icmp_ge 72 dX6_tell_54 (by decide) (fun _ => ?_) (fun _ => ?_)
        · exact T_sub [0, 1, 2] rfl (uX6_tell_72 X r1 x2 m h1)
        · refine T_aload_n 0 rfl rfl dX6_tell_57 ?_
          refine T_aload_n 1 rfl rfl dX6_tell_58 ?_
          refine T_cVV (c := 6) [.ref r1] [] mkX6_takeLine lmX6_53 rfl rfl (by decide) (Nat.le_of_ble_eq_true rfl) kd_49 dX6_tell_59 (bsX6_takeLine _ r1 m h1) (fun m13 => ?_)
          refine T_aload_n 0 rfl rfl dX6_tell_62 ?_
          refine T_cVV (c := 6) [] [] mkX6_takeTokenIfSound lmX6_57 rfl rfl (by decide) (Nat.le_of_ble_eq_true rfl) kd_49 dX6_tell_63 (bsX6_takeTokenIfSound _  m13) (fun m14 => ?_)
          refine T_iinc (lv' := [(2, .int (x2 + (1 : Int32))), (0, .ref 49), (1, .ref r1)]) 2 (1 : Int32) rfl (by decide) (Nat.le_of_ble_eq_true rfl) rfl dX6_tell_66 ?_
          refine T_li (fun y15 => ?_)
          refine T_goto 35 dX6_tell_69 (by decide) ?_
          exact T_sub [1, 2, 0] rfl (hk35 (y15, m14))
    · exact T_sub [0, 1, 2] rfl (uX6_tell_72 X r1 x2 m h1))
def fX6_tell (r1 : Nat) (m : mMem) : mR := bV (fX4_empty r1 m) (fun m1 => lt (si m1 49 1 (0 : Int32)) (fun m2 => lt (si m2 49 2 (0 : Int32)) (fun m3 => lt (si m3 49 5 (0 : Int32)) (fun m4 => lt (si m4 49 8 (0 : Int32)) (fun m5 => lt (si m5 49 9 (0 : Int32)) (fun m6 => bV (fX6_takeToken m6) (fun m7 => lp (bX6_tell_35 r1) FU ((0 : Int32), m7))))))))
set_option maxRecDepth 100000 in
theorem bsX6_tell (l : Launch) (r1 : Nat) (m : mMem) (h1 : kd r1 = (4, 0)) : BS l qX6_tell [.ref 49, .ref r1] m (fX6_tell r1 m) := BS_of (by decide) (Nat.le_of_ble_eq_true rfl) (fun X _ => by
    show T qX6_tell X (fX6_tell r1 m) 0 [(0, .ref 49), (1, .ref r1)] [] m
    unfold fX6_tell
    refine T_aload_n 1 rfl rfl dX6_tell_0 ?_
    refine T_cVV (c := 4) [] [] mkX4_empty lmX6_45 rfl rfl (by decide) (Nat.le_of_ble_eq_true rfl) h1 dX6_tell_1 (bsX4_empty _ r1 m h1) (fun m1 => ?_)
    refine T_aload_n 0 rfl rfl dX6_tell_4 ?_
    refine T_iconst (0 : Int32) (by decide) dX6_tell_5 ?_
    refine pIX6_15 rfl rfl rfl kd_49 dX6_tell_6 ?_
    refine T_lt (fun m2 => ?_)
    refine T_aload_n 0 rfl rfl dX6_tell_9 ?_
    refine T_iconst (0 : Int32) (by decide) dX6_tell_10 ?_
    refine pIX6_18 rfl rfl rfl kd_49 dX6_tell_11 ?_
    refine T_lt (fun m3 => ?_)
    refine T_aload_n 0 rfl rfl dX6_tell_14 ?_
    refine T_iconst (0 : Int32) (by decide) dX6_tell_15 ?_
    refine pIX6_29 rfl rfl rfl kd_49 dX6_tell_16 ?_
    refine T_lt (fun m4 => ?_)
    refine T_aload_n 0 rfl rfl dX6_tell_19 ?_
    refine T_iconst (0 : Int32) (by decide) dX6_tell_20 ?_
    refine pIX6_38 rfl rfl rfl kd_49 dX6_tell_21 ?_
    refine T_lt (fun m5 => ?_)
    refine T_aload_n 0 rfl rfl dX6_tell_24 ?_
    refine T_iconst (0 : Int32) (by decide) dX6_tell_25 ?_
    refine pIX6_42 rfl rfl rfl kd_49 dX6_tell_26 ?_
    refine T_lt (fun m6 => ?_)
    refine T_iconst (0 : Int32) (by decide) dX6_tell_29 ?_
    refine T_istore_n (lv' := [(2, .int (0 : Int32)), (0, .ref 49), (1, .ref r1)]) rfl (Nat.le_of_ble_eq_true rfl) rfl dX6_tell_30 ?_
    refine T_aload_n 1 rfl rfl dX6_tell_31 ?_
    refine T_cVV (c := 6) [] [] mkX6_takeToken lmX6_50 rfl rfl (by decide) (Nat.le_of_ble_eq_true rfl) kd_49 dX6_tell_32 (bsX6_takeToken _  m6) (fun m7 => ?_)
    exact T_sub [1, 2, 0] rfl (tX6_tell_35 X r1 h1 FU ((0 : Int32), m7)))
end
