section
-- ===== PART A: goes FIRST, ahead of the names: the tables' words, and 'selects' of the private methods out of them =====
/-- a private method of a class that the tables say can be made, by its rows of tables_1 -/
def lw_okq (q : MethodName × Nat) : Prop := (q.1.cls ≠ "java/lang/invoke/MethodHandle" ∧ q.1.cls ≠ "java/lang/invoke/VarHandle") ∧ Cond.instantiable q.1.cls q.2 ∈ tables_1 ∧ Cond.privateMethod q.1 ∈ tables_1 ∧ Cond.instanceMethod q.1 ∈ tables_1
theorem lw_p0 : lw_okq (⟨"RankStairs$Tape", "takeToken", "()V"⟩, 10) := ⟨⟨by decide +kernel, by decide +kernel⟩, List.mem_of_getElem? (i := 27) (by decide +kernel), List.mem_of_getElem? (i := 312) (by decide +kernel), List.mem_of_getElem? (i := 313) (by decide +kernel)⟩
theorem lw_p1 : lw_okq (⟨"RankStairs$Tape", "refuse", "(II)V"⟩, 10) := ⟨⟨by decide +kernel, by decide +kernel⟩, List.mem_of_getElem? (i := 27) (by decide +kernel), List.mem_of_getElem? (i := 319) (by decide +kernel), List.mem_of_getElem? (i := 320) (by decide +kernel)⟩
theorem lw_p2 : lw_okq (⟨"RankStairs$Tape", "takeLine", "(LRankStairs$House;)V"⟩, 10) := ⟨⟨by decide +kernel, by decide +kernel⟩, List.mem_of_getElem? (i := 27) (by decide +kernel), List.mem_of_getElem? (i := 323) (by decide +kernel), List.mem_of_getElem? (i := 324) (by decide +kernel)⟩
theorem lw_p3 : lw_okq (⟨"RankStairs$Tape", "lineOfName", "()I"⟩, 10) := ⟨⟨by decide +kernel, by decide +kernel⟩, List.mem_of_getElem? (i := 27) (by decide +kernel), List.mem_of_getElem? (i := 327) (by decide +kernel), List.mem_of_getElem? (i := 328) (by decide +kernel)⟩
theorem lw_p4 : lw_okq (⟨"RankStairs$Tape", "isTokenNamed", "(Ljava/lang/String;)Z"⟩, 10) := ⟨⟨by decide +kernel, by decide +kernel⟩, List.mem_of_getElem? (i := 27) (by decide +kernel), List.mem_of_getElem? (i := 341) (by decide +kernel), List.mem_of_getElem? (i := 342) (by decide +kernel)⟩
theorem lw_p5 : lw_okq (⟨"RankStairs$Tape", "refuseOneTooMany", "(LRankStairs$House;I)V"⟩, 10) := ⟨⟨by decide +kernel, by decide +kernel⟩, List.mem_of_getElem? (i := 27) (by decide +kernel), List.mem_of_getElem? (i := 393) (by decide +kernel), List.mem_of_getElem? (i := 394) (by decide +kernel)⟩
theorem lw_p6 : lw_okq (⟨"RankStairs$Tape", "takeNumber", "(II)V"⟩, 10) := ⟨⟨by decide +kernel, by decide +kernel⟩, List.mem_of_getElem? (i := 27) (by decide +kernel), List.mem_of_getElem? (i := 399) (by decide +kernel), List.mem_of_getElem? (i := 400) (by decide +kernel)⟩
theorem lw_p7 : lw_okq (⟨"RankStairs$Tape", "takeTokenIfSound", "()V"⟩, 10) := ⟨⟨by decide +kernel, by decide +kernel⟩, List.mem_of_getElem? (i := 27) (by decide +kernel), List.mem_of_getElem? (i := 407) (by decide +kernel), List.mem_of_getElem? (i := 408) (by decide +kernel)⟩
theorem lw_p8 : lw_okq (⟨"RankStairs$Tape", "tellLine", "(LRankStairs$House;I)V"⟩, 10) := ⟨⟨by decide +kernel, by decide +kernel⟩, List.mem_of_getElem? (i := 27) (by decide +kernel), List.mem_of_getElem? (i := 411) (by decide +kernel), List.mem_of_getElem? (i := 412) (by decide +kernel)⟩
theorem lw_p9 : lw_okq (⟨"RankStairs", "forgetImages", "()V"⟩, 11) := ⟨⟨by decide +kernel, by decide +kernel⟩, List.mem_of_getElem? (i := 19) (by decide +kernel), List.mem_of_getElem? (i := 433) (by decide +kernel), List.mem_of_getElem? (i := 434) (by decide +kernel)⟩
theorem lw_p10 : lw_okq (⟨"RankStairs", "isStep", "(I)Z"⟩, 11) := ⟨⟨by decide +kernel, by decide +kernel⟩, List.mem_of_getElem? (i := 19) (by decide +kernel), List.mem_of_getElem? (i := 449) (by decide +kernel), List.mem_of_getElem? (i := 450) (by decide +kernel)⟩
theorem lw_p11 : lw_okq (⟨"RankStairs", "isLodger", "(I)Z"⟩, 11) := ⟨⟨by decide +kernel, by decide +kernel⟩, List.mem_of_getElem? (i := 19) (by decide +kernel), List.mem_of_getElem? (i := 468) (by decide +kernel), List.mem_of_getElem? (i := 469) (by decide +kernel)⟩
theorem lw_p12 : lw_okq (⟨"RankStairs$House", "isNear", "(II)Z"⟩, 12) := ⟨⟨by decide +kernel, by decide +kernel⟩, List.mem_of_getElem? (i := 68) (by decide +kernel), List.mem_of_getElem? (i := 488) (by decide +kernel), List.mem_of_getElem? (i := 489) (by decide +kernel)⟩
theorem lw_p13 : lw_okq (⟨"RankStairs$Exchange", "takeFrom", "(IIIII)V"⟩, 6) := ⟨⟨by decide +kernel, by decide +kernel⟩, List.mem_of_getElem? (i := 156) (by decide +kernel), List.mem_of_getElem? (i := 685) (by decide +kernel), List.mem_of_getElem? (i := 686) (by decide +kernel)⟩
theorem lw_p14 : lw_okq (⟨"RankStairs$Chances", "passStep", "(II)V"⟩, 2) := ⟨⟨by decide +kernel, by decide +kernel⟩, List.mem_of_getElem? (i := 184) (by decide +kernel), List.mem_of_getElem? (i := 705) (by decide +kernel), List.mem_of_getElem? (i := 706) (by decide +kernel)⟩
theorem lw_p15 : lw_okq (⟨"RankStairs$Dust", "searchFrom", "(I)I"⟩, 7) := ⟨⟨by decide +kernel, by decide +kernel⟩, List.mem_of_getElem? (i := 198) (by decide +kernel), List.mem_of_getElem? (i := 743) (by decide +kernel), List.mem_of_getElem? (i := 744) (by decide +kernel)⟩
def lw_privs_1 : List (MethodName × Nat) := [(⟨"RankStairs$Tape", "takeToken", "()V"⟩, 10), (⟨"RankStairs$Tape", "refuse", "(II)V"⟩, 10), (⟨"RankStairs$Tape", "takeLine", "(LRankStairs$House;)V"⟩, 10), (⟨"RankStairs$Tape", "lineOfName", "()I"⟩, 10), (⟨"RankStairs$Tape", "isTokenNamed", "(Ljava/lang/String;)Z"⟩, 10), (⟨"RankStairs$Tape", "refuseOneTooMany", "(LRankStairs$House;I)V"⟩, 10), (⟨"RankStairs$Tape", "takeNumber", "(II)V"⟩, 10), (⟨"RankStairs$Tape", "takeTokenIfSound", "()V"⟩, 10), (⟨"RankStairs$Tape", "tellLine", "(LRankStairs$House;I)V"⟩, 10), (⟨"RankStairs", "forgetImages", "()V"⟩, 11), (⟨"RankStairs", "isStep", "(I)Z"⟩, 11), (⟨"RankStairs", "isLodger", "(I)Z"⟩, 11), (⟨"RankStairs$House", "isNear", "(II)Z"⟩, 12), (⟨"RankStairs$Exchange", "takeFrom", "(IIIII)V"⟩, 6), (⟨"RankStairs$Chances", "passStep", "(II)V"⟩, 2), (⟨"RankStairs$Dust", "searchFrom", "(I)I"⟩, 7)]
theorem lw_r1 : ∀ q ∈ lw_privs_1, lw_okq q := List.forall_mem_cons.mpr ⟨lw_p0, List.forall_mem_cons.mpr ⟨lw_p1, List.forall_mem_cons.mpr ⟨lw_p2, List.forall_mem_cons.mpr ⟨lw_p3, List.forall_mem_cons.mpr ⟨lw_p4, List.forall_mem_cons.mpr ⟨lw_p5, List.forall_mem_cons.mpr ⟨lw_p6, List.forall_mem_cons.mpr ⟨lw_p7, List.forall_mem_cons.mpr ⟨lw_p8, List.forall_mem_cons.mpr ⟨lw_p9, List.forall_mem_cons.mpr ⟨lw_p10, List.forall_mem_cons.mpr ⟨lw_p11, List.forall_mem_cons.mpr ⟨lw_p12, List.forall_mem_cons.mpr ⟨lw_p13, List.forall_mem_cons.mpr ⟨lw_p14, List.forall_mem_cons.mpr ⟨lw_p15, fun _ h => absurd h List.not_mem_nil⟩⟩⟩⟩⟩⟩⟩⟩⟩⟩⟩⟩⟩⟩⟩⟩
theorem lw_p16 : lw_okq (⟨"RankStairs$Dust", "canBeSo", "(I)Z"⟩, 7) := ⟨⟨by decide +kernel, by decide +kernel⟩, List.mem_of_getElem? (i := 198) (by decide +kernel), List.mem_of_getElem? (i := 747) (by decide +kernel), List.mem_of_getElem? (i := 748) (by decide +kernel)⟩
theorem lw_p17 : lw_okq (⟨"RankStairs$Dust", "searchBehind", "(II)I"⟩, 7) := ⟨⟨by decide +kernel, by decide +kernel⟩, List.mem_of_getElem? (i := 198) (by decide +kernel), List.mem_of_getElem? (i := 754) (by decide +kernel), List.mem_of_getElem? (i := 755) (by decide +kernel)⟩
theorem lw_p18 : lw_okq (⟨"RankStairs", "countImages", "()I"⟩, 11) := ⟨⟨by decide +kernel, by decide +kernel⟩, List.mem_of_getElem? (i := 19) (by decide +kernel), List.mem_of_getElem? (i := 825) (by decide +kernel), List.mem_of_getElem? (i := 826) (by decide +kernel)⟩
theorem lw_p19 : lw_okq (⟨"RankStairsModel", "goesOn", "()V"⟩, 35) := ⟨⟨by decide +kernel, by decide +kernel⟩, List.mem_of_getElem? (i := 834) (by decide +kernel), List.mem_of_getElem? (i := 962) (by decide +kernel), List.mem_of_getElem? (i := 963) (by decide +kernel)⟩
theorem lw_p20 : lw_okq (⟨"RankStairsModel", "byteAt", "(I)I"⟩, 35) := ⟨⟨by decide +kernel, by decide +kernel⟩, List.mem_of_getElem? (i := 834) (by decide +kernel), List.mem_of_getElem? (i := 966) (by decide +kernel), List.mem_of_getElem? (i := 967) (by decide +kernel)⟩
theorem lw_p21 : lw_okq (⟨"RankStairsModel", "fails", "(I)V"⟩, 35) := ⟨⟨by decide +kernel, by decide +kernel⟩, List.mem_of_getElem? (i := 834) (by decide +kernel), List.mem_of_getElem? (i := 974) (by decide +kernel), List.mem_of_getElem? (i := 975) (by decide +kernel)⟩
theorem lw_p22 : lw_okq (⟨"RankStairsModel", "readLine", "()V"⟩, 35) := ⟨⟨by decide +kernel, by decide +kernel⟩, List.mem_of_getElem? (i := 834) (by decide +kernel), List.mem_of_getElem? (i := 978) (by decide +kernel), List.mem_of_getElem? (i := 979) (by decide +kernel)⟩
theorem lw_p23 : lw_okq (⟨"RankStairsModel", "nameHere", "()I"⟩, 35) := ⟨⟨by decide +kernel, by decide +kernel⟩, List.mem_of_getElem? (i := 834) (by decide +kernel), List.mem_of_getElem? (i := 982) (by decide +kernel), List.mem_of_getElem? (i := 983) (by decide +kernel)⟩
theorem lw_p24 : lw_okq (⟨"RankStairsModel", "readMore", "(I)V"⟩, 35) := ⟨⟨by decide +kernel, by decide +kernel⟩, List.mem_of_getElem? (i := 834) (by decide +kernel), List.mem_of_getElem? (i := 987) (by decide +kernel), List.mem_of_getElem? (i := 988) (by decide +kernel)⟩
theorem lw_p25 : lw_okq (⟨"RankStairsModel", "number", "(II)I"⟩, 35) := ⟨⟨by decide +kernel, by decide +kernel⟩, List.mem_of_getElem? (i := 834) (by decide +kernel), List.mem_of_getElem? (i := 991) (by decide +kernel), List.mem_of_getElem? (i := 992) (by decide +kernel)⟩
theorem lw_p26 : lw_okq (⟨"RankStairsModel", "holdOn", "(I)I"⟩, 35) := ⟨⟨by decide +kernel, by decide +kernel⟩, List.mem_of_getElem? (i := 834) (by decide +kernel), List.mem_of_getElem? (i := 1003) (by decide +kernel), List.mem_of_getElem? (i := 1004) (by decide +kernel)⟩
theorem lw_p27 : lw_okq (⟨"RankStairsModel", "isStep", "(I)Z"⟩, 35) := ⟨⟨by decide +kernel, by decide +kernel⟩, List.mem_of_getElem? (i := 834) (by decide +kernel), List.mem_of_getElem? (i := 1011) (by decide +kernel), List.mem_of_getElem? (i := 1012) (by decide +kernel)⟩
theorem lw_p28 : lw_okq (⟨"RankStairsModel", "rankOn", "(II)I"⟩, 35) := ⟨⟨by decide +kernel, by decide +kernel⟩, List.mem_of_getElem? (i := 834) (by decide +kernel), List.mem_of_getElem? (i := 1015) (by decide +kernel), List.mem_of_getElem? (i := 1016) (by decide +kernel)⟩
theorem lw_p29 : lw_okq (⟨"RankStairsModel", "isBroken", "(II)Z"⟩, 35) := ⟨⟨by decide +kernel, by decide +kernel⟩, List.mem_of_getElem? (i := 834) (by decide +kernel), List.mem_of_getElem? (i := 1019) (by decide +kernel), List.mem_of_getElem? (i := 1020) (by decide +kernel)⟩
theorem lw_p30 : lw_okq (⟨"RankStairsModel", "isLodger", "(I)Z"⟩, 35) := ⟨⟨by decide +kernel, by decide +kernel⟩, List.mem_of_getElem? (i := 834) (by decide +kernel), List.mem_of_getElem? (i := 1027) (by decide +kernel), List.mem_of_getElem? (i := 1028) (by decide +kernel)⟩
theorem lw_p31 : lw_okq (⟨"RankStairsModel", "reachOn", "(II)I"⟩, 35) := ⟨⟨by decide +kernel, by decide +kernel⟩, List.mem_of_getElem? (i := 834) (by decide +kernel), List.mem_of_getElem? (i := 1031) (by decide +kernel), List.mem_of_getElem? (i := 1032) (by decide +kernel)⟩
def lw_privs_2 : List (MethodName × Nat) := [(⟨"RankStairs$Dust", "canBeSo", "(I)Z"⟩, 7), (⟨"RankStairs$Dust", "searchBehind", "(II)I"⟩, 7), (⟨"RankStairs", "countImages", "()I"⟩, 11), (⟨"RankStairsModel", "goesOn", "()V"⟩, 35), (⟨"RankStairsModel", "byteAt", "(I)I"⟩, 35), (⟨"RankStairsModel", "fails", "(I)V"⟩, 35), (⟨"RankStairsModel", "readLine", "()V"⟩, 35), (⟨"RankStairsModel", "nameHere", "()I"⟩, 35), (⟨"RankStairsModel", "readMore", "(I)V"⟩, 35), (⟨"RankStairsModel", "number", "(II)I"⟩, 35), (⟨"RankStairsModel", "holdOn", "(I)I"⟩, 35), (⟨"RankStairsModel", "isStep", "(I)Z"⟩, 35), (⟨"RankStairsModel", "rankOn", "(II)I"⟩, 35), (⟨"RankStairsModel", "isBroken", "(II)Z"⟩, 35), (⟨"RankStairsModel", "isLodger", "(I)Z"⟩, 35), (⟨"RankStairsModel", "reachOn", "(II)I"⟩, 35)]
theorem lw_r2 : ∀ q ∈ lw_privs_2, lw_okq q := List.forall_mem_cons.mpr ⟨lw_p16, List.forall_mem_cons.mpr ⟨lw_p17, List.forall_mem_cons.mpr ⟨lw_p18, List.forall_mem_cons.mpr ⟨lw_p19, List.forall_mem_cons.mpr ⟨lw_p20, List.forall_mem_cons.mpr ⟨lw_p21, List.forall_mem_cons.mpr ⟨lw_p22, List.forall_mem_cons.mpr ⟨lw_p23, List.forall_mem_cons.mpr ⟨lw_p24, List.forall_mem_cons.mpr ⟨lw_p25, List.forall_mem_cons.mpr ⟨lw_p26, List.forall_mem_cons.mpr ⟨lw_p27, List.forall_mem_cons.mpr ⟨lw_p28, List.forall_mem_cons.mpr ⟨lw_p29, List.forall_mem_cons.mpr ⟨lw_p30, List.forall_mem_cons.mpr ⟨lw_p31, fun _ h => absurd h List.not_mem_nil⟩⟩⟩⟩⟩⟩⟩⟩⟩⟩⟩⟩⟩⟩⟩⟩
theorem lw_p32 : lw_okq (⟨"RankStairsModel", "isLoaded", "(II)Z"⟩, 35) := ⟨⟨by decide +kernel, by decide +kernel⟩, List.mem_of_getElem? (i := 834) (by decide +kernel), List.mem_of_getElem? (i := 1035) (by decide +kernel), List.mem_of_getElem? (i := 1036) (by decide +kernel)⟩
theorem lw_p33 : lw_okq (⟨"RankStairsModel", "trodden", "(I)I"⟩, 35) := ⟨⟨by decide +kernel, by decide +kernel⟩, List.mem_of_getElem? (i := 834) (by decide +kernel), List.mem_of_getElem? (i := 1039) (by decide +kernel), List.mem_of_getElem? (i := 1040) (by decide +kernel)⟩
theorem lw_p34 : lw_okq (⟨"RankStairsModel", "mayTread", "(III)Z"⟩, 35) := ⟨⟨by decide +kernel, by decide +kernel⟩, List.mem_of_getElem? (i := 834) (by decide +kernel), List.mem_of_getElem? (i := 1043) (by decide +kernel), List.mem_of_getElem? (i := 1044) (by decide +kernel)⟩
theorem lw_p35 : lw_okq (⟨"RankStairsModel", "sets", "(ZII)I"⟩, 35) := ⟨⟨by decide +kernel, by decide +kernel⟩, List.mem_of_getElem? (i := 834) (by decide +kernel), List.mem_of_getElem? (i := 1052) (by decide +kernel), List.mem_of_getElem? (i := 1053) (by decide +kernel)⟩
theorem lw_p36 : lw_okq (⟨"RankStairsModel", "climbOn", "(II)I"⟩, 35) := ⟨⟨by decide +kernel, by decide +kernel⟩, List.mem_of_getElem? (i := 834) (by decide +kernel), List.mem_of_getElem? (i := 1093) (by decide +kernel), List.mem_of_getElem? (i := 1094) (by decide +kernel)⟩
theorem lw_p37 : lw_okq (⟨"RankStairsModel", "layFewest", "(II)V"⟩, 35) := ⟨⟨by decide +kernel, by decide +kernel⟩, List.mem_of_getElem? (i := 834) (by decide +kernel), List.mem_of_getElem? (i := 1097) (by decide +kernel), List.mem_of_getElem? (i := 1098) (by decide +kernel)⟩
theorem lw_p38 : lw_okq (⟨"RankStairsModel", "wornOver", "(I)I"⟩, 35) := ⟨⟨by decide +kernel, by decide +kernel⟩, List.mem_of_getElem? (i := 834) (by decide +kernel), List.mem_of_getElem? (i := 1109) (by decide +kernel), List.mem_of_getElem? (i := 1110) (by decide +kernel)⟩
theorem lw_p39 : lw_okq (⟨"RankStairsModel", "hasClimb", "(II)Z"⟩, 35) := ⟨⟨by decide +kernel, by decide +kernel⟩, List.mem_of_getElem? (i := 834) (by decide +kernel), List.mem_of_getElem? (i := 1113) (by decide +kernel), List.mem_of_getElem? (i := 1114) (by decide +kernel)⟩
theorem lw_p40 : lw_okq (⟨"RankStairsModel", "homesOn", "(I)I"⟩, 35) := ⟨⟨by decide +kernel, by decide +kernel⟩, List.mem_of_getElem? (i := 834) (by decide +kernel), List.mem_of_getElem? (i := 1121) (by decide +kernel), List.mem_of_getElem? (i := 1122) (by decide +kernel)⟩
theorem lw_p41 : lw_okq (⟨"RankStairsModel", "daysOn", "(II)I"⟩, 35) := ⟨⟨by decide +kernel, by decide +kernel⟩, List.mem_of_getElem? (i := 834) (by decide +kernel), List.mem_of_getElem? (i := 1133) (by decide +kernel), List.mem_of_getElem? (i := 1134) (by decide +kernel)⟩
theorem lw_p42 : lw_okq (⟨"RankStairsModel", "goes", "(II)Z"⟩, 35) := ⟨⟨by decide +kernel, by decide +kernel⟩, List.mem_of_getElem? (i := 834) (by decide +kernel), List.mem_of_getElem? (i := 1137) (by decide +kernel), List.mem_of_getElem? (i := 1138) (by decide +kernel)⟩
theorem lw_p43 : lw_okq (⟨"RankStairsModel", "copies", "(II)V"⟩, 35) := ⟨⟨by decide +kernel, by decide +kernel⟩, List.mem_of_getElem? (i := 834) (by decide +kernel), List.mem_of_getElem? (i := 1145) (by decide +kernel), List.mem_of_getElem? (i := 1146) (by decide +kernel)⟩
theorem lw_p44 : lw_okq (⟨"RankStairsModel", "brokenOn", "(I)I"⟩, 35) := ⟨⟨by decide +kernel, by decide +kernel⟩, List.mem_of_getElem? (i := 834) (by decide +kernel), List.mem_of_getElem? (i := 1149) (by decide +kernel), List.mem_of_getElem? (i := 1150) (by decide +kernel)⟩
theorem lw_p45 : lw_okq (⟨"RankStairsModel", "laysFloors", "(I)Z"⟩, 35) := ⟨⟨by decide +kernel, by decide +kernel⟩, List.mem_of_getElem? (i := 834) (by decide +kernel), List.mem_of_getElem? (i := 1184) (by decide +kernel), List.mem_of_getElem? (i := 1185) (by decide +kernel)⟩
theorem lw_p46 : lw_okq (⟨"RankStairsModel", "meanOf", "(III)J"⟩, 35) := ⟨⟨by decide +kernel, by decide +kernel⟩, List.mem_of_getElem? (i := 834) (by decide +kernel), List.mem_of_getElem? (i := 1192) (by decide +kernel), List.mem_of_getElem? (i := 1193) (by decide +kernel)⟩
theorem lw_p47 : lw_okq (⟨"RankStairsModel", "allFloors", "()I"⟩, 35) := ⟨⟨by decide +kernel, by decide +kernel⟩, List.mem_of_getElem? (i := 834) (by decide +kernel), List.mem_of_getElem? (i := 1217) (by decide +kernel), List.mem_of_getElem? (i := 1218) (by decide +kernel)⟩
def lw_privs_3 : List (MethodName × Nat) := [(⟨"RankStairsModel", "isLoaded", "(II)Z"⟩, 35), (⟨"RankStairsModel", "trodden", "(I)I"⟩, 35), (⟨"RankStairsModel", "mayTread", "(III)Z"⟩, 35), (⟨"RankStairsModel", "sets", "(ZII)I"⟩, 35), (⟨"RankStairsModel", "climbOn", "(II)I"⟩, 35), (⟨"RankStairsModel", "layFewest", "(II)V"⟩, 35), (⟨"RankStairsModel", "wornOver", "(I)I"⟩, 35), (⟨"RankStairsModel", "hasClimb", "(II)Z"⟩, 35), (⟨"RankStairsModel", "homesOn", "(I)I"⟩, 35), (⟨"RankStairsModel", "daysOn", "(II)I"⟩, 35), (⟨"RankStairsModel", "goes", "(II)Z"⟩, 35), (⟨"RankStairsModel", "copies", "(II)V"⟩, 35), (⟨"RankStairsModel", "brokenOn", "(I)I"⟩, 35), (⟨"RankStairsModel", "laysFloors", "(I)Z"⟩, 35), (⟨"RankStairsModel", "meanOf", "(III)J"⟩, 35), (⟨"RankStairsModel", "allFloors", "()I"⟩, 35)]
theorem lw_r3 : ∀ q ∈ lw_privs_3, lw_okq q := List.forall_mem_cons.mpr ⟨lw_p32, List.forall_mem_cons.mpr ⟨lw_p33, List.forall_mem_cons.mpr ⟨lw_p34, List.forall_mem_cons.mpr ⟨lw_p35, List.forall_mem_cons.mpr ⟨lw_p36, List.forall_mem_cons.mpr ⟨lw_p37, List.forall_mem_cons.mpr ⟨lw_p38, List.forall_mem_cons.mpr ⟨lw_p39, List.forall_mem_cons.mpr ⟨lw_p40, List.forall_mem_cons.mpr ⟨lw_p41, List.forall_mem_cons.mpr ⟨lw_p42, List.forall_mem_cons.mpr ⟨lw_p43, List.forall_mem_cons.mpr ⟨lw_p44, List.forall_mem_cons.mpr ⟨lw_p45, List.forall_mem_cons.mpr ⟨lw_p46, List.forall_mem_cons.mpr ⟨lw_p47, fun _ h => absurd h List.not_mem_nil⟩⟩⟩⟩⟩⟩⟩⟩⟩⟩⟩⟩⟩⟩⟩⟩
theorem lw_p48 : lw_okq (⟨"RankStairsModel", "isAsSeen", "(I)Z"⟩, 35) := ⟨⟨by decide +kernel, by decide +kernel⟩, List.mem_of_getElem? (i := 834) (by decide +kernel), List.mem_of_getElem? (i := 1221) (by decide +kernel), List.mem_of_getElem? (i := 1222) (by decide +kernel)⟩
theorem lw_p49 : lw_okq (⟨"RankStairsModel", "floorOf", "(II)I"⟩, 35) := ⟨⟨by decide +kernel, by decide +kernel⟩, List.mem_of_getElem? (i := 834) (by decide +kernel), List.mem_of_getElem? (i := 1225) (by decide +kernel), List.mem_of_getElem? (i := 1226) (by decide +kernel)⟩
def lw_privs_4 : List (MethodName × Nat) := [(⟨"RankStairsModel", "isAsSeen", "(I)Z"⟩, 35), (⟨"RankStairsModel", "floorOf", "(II)I"⟩, 35)]
theorem lw_r4 : ∀ q ∈ lw_privs_4, lw_okq q := List.forall_mem_cons.mpr ⟨lw_p48, List.forall_mem_cons.mpr ⟨lw_p49, fun _ h => absurd h List.not_mem_nil⟩⟩
def lw_privs : List (MethodName × Nat) := lw_privs_1 ++ (lw_privs_2 ++ (lw_privs_3 ++ (lw_privs_4)))
def lw_tbl : List Cond := k2_sels lw_privs ++ tables_1
theorem lw_privs_ok : ∀ q ∈ lw_privs, lw_okq q := by
  show ∀ q ∈ lw_privs_1 ++ (lw_privs_2 ++ (lw_privs_3 ++ (lw_privs_4))), lw_okq q
  exact List.forall_mem_append.mpr ⟨lw_r1, List.forall_mem_append.mpr ⟨lw_r2, List.forall_mem_append.mpr ⟨lw_r3, lw_r4⟩⟩⟩
end
section
def RX0 : String := "RankStairs$Chances"
def TX0 : u_T := fun k => match k with
  | 0 => ("RankStairs$Chances", "shares", "[J", true)
  | _ => ("RankStairs$Chances", "above", "[J", true)
def tyX0 : Nat → FieldType := fun k => match k with
  | 0 => .array .long
  | _ => .array .long
abbrev wsX00 : List Cond := u_ws RX0 TX0 2
theorem nmX0 : ∀ a, a < 2 → ∀ b, b < 2 → a ≠ b → (TX0 a).2.1 ≠ (TX0 b).2.1 := by decide +kernel
theorem tyX0_ok : ∀ k, k < 2 → parseFieldDescriptor (TX0 k).2.2.1 = some (tyX0 k) := by decide +kernel
abbrev cX0_init : ByteArray := prog_2_method_1_code
def yX0_init : MethodName := ⟨RX0, "<init>", "()V"⟩
abbrev cX0_ofHome : ByteArray := prog_2_method_2_code
def yX0_ofHome : MethodName := ⟨RX0, "ofHome", "(LRankStairs$House;II)J"⟩
abbrev cX0_passStep : ByteArray := prog_2_method_3_code
def yX0_passStep : MethodName := ⟨RX0, "passStep", "(II)V"⟩
abbrev cX0_lowest : ByteArray := prog_2_method_4_code
def yX0_lowest : MethodName := ⟨RX0, "lowest", "(JI)J"⟩
def RX1 : String := "RankStairs$Climber"
def TX1 : u_T := fun k => match k with
  | 0 => ("RankStairs$Climber", "paths", "[I", true)
  | _ => ("RankStairs$Climber", "row", "[I", true)
def tyX1 : Nat → FieldType := fun k => match k with
  | 0 => .array .int
  | _ => .array .int
abbrev wsX10 : List Cond := u_ws RX1 TX1 2
theorem nmX1 : ∀ a, a < 2 → ∀ b, b < 2 → a ≠ b → (TX1 a).2.1 ≠ (TX1 b).2.1 := by decide +kernel
theorem tyX1_ok : ∀ k, k < 2 → parseFieldDescriptor (TX1 k).2.2.1 = some (tyX1 k) := by decide +kernel
abbrev cX1_init : ByteArray := prog_3_method_1_code
def yX1_init : MethodName := ⟨RX1, "<init>", "()V"⟩
abbrev cX1_shortest : ByteArray := prog_3_method_2_code
def yX1_shortest : MethodName := ⟨RX1, "shortest", "(LRankStairs$House;I)I"⟩
abbrev cX1_findPaths : ByteArray := prog_3_method_3_code
def yX1_findPaths : MethodName := ⟨RX1, "findPaths", "(III[I)V"⟩
abbrev cX1_shortestOf : ByteArray := prog_3_method_4_code
def yX1_shortestOf : MethodName := ⟨RX1, "shortestOf", "([III)I"⟩
abbrev cX1_shorter : ByteArray := prog_3_method_5_code
def yX1_shorter : MethodName := ⟨RX1, "shorter", "(II)I"⟩
abbrev cX1_countClimbs : ByteArray := prog_3_method_6_code
def yX1_countClimbs : MethodName := ⟨RX1, "countClimbs", "(LRankStairs$House;I)I"⟩
abbrev cX1_leastWorst : ByteArray := prog_3_method_7_code
def yX1_leastWorst : MethodName := ⟨RX1, "leastWorst", "(LRankStairs$House;I)I"⟩
abbrev cX1_fewestWithin : ByteArray := prog_3_method_8_code
def yX1_fewestWithin : MethodName := ⟨RX1, "fewestWithin", "(LRankStairs$House;II)I"⟩
abbrev cX1_goes : ByteArray := prog_3_method_9_code
def yX1_goes : MethodName := ⟨RX1, "goes", "(LRankStairs$House;I)Z"⟩
abbrev cX1_goDay : ByteArray := prog_3_method_10_code
def yX1_goDay : MethodName := ⟨RX1, "goDay", "(LRankStairs$House;)I"⟩
abbrev cX1_goDays : ByteArray := prog_3_method_11_code
def yX1_goDays : MethodName := ⟨RX1, "goDays", "(LRankStairs$House;I)I"⟩
def RX2 : String := "RankStairs$Dust"
def TX2 : u_T := fun k => match k with
  | 0 => ("RankStairs$Dust", "seen", "I", false)
  | 1 => ("RankStairs$Dust", "floorBits", "[I", true)
  | 2 => ("RankStairs$Dust", "seenSteps", "[I", true)
  | 3 => ("RankStairs$Dust", "seenMore", "[I", true)
  | 4 => ("RankStairs$Dust", "trial", "LRankStairs$House;", true)
  | 5 => ("RankStairs$Dust", "wearsAt", "[[I", true)
  | _ => ("RankStairs$Dust", "pathsAt", "[[I", true)
def tyX2 : Nat → FieldType := fun k => match k with
  | 0 => .int
  | 1 => .array .int
  | 2 => .array .int
  | 3 => .array .int
  | 4 => .object "RankStairs$House"
  | 5 => .array (.array .int)
  | _ => .array (.array .int)
abbrev wsX20 : List Cond := u_ws RX2 TX2 7
theorem nmX2 : ∀ a, a < 7 → ∀ b, b < 7 → a ≠ b → (TX2 a).2.1 ≠ (TX2 b).2.1 := by decide +kernel
theorem tyX2_ok : ∀ k, k < 7 → parseFieldDescriptor (TX2 k).2.2.1 = some (tyX2 k) := by decide +kernel
abbrev cX2_init : ByteArray := prog_4_method_1_code
def yX2_init : MethodName := ⟨RX2, "<init>", "()V"⟩
abbrev cX2_note : ByteArray := prog_4_method_2_code
def yX2_note : MethodName := ⟨RX2, "note", "(II)I"⟩
abbrev cX2_search : ByteArray := prog_4_method_3_code
def yX2_search : MethodName := ⟨RX2, "search", "(LRankStairs$House;)I"⟩
abbrev cX2_searchFrom : ByteArray := prog_4_method_4_code
def yX2_searchFrom : MethodName := ⟨RX2, "searchFrom", "(I)I"⟩
abbrev cX2_searchBehind : ByteArray := prog_4_method_5_code
def yX2_searchBehind : MethodName := ⟨RX2, "searchBehind", "(II)I"⟩
abbrev cX2_canBeSo : ByteArray := prog_4_method_6_code
def yX2_canBeSo : MethodName := ⟨RX2, "canBeSo", "(I)Z"⟩
def RX3 : String := "RankStairs$Exchange"
def TX3 : u_T := fun k => match k with
  | 0 => ("RankStairs$Exchange", "bestHave", "I", false)
  | 1 => ("RankStairs$Exchange", "bestSteps", "I", false)
  | 2 => ("RankStairs$Exchange", "bestTakes", "[I", true)
  | 3 => ("RankStairs$Exchange", "takes", "[I", true)
  | 4 => ("RankStairs$Exchange", "paths", "[I", true)
  | _ => ("RankStairs$Exchange", "lengths", "[I", true)
def tyX3 : Nat → FieldType := fun k => match k with
  | 0 => .int
  | 1 => .int
  | 2 => .array .int
  | 3 => .array .int
  | 4 => .array .int
  | _ => .array .int
abbrev wsX30 : List Cond := u_ws RX3 TX3 6
theorem nmX3 : ∀ a, a < 6 → ∀ b, b < 6 → a ≠ b → (TX3 a).2.1 ≠ (TX3 b).2.1 := by decide +kernel
theorem tyX3_ok : ∀ k, k < 6 → parseFieldDescriptor (TX3 k).2.2.1 = some (tyX3 k) := by decide +kernel
abbrev cX3_init : ByteArray := prog_5_method_1_code
def yX3_init : MethodName := ⟨RX3, "<init>", "()V"⟩
abbrev cX3_arrange : ByteArray := prog_5_method_2_code
def yX3_arrange : MethodName := ⟨RX3, "arrange", "(LRankStairs$House;)V"⟩
abbrev cX3_takeFrom : ByteArray := prog_5_method_3_code
def yX3_takeFrom : MethodName := ⟨RX3, "takeFrom", "(IIIII)V"⟩
def RX4 : String := "RankStairs$House"
def TX4 : u_T := fun k => match k with
  | 0 => ("RankStairs$House", "steps", "I", false)
  | 1 => ("RankStairs$House", "lodgers", "I", false)
  | 2 => ("RankStairs$House", "gapLaw", "I", false)
  | 3 => ("RankStairs$House", "holdLaw", "I", false)
  | 4 => ("RankStairs$House", "dayNumber", "I", false)
  | 5 => ("RankStairs$House", "kinds", "[I", true)
  | 6 => ("RankStairs$House", "years", "[I", true)
  | 7 => ("RankStairs$House", "wears", "[I", true)
  | 8 => ("RankStairs$House", "legsOf", "[I", true)
  | 9 => ("RankStairs$House", "rankOf", "[I", true)
  | 10 => ("RankStairs$House", "loadOf", "[I", true)
  | _ => ("RankStairs$House", "floorOf", "[I", true)
def tyX4 : Nat → FieldType := fun k => match k with
  | 0 => .int
  | 1 => .int
  | 2 => .int
  | 3 => .int
  | 4 => .int
  | 5 => .array .int
  | 6 => .array .int
  | 7 => .array .int
  | 8 => .array .int
  | 9 => .array .int
  | 10 => .array .int
  | _ => .array .int
abbrev wsX40 : List Cond := u_ws RX4 TX4 12
theorem nmX4 : ∀ a, a < 12 → ∀ b, b < 12 → a ≠ b → (TX4 a).2.1 ≠ (TX4 b).2.1 := by decide +kernel
theorem tyX4_ok : ∀ k, k < 12 → parseFieldDescriptor (TX4 k).2.2.1 = some (tyX4 k) := by decide +kernel
abbrev cX4_init : ByteArray := prog_6_method_1_code
def yX4_init : MethodName := ⟨RX4, "<init>", "()V"⟩
abbrev cX4_empty : ByteArray := prog_6_method_2_code
def yX4_empty : MethodName := ⟨RX4, "empty", "()V"⟩
abbrev cX4_copyFrom : ByteArray := prog_6_method_3_code
def yX4_copyFrom : MethodName := ⟨RX4, "copyFrom", "(LRankStairs$House;)V"⟩
abbrev cX4_addStep : ByteArray := prog_6_method_4_code
def yX4_addStep : MethodName := ⟨RX4, "addStep", "(III)V"⟩
abbrev cX4_addLodger : ByteArray := prog_6_method_5_code
def yX4_addLodger : MethodName := ⟨RX4, "addLodger", "(IIII)V"⟩
abbrev cX4_renew : ByteArray := prog_6_method_6_code
def yX4_renew : MethodName := ⟨RX4, "renew", "(I)V"⟩
abbrev cX4_rankOfStep : ByteArray := prog_6_method_7_code
def yX4_rankOfStep : MethodName := ⟨RX4, "rankOfStep", "(I)I"⟩
abbrev cX4_isBroken : ByteArray := prog_6_method_8_code
def yX4_isBroken : MethodName := ⟨RX4, "isBroken", "(I)Z"⟩
abbrev cX4_brokenBits : ByteArray := prog_6_method_9_code
def yX4_brokenBits : MethodName := ⟨RX4, "brokenBits", "()I"⟩
abbrev cX4_mostWear : ByteArray := prog_6_method_10_code
def yX4_mostWear : MethodName := ⟨RX4, "mostWear", "()I"⟩
abbrev cX4_allWear : ByteArray := prog_6_method_11_code
def yX4_allWear : MethodName := ⟨RX4, "allWear", "()I"⟩
abbrev cX4_isHeavy : ByteArray := prog_6_method_12_code
def yX4_isHeavy : MethodName := ⟨RX4, "isHeavy", "(I)Z"⟩
abbrev cX4_reachOf : ByteArray := prog_6_method_13_code
def yX4_reachOf : MethodName := ⟨RX4, "reachOf", "(I)I"⟩
abbrev cX4_treadBits : ByteArray := prog_6_method_14_code
def yX4_treadBits : MethodName := ⟨RX4, "treadBits", "(I)I"⟩
abbrev cX4_isNear : ByteArray := prog_6_method_15_code
def yX4_isNear : MethodName := ⟨RX4, "isNear", "(II)Z"⟩
abbrev cX4_getsHome : ByteArray := prog_6_method_16_code
def yX4_getsHome : MethodName := ⟨RX4, "getsHome", "(I)Z"⟩
abbrev cX4_getsHomeBy : ByteArray := prog_6_method_17_code
def yX4_getsHomeBy : MethodName := ⟨RX4, "getsHomeBy", "(II)Z"⟩
abbrev cX4_homeBits : ByteArray := prog_6_method_18_code
def yX4_homeBits : MethodName := ⟨RX4, "homeBits", "()I"⟩
abbrev cX4_wearBy : ByteArray := prog_6_method_19_code
def yX4_wearBy : MethodName := ⟨RX4, "wearBy", "(II)V"⟩
def RX5 : String := "RankStairs$Sheet"
def TX5 : u_T := fun k => match k with
  | 0 => ("RankStairs$Sheet", "size", "I", false)
  | 1 => ("RankStairs$Sheet", "cells", "[I", true)
  | _ => ("RankStairs$Sheet", "itsLane", "I", false)
def tyX5 : Nat → FieldType := fun k => match k with
  | 0 => .int
  | 1 => .array .int
  | _ => .int
abbrev wsX50 : List Cond := u_ws RX5 TX5 3
theorem nmX5 : ∀ a, a < 3 → ∀ b, b < 3 → a ≠ b → (TX5 a).2.1 ≠ (TX5 b).2.1 := by decide +kernel
theorem tyX5_ok : ∀ k, k < 3 → parseFieldDescriptor (TX5 k).2.2.1 = some (tyX5 k) := by decide +kernel
abbrev cX5_init : ByteArray := prog_7_method_1_code
def yX5_init : MethodName := ⟨RX5, "<init>", "()V"⟩
abbrev cX5_isNothing : ByteArray := prog_7_method_2_code
def yX5_isNothing : MethodName := ⟨RX5, "isNothing", "()Z"⟩
abbrev cX5_renew : ByteArray := prog_7_method_3_code
def yX5_renew : MethodName := ⟨RX5, "renew", "(II)V"⟩
abbrev cX5_faultAs : ByteArray := prog_7_method_4_code
def yX5_faultAs : MethodName := ⟨RX5, "faultAs", "(II)I"⟩
abbrev cX5_faultAt : ByteArray := prog_7_method_5_code
def yX5_faultAt : MethodName := ⟨RX5, "faultAt", "(I)I"⟩
abbrev cX5_put : ByteArray := prog_7_method_6_code
def yX5_put : MethodName := ⟨RX5, "put", "(II)V"⟩
def RX6 : String := "RankStairs$Tape"
def TX6 : u_T := fun k => match k with
  | 0 => ("RankStairs$Tape", "length", "I", false)
  | 1 => ("RankStairs$Tape", "found", "I", false)
  | 2 => ("RankStairs$Tape", "foundAt", "I", false)
  | 3 => ("RankStairs$Tape", "bytes", "[B", true)
  | 4 => ("RankStairs$Tape", "numbers", "[I", true)
  | 5 => ("RankStairs$Tape", "place", "I", false)
  | 6 => ("RankStairs$Tape", "token", "I", false)
  | 7 => ("RankStairs$Tape", "tokenAt", "I", false)
  | 8 => ("RankStairs$Tape", "gapTold", "Z", false)
  | _ => ("RankStairs$Tape", "holdTold", "Z", false)
def tyX6 : Nat → FieldType := fun k => match k with
  | 0 => .int
  | 1 => .int
  | 2 => .int
  | 3 => .array .byte
  | 4 => .array .int
  | 5 => .int
  | 6 => .int
  | 7 => .int
  | 8 => .boolean
  | _ => .boolean
abbrev wsX60 : List Cond := u_ws RX6 TX6 10
theorem nmX6 : ∀ a, a < 10 → ∀ b, b < 10 → a ≠ b → (TX6 a).2.1 ≠ (TX6 b).2.1 := by decide +kernel
theorem tyX6_ok : ∀ k, k < 10 → parseFieldDescriptor (TX6 k).2.2.1 = some (tyX6 k) := by decide +kernel
abbrev cX6_init : ByteArray := prog_8_method_1_code
def yX6_init : MethodName := ⟨RX6, "<init>", "()V"⟩
abbrev cX6_put : ByteArray := prog_8_method_2_code
def yX6_put : MethodName := ⟨RX6, "put", "(I)I"⟩
abbrev cX6_tell : ByteArray := prog_8_method_3_code
def yX6_tell : MethodName := ⟨RX6, "tell", "(LRankStairs$House;)I"⟩
abbrev cX6_hasLostFloor : ByteArray := prog_8_method_4_code
def yX6_hasLostFloor : MethodName := ⟨RX6, "hasLostFloor", "(LRankStairs$House;)Z"⟩
abbrev cX6_takeLine : ByteArray := prog_8_method_5_code
def yX6_takeLine : MethodName := ⟨RX6, "takeLine", "(LRankStairs$House;)V"⟩
abbrev cX6_refuseOneTooMany : ByteArray := prog_8_method_6_code
def yX6_refuseOneTooMany : MethodName := ⟨RX6, "refuseOneTooMany", "(LRankStairs$House;I)V"⟩
abbrev cX6_takeNumber : ByteArray := prog_8_method_7_code
def yX6_takeNumber : MethodName := ⟨RX6, "takeNumber", "(II)V"⟩
abbrev cX6_tellLine : ByteArray := prog_8_method_8_code
def yX6_tellLine : MethodName := ⟨RX6, "tellLine", "(LRankStairs$House;I)V"⟩
abbrev cX6_takeTokenIfSound : ByteArray := prog_8_method_9_code
def yX6_takeTokenIfSound : MethodName := ⟨RX6, "takeTokenIfSound", "()V"⟩
abbrev cX6_takeToken : ByteArray := prog_8_method_10_code
def yX6_takeToken : MethodName := ⟨RX6, "takeToken", "()V"⟩
abbrev cX6_kindOfByte : ByteArray := prog_8_method_11_code
def yX6_kindOfByte : MethodName := ⟨RX6, "kindOfByte", "(I)I"⟩
abbrev cX6_lineOfName : ByteArray := prog_8_method_12_code
def yX6_lineOfName : MethodName := ⟨RX6, "lineOfName", "()I"⟩
abbrev cX6_isTokenNamed : ByteArray := prog_8_method_13_code
def yX6_isTokenNamed : MethodName := ⟨RX6, "isTokenNamed", "(Ljava/lang/String;)Z"⟩
abbrev cX6_nameOfLine : ByteArray := prog_8_method_14_code
def yX6_nameOfLine : MethodName := ⟨RX6, "nameOfLine", "(I)Ljava/lang/String;"⟩
abbrev cX6_refuse : ByteArray := prog_8_method_15_code
def yX6_refuse : MethodName := ⟨RX6, "refuse", "(II)V"⟩
def RX7 : String := "RankStairs"
def TX7 : u_T := fun k => match k with
  | 0 => ("RankStairs", "tape", "LRankStairs$Tape;", true)
  | 1 => ("RankStairs", "now", "LRankStairs$House;", true)
  | 2 => ("RankStairs", "trial", "LRankStairs$House;", true)
  | 3 => ("RankStairs", "images", "[LRankStairs$House;", true)
  | 4 => ("RankStairs", "kept", "[Z", true)
  | 5 => ("RankStairs", "climber", "LRankStairs$Climber;", true)
  | 6 => ("RankStairs", "exchange", "LRankStairs$Exchange;", true)
  | 7 => ("RankStairs", "chances", "LRankStairs$Chances;", true)
  | 8 => ("RankStairs", "dust", "LRankStairs$Dust;", true)
  | 9 => ("RankStairs", "sheets", "[LRankStairs$Sheet;", true)
  | _ => ("RankStairs", "readFault", "I", false)
def tyX7 : Nat → FieldType := fun k => match k with
  | 0 => .object "RankStairs$Tape"
  | 1 => .object "RankStairs$House"
  | 2 => .object "RankStairs$House"
  | 3 => .array (.object "RankStairs$House")
  | 4 => .array .boolean
  | 5 => .object "RankStairs$Climber"
  | 6 => .object "RankStairs$Exchange"
  | 7 => .object "RankStairs$Chances"
  | 8 => .object "RankStairs$Dust"
  | 9 => .array (.object "RankStairs$Sheet")
  | _ => .int
abbrev wsX70 : List Cond := u_ws RX7 TX7 11
theorem nmX7 : ∀ a, a < 11 → ∀ b, b < 11 → a ≠ b → (TX7 a).2.1 ≠ (TX7 b).2.1 := by decide +kernel
theorem tyX7_ok : ∀ k, k < 11 → parseFieldDescriptor (TX7 k).2.2.1 = some (tyX7 k) := by decide +kernel
abbrev cX7_init : ByteArray := prog_1_method_1_code
def yX7_init : MethodName := ⟨RX7, "<init>", "()V"⟩
abbrev cX7_feed : ByteArray := prog_1_method_2_code
def yX7_feed : MethodName := ⟨RX7, "feed", "(I)I"⟩
abbrev cX7_end : ByteArray := prog_1_method_3_code
def yX7_end : MethodName := ⟨RX7, "end", "(I)I"⟩
abbrev cX7_text : ByteArray := prog_1_method_4_code
def yX7_text : MethodName := ⟨RX7, "text", "()I"⟩
abbrev cX7_fault : ByteArray := prog_1_method_5_code
def yX7_fault : MethodName := ⟨RX7, "fault", "()I"⟩
abbrev cX7_rule : ByteArray := prog_1_method_6_code
def yX7_rule : MethodName := ⟨RX7, "rule", "(I)I"⟩
abbrev cX7_step : ByteArray := prog_1_method_7_code
def yX7_step : MethodName := ⟨RX7, "step", "(II)I"⟩
abbrev cX7_lodger : ByteArray := prog_1_method_8_code
def yX7_lodger : MethodName := ⟨RX7, "lodger", "(II)I"⟩
abbrev cX7_age : ByteArray := prog_1_method_9_code
def yX7_age : MethodName := ⟨RX7, "age", "(II)I"⟩
abbrev cX7_wear : ByteArray := prog_1_method_10_code
def yX7_wear : MethodName := ⟨RX7, "wear", "(II)I"⟩
abbrev cX7_mend : ByteArray := prog_1_method_11_code
def yX7_mend : MethodName := ⟨RX7, "mend", "(I)I"⟩
abbrev cX7_rank : ByteArray := prog_1_method_12_code
def yX7_rank : MethodName := ⟨RX7, "rank", "(II)I"⟩
abbrev cX7_load : ByteArray := prog_1_method_13_code
def yX7_load : MethodName := ⟨RX7, "load", "(II)I"⟩
abbrev cX7_move : ByteArray := prog_1_method_14_code
def yX7_move : MethodName := ⟨RX7, "move", "(II)I"⟩
abbrev cX7_law : ByteArray := prog_1_method_15_code
def yX7_law : MethodName := ⟨RX7, "law", "(II)I"⟩
abbrev cX7_year : ByteArray := prog_1_method_16_code
def yX7_year : MethodName := ⟨RX7, "year", "()I"⟩
abbrev cX7_climb : ByteArray := prog_1_method_17_code
def yX7_climb : MethodName := ⟨RX7, "climb", "(II)I"⟩
abbrev cX7_ways : ByteArray := prog_1_method_18_code
def yX7_ways : MethodName := ⟨RX7, "ways", "(I)I"⟩
abbrev cX7_smooth : ByteArray := prog_1_method_19_code
def yX7_smooth : MethodName := ⟨RX7, "smooth", "(II)I"⟩
abbrev cX7_homes : ByteArray := prog_1_method_20_code
def yX7_homes : MethodName := ⟨RX7, "homes", "()I"⟩
abbrev cX7_must : ByteArray := prog_1_method_21_code
def yX7_must : MethodName := ⟨RX7, "must", "(I)I"⟩
abbrev cX7_day : ByteArray := prog_1_method_22_code
def yX7_day : MethodName := ⟨RX7, "day", "(I)I"⟩
abbrev cX7_ahead : ByteArray := prog_1_method_23_code
def yX7_ahead : MethodName := ⟨RX7, "ahead", "(II)I"⟩
abbrev cX7_breaks : ByteArray := prog_1_method_24_code
def yX7_breaks : MethodName := ⟨RX7, "breaks", "(I)I"⟩
abbrev cX7_stuck : ByteArray := prog_1_method_25_code
def yX7_stuck : MethodName := ⟨RX7, "stuck", "(I)I"⟩
abbrev cX7_gap : ByteArray := prog_1_method_26_code
def yX7_gap : MethodName := ⟨RX7, "gap", "(I)I"⟩
abbrev cX7_legs : ByteArray := prog_1_method_27_code
def yX7_legs : MethodName := ⟨RX7, "legs", "(I)I"⟩
abbrev cX7_hold : ByteArray := prog_1_method_28_code
def yX7_hold : MethodName := ⟨RX7, "hold", "(I)I"⟩
abbrev cX7_best : ByteArray := prog_1_method_29_code
def yX7_best : MethodName := ⟨RX7, "best", "(I)I"⟩
abbrev cX7_lodge : ByteArray := prog_1_method_30_code
def yX7_lodge : MethodName := ⟨RX7, "lodge", "(I)I"⟩
abbrev cX7_odds : ByteArray := prog_1_method_31_code
def yX7_odds : MethodName := ⟨RX7, "odds", "(III)J"⟩
abbrev cX7_mean : ByteArray := prog_1_method_32_code
def yX7_mean : MethodName := ⟨RX7, "mean", "(II)J"⟩
abbrev cX7_see : ByteArray := prog_1_method_33_code
def yX7_see : MethodName := ⟨RX7, "see", "(II)I"⟩
abbrev cX7_forget : ByteArray := prog_1_method_34_code
def yX7_forget : MethodName := ⟨RX7, "forget", "(I)I"⟩
abbrev cX7_fits : ByteArray := prog_1_method_35_code
def yX7_fits : MethodName := ⟨RX7, "fits", "()I"⟩
abbrev cX7_floors : ByteArray := prog_1_method_36_code
def yX7_floors : MethodName := ⟨RX7, "floors", "(I)I"⟩
abbrev cX7_drift : ByteArray := prog_1_method_37_code
def yX7_drift : MethodName := ⟨RX7, "drift", "(III)I"⟩
abbrev cX7_keep : ByteArray := prog_1_method_38_code
def yX7_keep : MethodName := ⟨RX7, "keep", "(I)I"⟩
abbrev cX7_back : ByteArray := prog_1_method_39_code
def yX7_back : MethodName := ⟨RX7, "back", "(I)I"⟩
abbrev cX7_sheet : ByteArray := prog_1_method_40_code
def yX7_sheet : MethodName := ⟨RX7, "sheet", "(III)I"⟩
abbrev cX7_lay : ByteArray := prog_1_method_41_code
def yX7_lay : MethodName := ⟨RX7, "lay", "(III)I"⟩
abbrev cX7_read : ByteArray := prog_1_method_42_code
def yX7_read : MethodName := ⟨RX7, "read", "(IIII)I"⟩
abbrev cX7_torn : ByteArray := prog_1_method_43_code
def yX7_torn : MethodName := ⟨RX7, "torn", "()I"⟩
abbrev cX7_count : ByteArray := prog_1_method_44_code
def yX7_count : MethodName := ⟨RX7, "count", "(I)I"⟩
abbrev cX7_isStep : ByteArray := prog_1_method_45_code
def yX7_isStep : MethodName := ⟨RX7, "isStep", "(I)Z"⟩
abbrev cX7_isLodger : ByteArray := prog_1_method_46_code
def yX7_isLodger : MethodName := ⟨RX7, "isLodger", "(I)Z"⟩
abbrev cX7_isSheet : ByteArray := prog_1_method_47_code
def yX7_isSheet : MethodName := ⟨RX7, "isSheet", "(I)Z"⟩
abbrev cX7_isLane : ByteArray := prog_1_method_48_code
def yX7_isLane : MethodName := ⟨RX7, "isLane", "(I)Z"⟩
abbrev cX7_within : ByteArray := prog_1_method_49_code
def yX7_within : MethodName := ⟨RX7, "within", "(III)Z"⟩
abbrev cX7_forgetImages : ByteArray := prog_1_method_50_code
def yX7_forgetImages : MethodName := ⟨RX7, "forgetImages", "()V"⟩
abbrev cX7_countImages : ByteArray := prog_1_method_51_code
def yX7_countImages : MethodName := ⟨RX7, "countImages", "()I"⟩
abbrev cX7_exchanged : ByteArray := prog_1_method_52_code
def yX7_exchanged : MethodName := ⟨RX7, "exchanged", "([III)I"⟩
abbrev cX7_stepOfPath : ByteArray := prog_1_method_53_code
def yX7_stepOfPath : MethodName := ⟨RX7, "stepOfPath", "(II)I"⟩
def RX8 : String := "RankStairsModel"
def TX8 : u_T := fun k => match k with
  | 0 => ("RankStairsModel", "state", "[I", true)
  | 1 => ("RankStairsModel", "kinds", "[I", true)
  | 2 => ("RankStairsModel", "stepMany", "I", false)
  | 3 => ("RankStairsModel", "legs", "[I", true)
  | 4 => ("RankStairsModel", "lodgerMany", "I", false)
  | 5 => ("RankStairsModel", "out", "I", false)
  | 6 => ("RankStairsModel", "readPage", "[I", true)
  | 7 => ("RankStairsModel", "readKinds", "[I", true)
  | 8 => ("RankStairsModel", "readLegs", "[I", true)
  | 9 => ("RankStairsModel", "readSteps", "I", false)
  | 10 => ("RankStairsModel", "readLodgers", "I", false)
  | 11 => ("RankStairsModel", "toldOnce", "I", false)
  | 12 => ("RankStairsModel", "highFloor", "I", false)
  | 13 => ("RankStairsModel", "tape", "[I", true)
  | 14 => ("RankStairsModel", "taped", "I", false)
  | 15 => ("RankStairsModel", "fault", "I", false)
  | 16 => ("RankStairsModel", "broken", "I", false)
  | 17 => ("RankStairsModel", "brokenAt", "I", false)
  | 18 => ("RankStairsModel", "spot", "I", false)
  | 19 => ("RankStairsModel", "here", "I", false)
  | 20 => ("RankStairsModel", "token", "I", false)
  | 21 => ("RankStairsModel", "value", "I", false)
  | 22 => ("RankStairsModel", "cuts", "[I", true)
  | 23 => ("RankStairsModel", "letters", "[I", true)
  | 24 => ("RankStairsModel", "fewest", "[I", true)
  | 25 => ("RankStairsModel", "trod", "[I", true)
  | 26 => ("RankStairsModel", "wayMany", "[I", true)
  | 27 => ("RankStairsModel", "whose", "[I", true)
  | 28 => ("RankStairsModel", "seen", "[I", true)
  | 29 => ("RankStairsModel", "seenMany", "I", false)
  | 30 => ("RankStairsModel", "isKept", "[Z", true)
  | 31 => ("RankStairsModel", "lanes", "[I", true)
  | 32 => ("RankStairsModel", "lengths", "[I", true)
  | 33 => ("RankStairsModel", "cells", "[I", true)
  | _ => ("RankStairsModel", "torn", "I", false)
def tyX8 : Nat → FieldType := fun k => match k with
  | 0 => .array .int
  | 1 => .array .int
  | 2 => .int
  | 3 => .array .int
  | 4 => .int
  | 5 => .int
  | 6 => .array .int
  | 7 => .array .int
  | 8 => .array .int
  | 9 => .int
  | 10 => .int
  | 11 => .int
  | 12 => .int
  | 13 => .array .int
  | 14 => .int
  | 15 => .int
  | 16 => .int
  | 17 => .int
  | 18 => .int
  | 19 => .int
  | 20 => .int
  | 21 => .int
  | 22 => .array .int
  | 23 => .array .int
  | 24 => .array .int
  | 25 => .array .int
  | 26 => .array .int
  | 27 => .array .int
  | 28 => .array .int
  | 29 => .int
  | 30 => .array .boolean
  | 31 => .array .int
  | 32 => .array .int
  | 33 => .array .int
  | _ => .int
abbrev wsX80 : List Cond := u_ws RX8 TX8 35
theorem nmX8 : ∀ a, a < 35 → ∀ b, b < 35 → a ≠ b → (TX8 a).2.1 ≠ (TX8 b).2.1 := by decide +kernel
theorem tyX8_ok : ∀ k, k < 35 → parseFieldDescriptor (TX8 k).2.2.1 = some (tyX8 k) := by decide +kernel
abbrev cX8_init : ByteArray := prog_10_method_1_code
def yX8_init : MethodName := ⟨RX8, "<init>", "()V"⟩
abbrev cX8_in : ByteArray := prog_10_method_3_code
def yX8_in : MethodName := ⟨RX8, "in", "(JJJ)Z"⟩
abbrev cX8_feed : ByteArray := prog_10_method_4_code
def yX8_feed : MethodName := ⟨RX8, "feed", "(I)I"⟩
abbrev cX8_end : ByteArray := prog_10_method_5_code
def yX8_end : MethodName := ⟨RX8, "end", "(I)I"⟩
abbrev cX8_byteAt : ByteArray := prog_10_method_6_code
def yX8_byteAt : MethodName := ⟨RX8, "byteAt", "(I)I"⟩
abbrev cX8_fails : ByteArray := prog_10_method_7_code
def yX8_fails : MethodName := ⟨RX8, "fails", "(I)V"⟩
abbrev cX8_nameHere : ByteArray := prog_10_method_8_code
def yX8_nameHere : MethodName := ⟨RX8, "nameHere", "()I"⟩
abbrev cX8_goesOn : ByteArray := prog_10_method_9_code
def yX8_goesOn : MethodName := ⟨RX8, "goesOn", "()V"⟩
abbrev cX8_number : ByteArray := prog_10_method_10_code
def yX8_number : MethodName := ⟨RX8, "number", "(II)I"⟩
abbrev cX8_readMore : ByteArray := prog_10_method_11_code
def yX8_readMore : MethodName := ⟨RX8, "readMore", "(I)V"⟩
abbrev cX8_readLine : ByteArray := prog_10_method_12_code
def yX8_readLine : MethodName := ⟨RX8, "readLine", "()V"⟩
abbrev cX8_text : ByteArray := prog_10_method_13_code
def yX8_text : MethodName := ⟨RX8, "text", "()I"⟩
abbrev cX8_fault : ByteArray := prog_10_method_14_code
def yX8_fault : MethodName := ⟨RX8, "fault", "()I"⟩
abbrev cX8_isStep : ByteArray := prog_10_method_15_code
def yX8_isStep : MethodName := ⟨RX8, "isStep", "(I)Z"⟩
abbrev cX8_isLodger : ByteArray := prog_10_method_16_code
def yX8_isLodger : MethodName := ⟨RX8, "isLodger", "(I)Z"⟩
abbrev cX8_holdOn : ByteArray := prog_10_method_17_code
def yX8_holdOn : MethodName := ⟨RX8, "holdOn", "(I)I"⟩
abbrev cX8_rule : ByteArray := prog_10_method_18_code
def yX8_rule : MethodName := ⟨RX8, "rule", "(I)I"⟩
abbrev cX8_rankOn : ByteArray := prog_10_method_19_code
def yX8_rankOn : MethodName := ⟨RX8, "rankOn", "(II)I"⟩
abbrev cX8_isBroken : ByteArray := prog_10_method_20_code
def yX8_isBroken : MethodName := ⟨RX8, "isBroken", "(II)Z"⟩
abbrev cX8_brokenOn : ByteArray := prog_10_method_21_code
def yX8_brokenOn : MethodName := ⟨RX8, "brokenOn", "(I)I"⟩
abbrev cX8_mayTread : ByteArray := prog_10_method_22_code
def yX8_mayTread : MethodName := ⟨RX8, "mayTread", "(III)Z"⟩
abbrev cX8_isLoaded : ByteArray := prog_10_method_23_code
def yX8_isLoaded : MethodName := ⟨RX8, "isLoaded", "(II)Z"⟩
abbrev cX8_reachOn : ByteArray := prog_10_method_24_code
def yX8_reachOn : MethodName := ⟨RX8, "reachOn", "(II)I"⟩
abbrev cX8_trodden : ByteArray := prog_10_method_25_code
def yX8_trodden : MethodName := ⟨RX8, "trodden", "(I)I"⟩
abbrev cX8_step : ByteArray := prog_10_method_26_code
def yX8_step : MethodName := ⟨RX8, "step", "(II)I"⟩
abbrev cX8_lodger : ByteArray := prog_10_method_27_code
def yX8_lodger : MethodName := ⟨RX8, "lodger", "(II)I"⟩
abbrev cX8_sets : ByteArray := prog_10_method_28_code
def yX8_sets : MethodName := ⟨RX8, "sets", "(ZII)I"⟩
abbrev cX8_age : ByteArray := prog_10_method_29_code
def yX8_age : MethodName := ⟨RX8, "age", "(II)I"⟩
abbrev cX8_wear : ByteArray := prog_10_method_30_code
def yX8_wear : MethodName := ⟨RX8, "wear", "(II)I"⟩
abbrev cX8_mend : ByteArray := prog_10_method_31_code
def yX8_mend : MethodName := ⟨RX8, "mend", "(I)I"⟩
abbrev cX8_rank : ByteArray := prog_10_method_32_code
def yX8_rank : MethodName := ⟨RX8, "rank", "(II)I"⟩
abbrev cX8_load : ByteArray := prog_10_method_33_code
def yX8_load : MethodName := ⟨RX8, "load", "(II)I"⟩
abbrev cX8_move : ByteArray := prog_10_method_34_code
def yX8_move : MethodName := ⟨RX8, "move", "(II)I"⟩
abbrev cX8_law : ByteArray := prog_10_method_35_code
def yX8_law : MethodName := ⟨RX8, "law", "(II)I"⟩
abbrev cX8_year : ByteArray := prog_10_method_36_code
def yX8_year : MethodName := ⟨RX8, "year", "()I"⟩
abbrev cX8_layFewest : ByteArray := prog_10_method_37_code
def yX8_layFewest : MethodName := ⟨RX8, "layFewest", "(II)V"⟩
abbrev cX8_hasClimb : ByteArray := prog_10_method_38_code
def yX8_hasClimb : MethodName := ⟨RX8, "hasClimb", "(II)Z"⟩
abbrev cX8_climbOn : ByteArray := prog_10_method_39_code
def yX8_climbOn : MethodName := ⟨RX8, "climbOn", "(II)I"⟩
abbrev cX8_climb : ByteArray := prog_10_method_40_code
def yX8_climb : MethodName := ⟨RX8, "climb", "(II)I"⟩
abbrev cX8_ways : ByteArray := prog_10_method_41_code
def yX8_ways : MethodName := ⟨RX8, "ways", "(I)I"⟩
abbrev cX8_wornOver : ByteArray := prog_10_method_42_code
def yX8_wornOver : MethodName := ⟨RX8, "wornOver", "(I)I"⟩
abbrev cX8_smooth : ByteArray := prog_10_method_43_code
def yX8_smooth : MethodName := ⟨RX8, "smooth", "(II)I"⟩
abbrev cX8_homesOn : ByteArray := prog_10_method_44_code
def yX8_homesOn : MethodName := ⟨RX8, "homesOn", "(I)I"⟩
abbrev cX8_homes : ByteArray := prog_10_method_45_code
def yX8_homes : MethodName := ⟨RX8, "homes", "()I"⟩
abbrev cX8_must : ByteArray := prog_10_method_46_code
def yX8_must : MethodName := ⟨RX8, "must", "(I)I"⟩
abbrev cX8_goes : ByteArray := prog_10_method_47_code
def yX8_goes : MethodName := ⟨RX8, "goes", "(II)Z"⟩
abbrev cX8_daysOn : ByteArray := prog_10_method_48_code
def yX8_daysOn : MethodName := ⟨RX8, "daysOn", "(II)I"⟩
abbrev cX8_copies : ByteArray := prog_10_method_49_code
def yX8_copies : MethodName := ⟨RX8, "copies", "(II)V"⟩
abbrev cX8_day : ByteArray := prog_10_method_50_code
def yX8_day : MethodName := ⟨RX8, "day", "(I)I"⟩
abbrev cX8_ahead : ByteArray := prog_10_method_51_code
def yX8_ahead : MethodName := ⟨RX8, "ahead", "(II)I"⟩
abbrev cX8_breaks : ByteArray := prog_10_method_52_code
def yX8_breaks : MethodName := ⟨RX8, "breaks", "(I)I"⟩
abbrev cX8_stuck : ByteArray := prog_10_method_53_code
def yX8_stuck : MethodName := ⟨RX8, "stuck", "(I)I"⟩
abbrev cX8_gap : ByteArray := prog_10_method_54_code
def yX8_gap : MethodName := ⟨RX8, "gap", "(I)I"⟩
abbrev cX8_legs : ByteArray := prog_10_method_55_code
def yX8_legs : MethodName := ⟨RX8, "legs", "(I)I"⟩
abbrev cX8_hold : ByteArray := prog_10_method_56_code
def yX8_hold : MethodName := ⟨RX8, "hold", "(I)I"⟩
abbrev cX8_bitsOf : ByteArray := prog_10_method_57_code
def yX8_bitsOf : MethodName := ⟨RX8, "bitsOf", "(I)I"⟩
abbrev cX8_best : ByteArray := prog_10_method_58_code
def yX8_best : MethodName := ⟨RX8, "best", "(I)I"⟩
abbrev cX8_laysFloors : ByteArray := prog_10_method_59_code
def yX8_laysFloors : MethodName := ⟨RX8, "laysFloors", "(I)Z"⟩
abbrev cX8_lodge : ByteArray := prog_10_method_60_code
def yX8_lodge : MethodName := ⟨RX8, "lodge", "(I)I"⟩
abbrev cX8_lowest : ByteArray := prog_10_method_61_code
def yX8_lowest : MethodName := ⟨RX8, "lowest", "(JJI)J"⟩
abbrev cX8_meanOf : ByteArray := prog_10_method_62_code
def yX8_meanOf : MethodName := ⟨RX8, "meanOf", "(III)J"⟩
abbrev cX8_odds : ByteArray := prog_10_method_63_code
def yX8_odds : MethodName := ⟨RX8, "odds", "(III)J"⟩
abbrev cX8_mean : ByteArray := prog_10_method_64_code
def yX8_mean : MethodName := ⟨RX8, "mean", "(II)J"⟩
abbrev cX8_see : ByteArray := prog_10_method_65_code
def yX8_see : MethodName := ⟨RX8, "see", "(II)I"⟩
abbrev cX8_forget : ByteArray := prog_10_method_66_code
def yX8_forget : MethodName := ⟨RX8, "forget", "(I)I"⟩
abbrev cX8_allFloors : ByteArray := prog_10_method_67_code
def yX8_allFloors : MethodName := ⟨RX8, "allFloors", "()I"⟩
abbrev cX8_floorOf : ByteArray := prog_10_method_68_code
def yX8_floorOf : MethodName := ⟨RX8, "floorOf", "(II)I"⟩
abbrev cX8_isAsSeen : ByteArray := prog_10_method_69_code
def yX8_isAsSeen : MethodName := ⟨RX8, "isAsSeen", "(I)Z"⟩
abbrev cX8_fits : ByteArray := prog_10_method_70_code
def yX8_fits : MethodName := ⟨RX8, "fits", "()I"⟩
abbrev cX8_floors : ByteArray := prog_10_method_71_code
def yX8_floors : MethodName := ⟨RX8, "floors", "(I)I"⟩
abbrev cX8_drift : ByteArray := prog_10_method_72_code
def yX8_drift : MethodName := ⟨RX8, "drift", "(III)I"⟩
abbrev cX8_keep : ByteArray := prog_10_method_73_code
def yX8_keep : MethodName := ⟨RX8, "keep", "(I)I"⟩
abbrev cX8_back : ByteArray := prog_10_method_74_code
def yX8_back : MethodName := ⟨RX8, "back", "(I)I"⟩
abbrev cX8_sheet : ByteArray := prog_10_method_75_code
def yX8_sheet : MethodName := ⟨RX8, "sheet", "(III)I"⟩
abbrev cX8_lay : ByteArray := prog_10_method_76_code
def yX8_lay : MethodName := ⟨RX8, "lay", "(III)I"⟩
abbrev cX8_read : ByteArray := prog_10_method_77_code
def yX8_read : MethodName := ⟨RX8, "read", "(IIII)I"⟩
abbrev cX8_torn : ByteArray := prog_10_method_78_code
def yX8_torn : MethodName := ⟨RX8, "torn", "()I"⟩
abbrev cX8_count : ByteArray := prog_10_method_79_code
def yX8_count : MethodName := ⟨RX8, "count", "(I)I"⟩
def RJx145de : String := "java/io/Serializable"
def RJx9f9b0 : String := "java/lang/CharSequence"
def RJxb160c : String := "java/lang/Comparable"
def RJ6 : String := "java/lang/Integer"
abbrev cJ6_numberOfTrailingZeros_0f7a4 : ByteArray := prog_11_method_48_code
def yJ6_numberOfTrailingZeros_0f7a4 : MethodName := ⟨RJ6, "numberOfTrailingZeros", "(I)I"⟩
abbrev cJ6_bitCount_0f7a4 : ByteArray := prog_11_method_49_code
def yJ6_bitCount_0f7a4 : MethodName := ⟨RJ6, "bitCount", "(I)I"⟩
def RJ9 : String := "java/lang/Math"
abbrev cJ9_abs_0f7a4 : ByteArray := prog_12_method_59_code
def yJ9_abs_0f7a4 : MethodName := ⟨RJ9, "abs", "(I)I"⟩
abbrev cJ9_max_7cf53 : ByteArray := prog_12_method_65_code
def yJ9_max_7cf53 : MethodName := ⟨RJ9, "max", "(II)I"⟩
abbrev cJ9_min_7cf53 : ByteArray := prog_12_method_69_code
def yJ9_min_7cf53 : MethodName := ⟨RJ9, "min", "(II)I"⟩
def RJ0 : String := "java/lang/String"
abbrev cJ0_length_8abf5 : ByteArray := prog_13_method_54_code
def yJ0_length_8abf5 : MethodName := ⟨RJ0, "length", "()I"⟩
abbrev cJ0_charAt_5068e : ByteArray := prog_13_method_56_code
def yJ0_charAt_5068e : MethodName := ⟨RJ0, "charAt", "(I)C"⟩
abbrev cJ0_coder_7d493 : ByteArray := prog_13_method_152_code
def yJ0_coder_7d493 : MethodName := ⟨RJ0, "coder", "()B"⟩
abbrev cJ0_isLatin1_aae02 : ByteArray := prog_13_method_154_code
def yJ0_isLatin1_aae02 : MethodName := ⟨RJ0, "isLatin1", "()Z"⟩
abbrev cJ0_checkIndex_df160 : ByteArray := prog_13_method_155_code
def yJ0_checkIndex_df160 : MethodName := ⟨RJ0, "checkIndex", "(II)V"⟩
def RJ1 : String := "java/lang/StringLatin1"
abbrev cJ1_charAt_3b067 : ByteArray := prog_14_method_2_code
def yJ1_charAt_3b067 : MethodName := ⟨RJ1, "charAt", "([BI)C"⟩
def RJ2 : String := "java/lang/StringUTF16"
abbrev cJ2_getChar_3b067 : ByteArray := prog_15_method_5_code
def yJ2_getChar_3b067 : MethodName := ⟨RJ2, "getChar", "([BI)C"⟩
abbrev cJ2_length_9d52b : ByteArray := prog_15_method_6_code
def yJ2_length_9d52b : MethodName := ⟨RJ2, "length", "([B)I"⟩
abbrev cJ2_charAt_3b067 : ByteArray := prog_15_method_83_code
def yJ2_charAt_3b067 : MethodName := ⟨RJ2, "charAt", "([BI)C"⟩
abbrev cJ2_checkIndex_2214a : ByteArray := prog_15_method_91_code
def yJ2_checkIndex_2214a : MethodName := ⟨RJ2, "checkIndex", "(I[B)V"⟩
def RJ10 : String := "java/lang/System"
def RJxfd54e : String := "java/lang/constant/Constable"
def RJx3cf43 : String := "java/lang/constant/ConstantDesc"
def RJ7 : String := "java/util/Arrays"
abbrev cJ7_fill_d0a16 : ByteArray := prog_17_method_101_code
def yJ7_fill_d0a16 : MethodName := ⟨RJ7, "fill", "([JJ)V"⟩
abbrev cJ7_fill_53178 : ByteArray := prog_17_method_103_code
def yJ7_fill_53178 : MethodName := ⟨RJ7, "fill", "([II)V"⟩
def RJ3 : String := "jdk/internal/util/Preconditions"
abbrev cJ3_checkIndex_8e157 : ByteArray := prog_18_method_11_code
def yJ3_checkIndex_8e157 : MethodName := ⟨RJ3, "checkIndex", "(IILjava/util/function/BiFunction;)I"⟩
def RL : String := "RankStairsLaw"
abbrev cL_law : ByteArray := code
def yL_law : MethodName := ⟨RL, "law", "([I)Z"⟩
abbrev vwCl : List vw_C := [(RX0, TX0, 2), (RX1, TX1, 2), (RX2, TX2, 7), (RX3, TX3, 6), (RX4, TX4, 12), (RX5, TX5, 3), (RX6, TX6, 10), (RX7, TX7, 11), (RX8, TX8, 35)]
end
section
/-! THE ABSTRACT MACHINE. Cells have numbers (0 .. 99): 0, 8, 16, 24, 32 the Houses now, trial, image 0, image 1, the dust's (each with its seven rows behind it); 40, 42, 44, 46 the Sheets (a row behind each); 48 RankStairs; 49 Tape .. ; 81 RankStairsModel .. (wip/gen_base.py has the list). -/
abbrev mMem : Type := (Nat → Nat → Int32) × (Nat → Nat → Int64)
abbrev mR : Type := Option (Option Value × mMem)
/-- a method: name, code, number of locals, type of the answer, depth of its calls -/
abbrev mMI : Type := MethodName × ByteArray × Nat × Option FieldType × Nat
abbrev mCx : Type := Program × Launch × Env × State × MethodId × Array Value × List Frame × Method × Code × (Nat → Nat) × (Nat → ClassId) × va_G × (Nat → Prop)
abbrev xp (X : mCx) : Program := X.1
abbrev xl (X : mCx) : Launch := X.2.1
abbrev xe (X : mCx) : Env := X.2.2.1
abbrev xs (X : mCx) : State := X.2.2.2.1
abbrev xm (X : mCx) : MethodId := X.2.2.2.2.1
abbrev xa (X : mCx) : Array Value := X.2.2.2.2.2.1
abbrev xb (X : mCx) : List Frame := X.2.2.2.2.2.2.1
abbrev xM (X : mCx) : Method := X.2.2.2.2.2.2.2.1
abbrev xc (X : mCx) : Code := X.2.2.2.2.2.2.2.2.1
abbrev xad (X : mCx) : Nat → Nat := X.2.2.2.2.2.2.2.2.2.1
abbrev xcA (X : mCx) : Nat → ClassId := X.2.2.2.2.2.2.2.2.2.2.1
abbrev xD (X : mCx) : va_G := X.2.2.2.2.2.2.2.2.2.2.2.1
abbrev xA (X : mCx) : Nat → Prop := X.2.2.2.2.2.2.2.2.2.2.2.2
def kdL : List (Nat × Nat) := [(4, 0), (10, 10), (10, 10), (10, 10), (10, 4), (10, 4), (10, 4), (10, 4), (4, 0), (10, 10), (10, 10), (10, 10), (10, 4), (10, 4), (10, 4), (10, 4), (4, 0), (10, 10), (10, 10), (10, 10), (10, 4), (10, 4), (10, 4), (10, 4), (4, 0), (10, 10), (10, 10), (10, 10), (10, 4), (10, 4), (10, 4), (10, 4), (4, 0), (10, 10), (10, 10), (10, 10), (10, 4), (10, 4), (10, 4), (10, 4), (5, 0), (10, 40), (5, 0), (10, 40), (5, 0), (10, 40), (5, 0), (10, 40), (7, 0), (6, 0), (9, 160), (10, 4), (13, 2), (12, 2), (1, 0), (10, 10), (10, 10), (3, 0), (10, 4), (10, 4), (10, 10), (10, 16), (0, 0), (11, 16), (11, 16), (2, 0), (10, 4), (10, 6), (10, 6), (15, 5), (10, 10), (10, 10), (10, 10), (10, 10), (10, 10), (15, 4), (10, 10), (10, 10), (10, 10), (10, 10), (14, 4), (8, 0), (10, 210), (10, 10), (10, 4), (10, 35), (10, 10), (10, 4), (10, 160), (10, 8), (10, 33), (10, 11), (10, 10), (10, 11), (10, 4), (10, 12), (12, 2), (10, 4), (10, 4), (10, 160)]
def kd (i : Nat) : Nat × Nat := kdL.getD i (99, 0)
def rfL : List (List Nat) := [[0, 0, 0, 0, 0, 1, 2, 3, 4, 5, 6, 7], [], [], [], [], [], [], [], [0, 0, 0, 0, 0, 9, 10, 11, 12, 13, 14, 15], [], [], [], [], [], [], [], [0, 0, 0, 0, 0, 17, 18, 19, 20, 21, 22, 23], [], [], [], [], [], [], [], [0, 0, 0, 0, 0, 25, 26, 27, 28, 29, 30, 31], [], [], [], [], [], [], [], [0, 0, 0, 0, 0, 33, 34, 35, 36, 37, 38, 39], [], [], [], [], [], [], [], [0, 41, 0], [], [0, 43, 0], [], [0, 45, 0], [], [0, 47, 0], [], [49, 0, 8, 52, 53, 54, 57, 62, 65, 80, 0], [0, 0, 0, 50, 51], [], [], [16, 24], [], [55, 56], [], [], [0, 0, 58, 59, 60, 61], [], [], [], [], [63, 64], [], [], [0, 66, 67, 68, 32, 69, 75], [], [], [], [70, 71, 72, 73, 74], [], [], [], [], [], [76, 77, 78, 79], [], [], [], [], [40, 42, 44, 46], [82, 83, 0, 84, 0, 0, 85, 86, 87, 0, 0, 0, 0, 88, 0, 0, 0, 0, 0, 0, 0, 0, 89, 90, 91, 92, 93, 94, 95, 0, 96, 97, 98, 99, 0], [], [], [], [], [], [], [], [], [], [], [], [], [], [], [], [], [], []]
def rf (i k : Nat) : Nat := (rfL.getD i []).getD k 0
def ftL : List (List Nat) := [[2, 2], [2, 2], [0, 2, 2, 2, 2, 2, 2], [0, 0, 2, 2, 2, 2], [0, 0, 0, 0, 0, 2, 2, 2, 2, 2, 2, 2], [0, 2, 0], [0, 0, 0, 2, 2, 0, 0, 0, 1, 1], [2, 2, 2, 2, 2, 2, 2, 2, 2, 2, 0], [2, 2, 0, 2, 0, 0, 2, 2, 2, 0, 0, 0, 0, 2, 0, 0, 0, 0, 0, 0, 0, 0, 2, 2, 2, 2, 2, 2, 2, 0, 2, 2, 2, 2, 0]]
def ft (c k : Nat) : Nat := (ftL.getD c []).getD k 0
def nfc (c : Nat) : Nat := match vwCl[c]? with
  | some r => r.2.2
  | none => 0
def fv (ad : Nat → Nat) (c i k : Nat) (x : Nat → Int32) : Value := if ft c k = 2 then .ref (ad (rf i k)) else .int (x k)
def fsOf (ad : Nat → Nat) (c i : Nat) (x : Nat → Int32) : List Value := (List.range (nfc c)).map (fun k => fv ad c i k x)
def cellOf (ad : Nat → Nat) (cA : Nat → ClassId) (i : Nat) (x : Nat → Int32) (y : Nat → Int64) : va_E :=
  if (kd i).1 < 9 then .inr ((kd i).1, fsOf ad (kd i).1 i x)
  else if (kd i).1 = 11 then .inl (cA 11, (kd i).2, .inr (.inl y))
  else if 13 ≤ (kd i).1 then .inl (cA (kd i).1, (kd i).2, .inr (.inr (.inr (.inr (fun j => some (ad (rf i j)))))))
  else .inl (cA (kd i).1, (kd i).2, .inl x)
def wsOf (ad : Nat → Nat) (cA : Nat → ClassId) (μ : mMem) : va_W := (List.range 100).map (fun i => (ad i, cellOf ad cA i (μ.1 i) (μ.2 i)))
def tysOf (cA : Nat → ClassId) : List (ClassId × FieldType) := [(cA 9, .byte), (cA 10, .int), (cA 11, .long), (cA 12, .boolean), (cA 13, .object RX4), (cA 14, .object RX5), (cA 15, .array .int)]
def cz (ad : Nat → Nat) (v : Value) : Value := match v with
  | .ref a => .ref (ad a)
  | v => v
def czl (ad : Nat → Nat) (q : Nat × Value) : Nat × Value := (q.1, cz ad q.2)
def rmOf (d : Nat) : Room := { frames := d, cells := 0, slots := 0, locals := 100 * d }
def gdL : List Cond := lw_tbl.filter goodWord
theorem gd_mem {w : Cond} (i : Nat) (h : lw_tbl[i]? = some w) (hg : goodWord w = true) : w ∈ gdL := List.mem_filter.mpr ⟨List.mem_of_getElem? h, hg⟩
theorem gd_good {w : Cond} (h : w ∈ gdL) : (w.onTables && w.keeps) = true ∨ ∃ ty, w = .arrayClass ty := good_of_word (List.mem_filter.mp h).2
def wsM (q : mMI) : List Cond := .code q.1 q.2.1 q.2.2.1 q.2.2.2.1 :: gdL
def tNum (l : List Int32) (j : Nat) : Value := .int (l.getD j 0)
def tb114 : List Int32 := [2, 2, 2, 2, 4, 1, 1]
def tb115 : List Int32 := [0, 0, 0, 0, 0, 0, 0, 0, 0, 0, 0, 0, 0, 0, 0, 0, 1, 0, 0, 0, 0, 0, 0, 0, 1, 0, 0, 0]
def tb116 : List Int32 := [60, 99, 0, 0, 60, 99, 0, 0, 60, 99, 0, 0, 60, 99, 0, 0, 4, 3, 9, 9, 3, 0, 0, 0, 99, 0, 0, 0]
def sIdx : List Nat := [134, 136, 138, 140, 142, 144, 146]
def sTx : List String := ["wood", "stone", "iron", "landing", "lodger", "gap", "hold"]
def sLen : List Nat := [4, 5, 4, 7, 6, 3, 4]
def sByt : List (List Int32) := [[119, 111, 111, 100], [115, 116, 111, 110, 101], [105, 114, 111, 110], [108, 97, 110, 100, 105, 110, 103], [108, 111, 100, 103, 101, 114], [103, 97, 112], [104, 111, 108, 100]]
def ZT (ad : Nat → Nat) (A : Nat → Prop) (U : State) (H : Heap) (z N : Nat) (nm : String) (tb : List Int32) : Prop := va_Z "RankStairs$Tape" nm "[I" (.ref (ad z)) A U H ∧ va_T .int (ad z) N (fun j => .int (tb.getD j 0)) A U H
def ZQ (ad : Nat → Nat) (A : Nat → Prop) (U : State) (H : Heap) : Prop := va_Z "jdk/internal/util/Preconditions" "SIOOBE_FORMATTER" "Ljava/util/function/BiFunction;" .null A U H ∨ va_Z "jdk/internal/util/Preconditions" "SIOOBE_FORMATTER" "Ljava/util/function/BiFunction;" (.ref (ad 117)) A U H
theorem ZQ.moved {ad : Nat → Nat} {A : Nat → Prop} {s U : State} {H : Heap} (hW : s.vm.Alike U.vm) (h : ZQ ad A s H) : ZQ ad A U H := h.imp (va_Z.moved hW) (va_Z.moved hW)
theorem ZQ.kept {ad : Nat → Nat} {A : Nat → Prop} {U : State} {H H1 : Heap} (h : ZQ ad A U H) (hq : ∀ a : Nat, a < H.size → ¬ A a → H1[a]? = H[a]?) : ZQ ad A U H1 := h.imp (fun h => h.kept hq) (fun h => h.kept hq)
theorem ZQ.narrow {ad : Nat → Nat} {A B : Nat → Prop} {U : State} {H : Heap} (h : ZQ ad A U H) (hAB : ∀ q, B q → A q) : ZQ ad B U H := h.imp (fun h => h.narrow hAB) (fun h => h.narrow hAB)
/-- static arrays (cells 114 to 116) and String constants (cells 100 to 106, their bytes 107 to 113), which nobody writes -/
def ZS (ad : Nat → Nat) (A : Nat → Prop) (U : State) (H : Heap) : Prop :=
  ZT ad A U H 114 7 "NUMBERS" tb114 ∧ ZT ad A U H 115 28 "LEAST" tb115 ∧ ZT ad A U H 116 28 "MOST" tb116 ∧ va_Z "java/lang/String" "COMPACT_STRINGS" "Z" (.int 1) A U H ∧ ZQ ad A U H ∧ vk_S 7 sLen sByt (fun i => ad (100 + i)) (fun i => ad (107 + i)) A U H ∧ ∀ i, i < 7 → vk_R "RankStairs$Tape" (sIdx.getD i 0) (sTx.getD i "") (ad (100 + i)) U
theorem ZT.moved {ad : Nat → Nat} {A : Nat → Prop} {s U : State} {H : Heap} {z N : Nat} {nm : String} {tb : List Int32} (hW : s.vm.Alike U.vm) (h : ZT ad A s H z N nm tb) : ZT ad A U H z N nm tb := ⟨va_Z.moved hW h.1, va_T.moved hW h.2⟩
theorem ZT.kept {ad : Nat → Nat} {A : Nat → Prop} {U : State} {H H1 : Heap} {z N : Nat} {nm : String} {tb : List Int32} (h : ZT ad A U H z N nm tb) (hq : ∀ a : Nat, a < H.size → ¬ A a → H1[a]? = H[a]?) : ZT ad A U H1 z N nm tb := ⟨h.1.kept hq, h.2.kept hq⟩
theorem ZT.narrow {ad : Nat → Nat} {A B : Nat → Prop} {U : State} {H : Heap} {z N : Nat} {nm : String} {tb : List Int32} (h : ZT ad A U H z N nm tb) (hAB : ∀ q, B q → A q) : ZT ad B U H z N nm tb := ⟨h.1.narrow hAB, h.2.narrow hAB⟩
theorem ZS.warm {ad : Nat → Nat} {A : Nat → Prop} {s U : State} {H : Heap} (hW : s.WarmedH U.vm) (h : ZS ad A s H) : ZS ad A U H := ⟨h.1.moved hW.alike, h.2.1.moved hW.alike, h.2.2.1.moved hW.alike, va_Z.moved hW.alike h.2.2.2.1, ZQ.moved hW.alike h.2.2.2.2.1, vk_S.moved hW.alike h.2.2.2.2.2.1, fun i hi => vk_R.warm hW (h.2.2.2.2.2.2 i hi)⟩
theorem ZS.same {ad : Nat → Nat} {A : Nat → Prop} {s U : State} {H : Heap} (hW : U.vm = s.vm) (h : ZS ad A s H) : ZS ad A U H := by
  have hv : s.vm.Alike U.vm := by rw [hW]; exact Vm.Alike.refl _
  exact ⟨h.1.moved hv, h.2.1.moved hv, h.2.2.1.moved hv, va_Z.moved hv h.2.2.2.1, ZQ.moved hv h.2.2.2.2.1, vk_S.moved hv h.2.2.2.2.2.1, fun i hi => vk_R.same hW (h.2.2.2.2.2.2 i hi)⟩
theorem ZS.kept {ad : Nat → Nat} {A : Nat → Prop} {U : State} {H H1 : Heap} (h : ZS ad A U H) (hq : ∀ a : Nat, a < H.size → ¬ A a → H1[a]? = H[a]?) : ZS ad A U H1 := ⟨h.1.kept hq, h.2.1.kept hq, h.2.2.1.kept hq, h.2.2.2.1.kept hq, h.2.2.2.2.1.kept hq, h.2.2.2.2.2.1.kept hq, h.2.2.2.2.2.2⟩
theorem ZS.narrow {ad : Nat → Nat} {A B : Nat → Prop} {U : State} {H : Heap} (h : ZS ad A U H) (hAB : ∀ q, B q → A q) : ZS ad B U H := ⟨h.1.narrow hAB, h.2.1.narrow hAB, h.2.2.1.narrow hAB, h.2.2.2.1.narrow hAB, h.2.2.2.2.1.narrow hAB, h.2.2.2.2.2.1.narrow hAB, h.2.2.2.2.2.2⟩
def mInj (ad : Nat → Nat) : Prop := ∀ i j, i < 100 → j < 100 → ad i = ad j → i = j
def Good (q : mMI) (X : mCx) : Prop :=
  (xp X).tables.exec = Jvm.exec ∧ (xc X).code = q.2.1 ∧ (xc X).maxLocals = q.2.2.1 ∧ (xM X).sig.returnType = q.2.2.2.1 ∧ (xM X).locks = false ∧ (xs X).vm.findClass q.1.cls = some (xm X).cls ∧ (∀ w ∈ gdL, w.before (xa X) (xs X) = true) ∧ va_K (xD X) vwCl (tysOf (xcA X)) (xs X) ∧ mInj (xad X) ∧ (∀ i, i < 100 → xA X (xad X i)) ∧ (∀ z, (xs X).heap.size ≤ z → xA X z) ∧ ZS (xad X) (xA X) (xs X) (xs X).heap
def Qb (ad : Nat → Nat) (cA : Nat → ClassId) (D : va_G) (A : Nat → Prop) (v : Option Value) (μ' : mMem) : Array Value → State → Outcome → State → Prop := fun _ st oc t => oc = .returned (v.map (cz ad)) ∧ va_P D vwCl (wsOf ad cA μ') t.heap ∧ va_F A st t
/-- from here the method comes to its end with the answer and the memory of tgt (if that is some) -/
def T (q : mMI) (X : mCx) (tgt : mR) (pc : Nat) (lv : List (Nat × Value)) (st : List Value) (μ : mMem) : Prop :=
  Good q X → ∀ (v : Option Value) (μ' : mMem), tgt = some (v, μ') → ∀ (H : Heap) (locs : List Loc) (ls : Array Slot), va_P (xD X) vwCl (wsOf (xad X) (xcA X) μ) H → va_S (xA X) (xs X).heap H locs → lv_has ls q.2.2.1 (lv.map (czl (xad X))) →
    W (xp X) (xl X) (xe X) (rmOf q.2.2.2.2) (xs X) (xm X) (xa X) (xb X) (xM X) (xc X) H locs 0 0 (MQ (xb X) (Qb (xad X) (xcA X) (xD X) (xA X) v μ') (xa X) (xs X) 0 0 (xA X)) (F0 (xm X) pc ls (st.map (cz (xad X))))
def AA (ad : Nat → Nat) (sz : Nat) (z : Nat) : Prop := (∃ i, i < 100 ∧ ad i = z) ∨ sz ≤ z
def PreW (ad : Nat → Nat) (cA : Nat → ClassId) (D : va_G) (μ : mMem) (sz : Nat) (U : State) : Prop := U.heap.size = sz ∧ va_P D vwCl (wsOf ad cA μ) U.heap ∧ va_K D vwCl (tysOf cA) U ∧ mInj ad ∧ ZS ad (AA ad sz) U U.heap
/-- the contract: with these arguments and this memory the method comes to the answer and the memory of tgt -/
def BS (l : Launch) (q : mMI) (av : List Value) (μ : mMem) (tgt : mR) : Prop :=
  ∀ (v : Option Value) (μ' : mMem), tgt = some (v, μ') → ∀ (D : va_G) (ad : Nat → Nat) (cA : Nat → ClassId) (sz : Nat),
    Met l q.1 (wsM q) (rmOf q.2.2.2.2) (va_Pc (av.map (cz ad)) (PreW ad cA D μ sz)) (Qb ad cA D (AA ad sz) v μ') 0 0 (AA ad sz)

theorem kd_lt {i c n : Nat} (h : kd i = (c, n)) (hc : c < 99) : i < 100 := by
  rcases Nat.lt_or_ge i 100 with q | q
  · exact q
  · exfalso
    have h1 : kd i = (99, 0) := by
      unfold kd
      have h2 : kdL[i]? = none := List.getElem?_eq_none (by show kdL.length ≤ i; exact q)
      simp [List.getD, h2]
    rw [h1] at h
    have h3 : (99 : Nat) = c := congrArg Prod.fst h
    omega
theorem ws_at {ad : Nat → Nat} {cA : Nat → ClassId} {μ : mMem} {i : Nat} (h : i < 100) : (wsOf ad cA μ)[i]? = some (ad i, cellOf ad cA i (μ.1 i) (μ.2 i)) := by
  unfold wsOf
  rw [List.getElem?_map, List.getElem?_range h]
  rfl
theorem ws_len {ad : Nat → Nat} {cA : Nat → ClassId} {μ : mMem} : (wsOf ad cA μ).length = 100 := by
  unfold wsOf
  rw [List.length_map, List.length_range]
theorem ws_get {ad : Nat → Nat} {cA : Nat → ClassId} {μ : mMem} {i : Nat} {x : Nat × va_E} (h : (wsOf ad cA μ)[i]? = some x) : i < 100 ∧ x = (ad i, cellOf ad cA i (μ.1 i) (μ.2 i)) := by
  have hi : i < 100 := by
    have := (List.getElem?_eq_some_iff.mp h).1
    rw [ws_len] at this
    exact this
  rw [ws_at hi] at h
  exact ⟨hi, (Option.some.inj h).symm⟩
theorem ws_D {ad : Nat → Nat} {cA : Nat → ClassId} {μ : mMem} {A : Nat → Prop} (hj : mInj ad) (hA : ∀ i, i < 100 → A (ad i)) : va_D A (wsOf ad cA μ) := by
  refine ⟨fun i j x y hi hj' hxy => ?_, fun k x hx => ?_⟩
  · obtain ⟨h1, rfl⟩ := ws_get hi
    obtain ⟨h2, rfl⟩ := ws_get hj'
    exact hj i j h1 h2 hxy
  · obtain ⟨h1, rfl⟩ := ws_get hx
    exact hA k h1
theorem ws_set {ad : Nat → Nat} {cA : Nat → ClassId} {μ μ' : mMem} {i : Nat} {E : va_E} (hi : i < 100) (hE : cellOf ad cA i (μ'.1 i) (μ'.2 i) = E) (ho : ∀ j, j ≠ i → μ'.1 j = μ.1 j ∧ μ'.2 j = μ.2 j) : (wsOf ad cA μ).set i (ad i, E) = wsOf ad cA μ' := by
  apply List.ext_getElem?
  intro j
  rw [List.getElem?_set]
  by_cases hj : i = j
  · subst hj
    rw [if_pos rfl, ws_len, if_pos hi, ws_at hi, hE]
  · rw [if_neg hj]
    by_cases h : j < 100
    · rw [ws_at h, ws_at h, (ho j (fun q => hj q.symm)).1, (ho j (fun q => hj q.symm)).2]
    · rw [List.getElem?_eq_none (by rw [ws_len]; omega), List.getElem?_eq_none (by rw [ws_len]; omega)]
/-- memory, written -/
def si (μ : mMem) (b k : Nat) (x : Int32) : mMem := (fun i => if i = b then upd (μ.1 i) k x else μ.1 i, μ.2)
def sl (μ : mMem) (b k : Nat) (x : Int64) : mMem := (μ.1, fun i => if i = b then vp_updL (μ.2 i) k x else μ.2 i)
def ci (μ : mMem) (a b sp dp n : Nat) : mMem := (fun i => if i = b then va_cpy (μ.1 a) (μ.1 i) sp dp n else μ.1 i, μ.2)
def cl (μ : mMem) (a b sp dp n : Nat) : mMem := (μ.1, fun i => if i = b then va_cpy (μ.2 a) (μ.2 i) sp dp n else μ.2 i)
theorem cell_obj {ad : Nat → Nat} {cA : Nat → ClassId} {i c n : Nat} {x : Nat → Int32} {y : Nat → Int64} (h : kd i = (c, n)) (hc : c < 9) : cellOf ad cA i x y = .inr (c, fsOf ad c i x) := by
  unfold cellOf
  rw [h, if_pos hc]
theorem cell_int {ad : Nat → Nat} {cA : Nat → ClassId} {i c n : Nat} {x : Nat → Int32} {y : Nat → Int64} (h : kd i = (c, n)) (hc : c = 9 ∨ c = 10 ∨ c = 12) : cellOf ad cA i x y = .inl (cA c, n, .inl x) := by
  unfold cellOf
  rw [h]
  rcases hc with rfl | rfl | rfl <;> rfl
theorem cell_long {ad : Nat → Nat} {cA : Nat → ClassId} {i n : Nat} {x : Nat → Int32} {y : Nat → Int64} (h : kd i = (11, n)) : cellOf ad cA i x y = .inl (cA 11, n, .inr (.inl y)) := by
  unfold cellOf
  rw [h]
  rfl
theorem cell_ref {ad : Nat → Nat} {cA : Nat → ClassId} {i c n : Nat} {x : Nat → Int32} {y : Nat → Int64} (h : kd i = (c, n)) (hc : 13 ≤ c) : cellOf ad cA i x y = .inl (cA c, n, .inr (.inr (.inr (.inr (fun j => some (ad (rf i j))))))) := by
  unfold cellOf
  rw [h, if_neg (by show ¬ c < 9; omega), if_neg (by show ¬ c = 11; omega), if_pos hc]
theorem cz_cat (ad : Nat → Nat) (v : Value) : (cz ad v).category = v.category := by
  cases v <;> rfl
theorem lv_fm (ad : Nat → Nat) (P : Nat → Nat → Bool) (lv : List (Nat × Value)) : (lv.map (czl ad)).filter (fun q => P q.1 q.2.category) = (lv.filter (fun q => P q.1 q.2.category)).map (czl ad) := by
  induction lv with
  | nil => rfl
  | cons a t ih =>
    simp only [List.map_cons, List.filter_cons]
    have e : P (czl ad a).1 (czl ad a).2.category = P a.1 a.2.category := by
      show P a.1 (cz ad a.2).category = _
      rw [cz_cat]
    rw [e]
    cases P a.1 a.2.category
    · simpa using ih
    · simpa using ih
theorem lv_gm {ad : Nat → Nat} {lv : List (Nat × Value)} {k i : Nat} {v : Value} (h : lv[k]? = some (i, v)) : (lv.map (czl ad))[k]? = some (i, cz ad v) := by
  rw [List.getElem?_map, h]
  rfl
theorem lv_pm (ad : Nat → Nat) (lv : List (Nat × Value)) (ks : List Nat) : lv_pick (lv.map (czl ad)) ks = (lv_pick lv ks).map (czl ad) := by
  unfold lv_pick
  induction ks with
  | nil => rfl
  | cons k t ih =>
    simp only [List.filterMap_cons, List.getElem?_map]
    cases lv[k]? with
    | none => simpa [List.getElem?_map] using ih
    | some a => simpa [List.getElem?_map] using ih
theorem lv_am (ad : Nat → Nat) (vs : List Value) : ∀ i, lv_args i (vs.map (cz ad)) = (lv_args i vs).map (czl ad) := by
  induction vs with
  | nil => intro i; rfl
  | cons v t ih =>
    intro i
    simp only [List.map_cons, lv_args]
    rw [cz_cat, ih]
    rfl
theorem ls_am (ad : Nat → Nat) (vs : List Value) : (lg_sl (vs.map (cz ad))).length = (lg_sl vs).length := by
  unfold lg_sl
  induction vs with
  | nil => rfl
  | cons v t ih =>
    simp only [List.map_cons, List.flatMap_cons, List.length_append, ih, cz_cat]
    by_cases h : v.category = 2 <;> simp [h]
theorem T_none {q : mMI} {X : mCx} {pc : Nat} {lv : List (Nat × Value)} {st : List Value} {μ : mMem} : T q X none pc lv st μ := fun _ _ _ h => by cases h
theorem T_sub {q : mMI} {X : mCx} {tgt : mR} {pc : Nat} {lv lv' : List (Nat × Value)} {st : List Value} {μ : mMem} (ks : List Nat) (hl : lv_pick lv ks = lv') (h : T q X tgt pc lv' st μ) : T q X tgt pc lv st μ :=
  fun hG v μ' ht H locs ls hP hS hlv => h hG v μ' ht H locs ls hP hS (lv_sub hlv ks (by rw [lv_pm, hl]))
theorem T_ite {q : mMI} {X : mCx} {a b : mR} {pc : Nat} {lv : List (Nat × Value)} {st : List Value} {μ : mMem} {c : Prop} {dc : Decidable c} (h1 : c → T q X a pc lv st μ) (h2 : ¬ c → T q X b pc lv st μ) : T q X (@ite mR c dc a b) pc lv st μ := by
  by_cases h : c
  · rw [if_pos h]
    exact h1 h
  · rw [if_neg h]
    exact h2 h
/-- a guard -/
def gd (c : Prop) (r : mR) (dc : Decidable c) : mR := @ite mR c dc r none
/-- loops: k is the way back to the head -/
def lp {σ : Type} (body : (σ → mR) → σ → mR) : Nat → σ → mR
  | 0, _ => none
  | n + 1, s => body (lp body n) s
theorem T_lp {σ : Type} {body : (σ → mR) → σ → mR} {q : mMI} {X : mCx} {pc : Nat} {lv : σ → List (Nat × Value)} {st : σ → List Value} {μ : σ → mMem} (h : ∀ k : σ → mR, (∀ s, T q X (k s) pc (lv s) (st s) (μ s)) → ∀ s, T q X (body k s) pc (lv s) (st s) (μ s)) : ∀ (n : Nat) (s : σ), T q X (lp body n s) pc (lv s) (st s) (μ s)
  | 0, _ => T_none
  | n + 1, s => h (lp body n) (T_lp h n) s

theorem T_iadd {q : mMI} {X : mCx} {tgt : mR} {pc : Nat} {lv : List (Nat × Value)} {st : List Value} {μ : mMem} {x y : Int32} (hd : decode q.2.1 pc = .ok (.iadd, 1)) (h : T q X tgt (pc + 1) lv (.int (x + y) :: st) μ) : T q X tgt pc lv (.int y :: .int x :: st) μ :=
  fun hG v μ' ht H locs ls hP hS hl => lv_iadd hG.1 hG.2.1 hd (h hG v μ' ht H locs ls hP hS hl)
theorem T_isub {q : mMI} {X : mCx} {tgt : mR} {pc : Nat} {lv : List (Nat × Value)} {st : List Value} {μ : mMem} {x y : Int32} (hd : decode q.2.1 pc = .ok (.isub, 1)) (h : T q X tgt (pc + 1) lv (.int (x - y) :: st) μ) : T q X tgt pc lv (.int y :: .int x :: st) μ :=
  fun hG v μ' ht H locs ls hP hS hl => lv_isub hG.1 hG.2.1 hd (h hG v μ' ht H locs ls hP hS hl)
theorem T_imul {q : mMI} {X : mCx} {tgt : mR} {pc : Nat} {lv : List (Nat × Value)} {st : List Value} {μ : mMem} {x y : Int32} (hd : decode q.2.1 pc = .ok (.imul, 1)) (h : T q X tgt (pc + 1) lv (.int (x * y) :: st) μ) : T q X tgt pc lv (.int y :: .int x :: st) μ :=
  fun hG v μ' ht H locs ls hP hS hl => lv_imul hG.1 hG.2.1 hd (h hG v μ' ht H locs ls hP hS hl)
theorem T_iand {q : mMI} {X : mCx} {tgt : mR} {pc : Nat} {lv : List (Nat × Value)} {st : List Value} {μ : mMem} {x y : Int32} (hd : decode q.2.1 pc = .ok (.iand, 1)) (h : T q X tgt (pc + 1) lv (.int (x &&& y) :: st) μ) : T q X tgt pc lv (.int y :: .int x :: st) μ :=
  fun hG v μ' ht H locs ls hP hS hl => lv_iand hG.1 hG.2.1 hd (h hG v μ' ht H locs ls hP hS hl)
theorem T_ior {q : mMI} {X : mCx} {tgt : mR} {pc : Nat} {lv : List (Nat × Value)} {st : List Value} {μ : mMem} {x y : Int32} (hd : decode q.2.1 pc = .ok (.ior, 1)) (h : T q X tgt (pc + 1) lv (.int (x ||| y) :: st) μ) : T q X tgt pc lv (.int y :: .int x :: st) μ :=
  fun hG v μ' ht H locs ls hP hS hl => lv_ior hG.1 hG.2.1 hd (h hG v μ' ht H locs ls hP hS hl)
theorem T_ixor {q : mMI} {X : mCx} {tgt : mR} {pc : Nat} {lv : List (Nat × Value)} {st : List Value} {μ : mMem} {x y : Int32} (hd : decode q.2.1 pc = .ok (.ixor, 1)) (h : T q X tgt (pc + 1) lv (.int (x ^^^ y) :: st) μ) : T q X tgt pc lv (.int y :: .int x :: st) μ :=
  fun hG v μ' ht H locs ls hP hS hl => lv_ixor hG.1 hG.2.1 hd (h hG v μ' ht H locs ls hP hS hl)
theorem T_ishl {q : mMI} {X : mCx} {tgt : mR} {pc : Nat} {lv : List (Nat × Value)} {st : List Value} {μ : mMem} {x y : Int32} (hd : decode q.2.1 pc = .ok (.ishl, 1)) (h : T q X tgt (pc + 1) lv (.int (x <<< (y &&& 31)) :: st) μ) : T q X tgt pc lv (.int y :: .int x :: st) μ :=
  fun hG v μ' ht H locs ls hP hS hl => lv_ishl hG.1 hG.2.1 hd (h hG v μ' ht H locs ls hP hS hl)
theorem T_ishr {q : mMI} {X : mCx} {tgt : mR} {pc : Nat} {lv : List (Nat × Value)} {st : List Value} {μ : mMem} {x y : Int32} (hd : decode q.2.1 pc = .ok (.ishr, 1)) (h : T q X tgt (pc + 1) lv (.int (x >>> (y &&& 31)) :: st) μ) : T q X tgt pc lv (.int y :: .int x :: st) μ :=
  fun hG v μ' ht H locs ls hP hS hl => lv_ishr hG.1 hG.2.1 hd (h hG v μ' ht H locs ls hP hS hl)
theorem T_iushr {q : mMI} {X : mCx} {tgt : mR} {pc : Nat} {lv : List (Nat × Value)} {st : List Value} {μ : mMem} {x y : Int32} (hd : decode q.2.1 pc = .ok (.iushr, 1)) (h : T q X tgt (pc + 1) lv (.int ((x.toUInt32 >>> (y.toUInt32 &&& Int32.toUInt32 31)).toInt32) :: st) μ) : T q X tgt pc lv (.int y :: .int x :: st) μ :=
  fun hG v μ' ht H locs ls hP hS hl => lv_iushr hG.1 hG.2.1 hd rfl (h hG v μ' ht H locs ls hP hS hl)
theorem T_ineg {q : mMI} {X : mCx} {tgt : mR} {pc : Nat} {lv : List (Nat × Value)} {st : List Value} {μ : mMem} {x : Int32} (hd : decode q.2.1 pc = .ok (.ineg, 1)) (h : T q X tgt (pc + 1) lv (.int (-x) :: st) μ) : T q X tgt pc lv (.int x :: st) μ :=
  fun hG v μ' ht H locs ls hP hS hl => lv_ineg hG.1 hG.2.1 hd (h hG v μ' ht H locs ls hP hS hl)
theorem T_ladd {q : mMI} {X : mCx} {tgt : mR} {pc : Nat} {lv : List (Nat × Value)} {st : List Value} {μ : mMem} {x y : Int64} (hd : decode q.2.1 pc = .ok (.ladd, 1)) (h : T q X tgt (pc + 1) lv (.long (x + y) :: st) μ) : T q X tgt pc lv (.long y :: .long x :: st) μ :=
  fun hG v μ' ht H locs ls hP hS hl => lv_ladd hG.1 hG.2.1 hd (h hG v μ' ht H locs ls hP hS hl)
theorem T_lsub {q : mMI} {X : mCx} {tgt : mR} {pc : Nat} {lv : List (Nat × Value)} {st : List Value} {μ : mMem} {x y : Int64} (hd : decode q.2.1 pc = .ok (.lsub, 1)) (h : T q X tgt (pc + 1) lv (.long (x - y) :: st) μ) : T q X tgt pc lv (.long y :: .long x :: st) μ :=
  fun hG v μ' ht H locs ls hP hS hl => lv_lsub hG.1 hG.2.1 hd (h hG v μ' ht H locs ls hP hS hl)
theorem T_lmul {q : mMI} {X : mCx} {tgt : mR} {pc : Nat} {lv : List (Nat × Value)} {st : List Value} {μ : mMem} {x y : Int64} (hd : decode q.2.1 pc = .ok (.lmul, 1)) (h : T q X tgt (pc + 1) lv (.long (x * y) :: st) μ) : T q X tgt pc lv (.long y :: .long x :: st) μ :=
  fun hG v μ' ht H locs ls hP hS hl => lv_lmul hG.1 hG.2.1 hd (h hG v μ' ht H locs ls hP hS hl)
theorem T_lcmp {q : mMI} {X : mCx} {tgt : mR} {pc : Nat} {lv : List (Nat × Value)} {st : List Value} {μ : mMem} {x y : Int64} (hd : decode q.2.1 pc = .ok (.lcmp, 1)) (h : T q X tgt (pc + 1) lv (.int (lg_cmp x y) :: st) μ) : T q X tgt pc lv (.long y :: .long x :: st) μ :=
  fun hG v μ' ht H locs ls hP hS hl => W.lcmp hG.1 hG.2.1 hd (h hG v μ' ht H locs ls hP hS hl)
theorem T_i2l {q : mMI} {X : mCx} {tgt : mR} {pc : Nat} {lv : List (Nat × Value)} {st : List Value} {μ : mMem} {x : Int32} (hd : decode q.2.1 pc = .ok (.i2l, 1)) (h : T q X tgt (pc + 1) lv (.long x.toInt64 :: st) μ) : T q X tgt pc lv (.int x :: st) μ :=
  fun hG v μ' ht H locs ls hP hS hl => lv_i2l hG.1 hG.2.1 hd rfl (h hG v μ' ht H locs ls hP hS hl)
theorem T_i2b {q : mMI} {X : mCx} {tgt : mR} {pc : Nat} {lv : List (Nat × Value)} {st : List Value} {μ : mMem} {x : Int32} (hd : decode q.2.1 pc = .ok (.i2b, 1)) (h : T q X tgt (pc + 1) lv (.int x.toInt8.toInt32 :: st) μ) : T q X tgt pc lv (.int x :: st) μ :=
  fun hG v μ' ht H locs ls hP hS hl => lv_i2b hG.1 hG.2.1 hd rfl (h hG v μ' ht H locs ls hP hS hl)
theorem T_i2s {q : mMI} {X : mCx} {tgt : mR} {pc : Nat} {lv : List (Nat × Value)} {st : List Value} {μ : mMem} {x : Int32} (hd : decode q.2.1 pc = .ok (.i2s, 1)) (h : T q X tgt (pc + 1) lv (.int x.toInt16.toInt32 :: st) μ) : T q X tgt pc lv (.int x :: st) μ :=
  fun hG v μ' ht H locs ls hP hS hl => lv_i2s hG.1 hG.2.1 hd rfl (h hG v μ' ht H locs ls hP hS hl)
theorem T_dup {q : mMI} {X : mCx} {tgt : mR} {pc : Nat} {lv : List (Nat × Value)} {st : List Value} {μ : mMem} {x : Value} (hc : x.category = 1) (hd : decode q.2.1 pc = .ok (.dup, 1)) (h : T q X tgt (pc + 1) lv (x :: x :: st) μ) : T q X tgt pc lv (x :: st) μ :=
  fun hG v μ' ht H locs ls hP hS hl => lv_dup hG.1 hG.2.1 hd (by rw [cz_cat]; exact hc) (h hG v μ' ht H locs ls hP hS hl)
theorem T_pop {q : mMI} {X : mCx} {tgt : mR} {pc : Nat} {lv : List (Nat × Value)} {st : List Value} {μ : mMem} {x : Value} (hc : x.category = 1) (hd : decode q.2.1 pc = .ok (.pop, 1)) (h : T q X tgt (pc + 1) lv (st) μ) : T q X tgt pc lv (x :: st) μ :=
  fun hG v μ' ht H locs ls hP hS hl => lv_pop hG.1 hG.2.1 hd (by rw [cz_cat]; exact hc) (h hG v μ' ht H locs ls hP hS hl)
theorem T_idiv {q : mMI} {X : mCx} {tgt : mR} {pc : Nat} {lv : List (Nat × Value)} {st : List Value} {μ : mMem} {x y : Int32} (hd : decode q.2.1 pc = .ok (.idiv, 1)) {dc : Decidable (¬ y = 0)} (h : T q X tgt (pc + 1) lv (.int (x / y) :: st) μ) : T q X (gd (¬ y = 0) tgt dc) pc lv (.int y :: .int x :: st) μ := by
  unfold gd
  refine T_ite (fun hc => ?_) (fun _ => T_none)
  exact fun hG v μ' ht H locs ls hP hS hl => lv_idiv hG.1 hG.2.1 hd hc (h hG v μ' ht H locs ls hP hS hl)
theorem T_irem {q : mMI} {X : mCx} {tgt : mR} {pc : Nat} {lv : List (Nat × Value)} {st : List Value} {μ : mMem} {x y : Int32} (hd : decode q.2.1 pc = .ok (.irem, 1)) {dc : Decidable (¬ y = 0)} (h : T q X tgt (pc + 1) lv (.int (x - x / y * y) :: st) μ) : T q X (gd (¬ y = 0) tgt dc) pc lv (.int y :: .int x :: st) μ := by
  unfold gd
  refine T_ite (fun hc => ?_) (fun _ => T_none)
  exact fun hG v μ' ht H locs ls hP hS hl => lv_irem hG.1 hG.2.1 hd hc (h hG v μ' ht H locs ls hP hS hl)
theorem T_ldiv {q : mMI} {X : mCx} {tgt : mR} {pc : Nat} {lv : List (Nat × Value)} {st : List Value} {μ : mMem} {x y : Int64} (hd : decode q.2.1 pc = .ok (.ldiv, 1)) {dc : Decidable (¬ y = 0)} (h : T q X tgt (pc + 1) lv (.long (x / y) :: st) μ) : T q X (gd (¬ y = 0) tgt dc) pc lv (.long y :: .long x :: st) μ := by
  unfold gd
  refine T_ite (fun hc => ?_) (fun _ => T_none)
  exact fun hG v μ' ht H locs ls hP hS hl => lv_ldiv hG.1 hG.2.1 hd hc (h hG v μ' ht H locs ls hP hS hl)
theorem T_lrem {q : mMI} {X : mCx} {tgt : mR} {pc : Nat} {lv : List (Nat × Value)} {st : List Value} {μ : mMem} {x y : Int64} (hd : decode q.2.1 pc = .ok (.lrem, 1)) {dc : Decidable (¬ y = 0)} (h : T q X tgt (pc + 1) lv (.long (x - x / y * y) :: st) μ) : T q X (gd (¬ y = 0) tgt dc) pc lv (.long y :: .long x :: st) μ := by
  unfold gd
  refine T_ite (fun hc => ?_) (fun _ => T_none)
  exact fun hG v μ' ht H locs ls hP hS hl => lv_lrem hG.1 hG.2.1 hd hc (h hG v μ' ht H locs ls hP hS hl)
theorem T_iconst {q : mMI} {X : mCx} {tgt : mR} {pc : Nat} {lv : List (Nat × Value)} {st : List Value} {μ : mMem} {n : Int} (z : Int32) (hv : Int32.ofInt n = z) (hd : decode q.2.1 pc = .ok (.iconst n, 1)) (h : T q X tgt (pc + 1) lv (.int z :: st) μ) : T q X tgt pc lv (st) μ :=
  fun hG v μ' ht H locs ls hP hS hl => lv_iconst hG.1 hG.2.1 hd hv (h hG v μ' ht H locs ls hP hS hl)
theorem T_bipush {q : mMI} {X : mCx} {tgt : mR} {pc : Nat} {lv : List (Nat × Value)} {st : List Value} {μ : mMem} {n : Int} (z : Int32) (hv : (Int8.ofInt n).toInt32 = z) (hd : decode q.2.1 pc = .ok (.bipush n, 2)) (h : T q X tgt (pc + 2) lv (.int z :: st) μ) : T q X tgt pc lv (st) μ :=
  fun hG v μ' ht H locs ls hP hS hl => lv_bipush hG.1 hG.2.1 hd hv (h hG v μ' ht H locs ls hP hS hl)
theorem T_sipush {q : mMI} {X : mCx} {tgt : mR} {pc : Nat} {lv : List (Nat × Value)} {st : List Value} {μ : mMem} {n : Int} (z : Int32) (hv : (Int16.ofInt n).toInt32 = z) (hd : decode q.2.1 pc = .ok (.sipush n, 3)) (h : T q X tgt (pc + 3) lv (.int z :: st) μ) : T q X tgt pc lv (st) μ :=
  fun hG v μ' ht H locs ls hP hS hl => lv_sipush hG.1 hG.2.1 hd hv (h hG v μ' ht H locs ls hP hS hl)
theorem T_lconst {q : mMI} {X : mCx} {tgt : mR} {pc : Nat} {lv : List (Nat × Value)} {st : List Value} {μ : mMem} {n : Fin 2} (z : Int64) (hv : Int64.ofNat (n : Nat) = z) (hd : decode q.2.1 pc = .ok (.lconst n, 1)) (h : T q X tgt (pc + 1) lv (.long z :: st) μ) : T q X tgt pc lv (st) μ :=
  fun hG v μ' ht H locs ls hP hS hl => lv_lconst hG.1 hG.2.1 hd hv (h hG v μ' ht H locs ls hP hS hl)
theorem T_ldc2 {q : mMI} {X : mCx} {tgt : mR} {pc : Nat} {lv : List (Nat × Value)} {st : List Value} {μ : mMem} {index : Nat} {z : Int64} (hw : Cond.constantLong q.1.cls index z ∈ gdL) (hd : decode q.2.1 pc = .ok (.ldc2_w index, 3)) (h : T q X tgt (pc + 3) lv (.long z :: st) μ) : T q X tgt pc lv st μ :=
  fun hG v μ' ht H locs ls hP hS hl => lv_ldc2 hG.1 hG.2.1 hG.2.2.2.2.2.1 (hG.2.2.2.2.2.2.1 _ hw) hd (h hG v μ' ht H locs ls hP hS hl)
theorem T_ldc {q : mMI} {X : mCx} {tgt : mR} {pc : Nat} {lv : List (Nat × Value)} {st : List Value} {μ : mMem} {index : Nat} {z : Int32} (hw : Cond.constant q.1.cls index z ∈ gdL) (hd : decode q.2.1 pc = .ok (.ldc index, 2)) (h : T q X tgt (pc + 2) lv (.int z :: st) μ) : T q X tgt pc lv st μ :=
  fun hG v μ' ht H locs ls hP hS hl => lv_ldc hG.1 hG.2.1 hG.2.2.2.2.2.1 (hG.2.2.2.2.2.2.1 _ hw) hd (h hG v μ' ht H locs ls hP hS hl)
theorem T_ldcw {q : mMI} {X : mCx} {tgt : mR} {pc : Nat} {lv : List (Nat × Value)} {st : List Value} {μ : mMem} {index : Nat} {z : Int32} (hw : Cond.constant q.1.cls index z ∈ gdL) (hd : decode q.2.1 pc = .ok (.ldc_w index, 3)) (h : T q X tgt (pc + 3) lv (.int z :: st) μ) : T q X tgt pc lv st μ :=
  fun hG v μ' ht H locs ls hP hS hl => lv_ldcw hG.1 hG.2.1 hG.2.2.2.2.2.1 (hG.2.2.2.2.2.2.1 _ hw) hd (h hG v μ' ht H locs ls hP hS hl)
theorem T_iload_n {q : mMI} {X : mCx} {tgt : mR} {pc : Nat} {lv : List (Nat × Value)} {st : List Value} {μ : mMem} {f : Fin 4} {i : Nat} {x : Int32} (k : Nat) (hi : (f : Nat) = i) (hk : lv[k]? = some (i, .int x)) (hd : decode q.2.1 pc = .ok (.iload_n f, 1)) (h : T q X tgt (pc + 1) lv (.int x :: st) μ) : T q X tgt pc lv (st) μ :=
  fun hG v μ' ht H locs ls hP hS hl => lv_iload_n hG.1 hG.2.1 hd hi (lv_at hl k (lv_gm hk)) (h hG v μ' ht H locs ls hP hS hl)
theorem T_iload {q : mMI} {X : mCx} {tgt : mR} {pc : Nat} {lv : List (Nat × Value)} {st : List Value} {μ : mMem} {i : Nat} {x : Int32} (k : Nat) (hk : lv[k]? = some (i, .int x)) (hd : decode q.2.1 pc = .ok (.iload i, 2)) (h : T q X tgt (pc + 2) lv (.int x :: st) μ) : T q X tgt pc lv (st) μ :=
  fun hG v μ' ht H locs ls hP hS hl => lv_iload hG.1 hG.2.1 hd (lv_at hl k (lv_gm hk)) (h hG v μ' ht H locs ls hP hS hl)
theorem T_lload_n {q : mMI} {X : mCx} {tgt : mR} {pc : Nat} {lv : List (Nat × Value)} {st : List Value} {μ : mMem} {f : Fin 4} {i : Nat} {x : Int64} (k : Nat) (hi : (f : Nat) = i) (hk : lv[k]? = some (i, .long x)) (hd : decode q.2.1 pc = .ok (.lload_n f, 1)) (h : T q X tgt (pc + 1) lv (.long x :: st) μ) : T q X tgt pc lv (st) μ :=
  fun hG v μ' ht H locs ls hP hS hl => lv_lload_n hG.1 hG.2.1 hd hi (lv_at hl k (lv_gm hk)) (h hG v μ' ht H locs ls hP hS hl)
theorem T_lload {q : mMI} {X : mCx} {tgt : mR} {pc : Nat} {lv : List (Nat × Value)} {st : List Value} {μ : mMem} {i : Nat} {x : Int64} (k : Nat) (hk : lv[k]? = some (i, .long x)) (hd : decode q.2.1 pc = .ok (.lload i, 2)) (h : T q X tgt (pc + 2) lv (.long x :: st) μ) : T q X tgt pc lv (st) μ :=
  fun hG v μ' ht H locs ls hP hS hl => lv_lload hG.1 hG.2.1 hd (lv_at hl k (lv_gm hk)) (h hG v μ' ht H locs ls hP hS hl)
theorem T_aload_n {q : mMI} {X : mCx} {tgt : mR} {pc : Nat} {lv : List (Nat × Value)} {st : List Value} {μ : mMem} {f : Fin 4} {i : Nat} {x : Nat} (k : Nat) (hi : (f : Nat) = i) (hk : lv[k]? = some (i, .ref x)) (hd : decode q.2.1 pc = .ok (.aload_n f, 1)) (h : T q X tgt (pc + 1) lv (.ref x :: st) μ) : T q X tgt pc lv (st) μ :=
  fun hG v μ' ht H locs ls hP hS hl => lv_aload_n hG.1 hG.2.1 hd hi (lv_at hl k (lv_gm hk)) (h hG v μ' ht H locs ls hP hS hl)
theorem T_aload {q : mMI} {X : mCx} {tgt : mR} {pc : Nat} {lv : List (Nat × Value)} {st : List Value} {μ : mMem} {i : Nat} {x : Nat} (k : Nat) (hk : lv[k]? = some (i, .ref x)) (hd : decode q.2.1 pc = .ok (.aload i, 2)) (h : T q X tgt (pc + 2) lv (.ref x :: st) μ) : T q X tgt pc lv (st) μ :=
  fun hG v μ' ht H locs ls hP hS hl => lv_aload hG.1 hG.2.1 hd (lv_at hl k (lv_gm hk)) (h hG v μ' ht H locs ls hP hS hl)
theorem T_istore_n {q : mMI} {X : mCx} {tgt : mR} {pc : Nat} {lv : List (Nat × Value)} {st : List Value} {μ : mMem} {lv' : List (Nat × Value)} {f : Fin 4} {i : Nat} {x : Int32} (hi : (f : Nat) = i) (hn : i < q.2.2.1) (hv : (i, Value.int x) :: lv.filter (fun q => !(q.1 == i) && !(q.1 + 1 == i && q.2.category == 2)) = lv') (hd : decode q.2.1 pc = .ok (.istore_n f, 1)) (h : T q X tgt (pc + 1) lv' st μ) : T q X tgt pc lv (.int x :: st) μ :=
  fun hG v μ' ht H locs ls hP hS hl => lv_istore_n hG.1 hG.2.1 hd hi hl hn (by
    show (i, cz (xad X) (Value.int x)) :: _ = _
    rw [lv_fm (xad X) (fun a c => !(a == i) && !(a + 1 == i && c == 2)) lv, ← hv]; rfl) (fun ls' hl' => h hG v μ' ht H locs ls' hP hS hl')
theorem T_istore {q : mMI} {X : mCx} {tgt : mR} {pc : Nat} {lv : List (Nat × Value)} {st : List Value} {μ : mMem} {lv' : List (Nat × Value)} {i : Nat} {x : Int32} (hn : i < q.2.2.1) (hv : (i, Value.int x) :: lv.filter (fun q => !(q.1 == i) && !(q.1 + 1 == i && q.2.category == 2)) = lv') (hd : decode q.2.1 pc = .ok (.istore i, 2)) (h : T q X tgt (pc + 2) lv' st μ) : T q X tgt pc lv (.int x :: st) μ :=
  fun hG v μ' ht H locs ls hP hS hl => lv_istore hG.1 hG.2.1 hd hl hn (by
    show (i, cz (xad X) (Value.int x)) :: _ = _
    rw [lv_fm (xad X) (fun a c => !(a == i) && !(a + 1 == i && c == 2)) lv, ← hv]; rfl) (fun ls' hl' => h hG v μ' ht H locs ls' hP hS hl')
theorem T_lstore_n {q : mMI} {X : mCx} {tgt : mR} {pc : Nat} {lv : List (Nat × Value)} {st : List Value} {μ : mMem} {lv' : List (Nat × Value)} {f : Fin 4} {i : Nat} {x : Int64} (hi : (f : Nat) = i) (hn : i + 1 < q.2.2.1) (hv : (i, Value.long x) :: lv.filter (fun q => !(q.1 == i) && (!(q.1 == i + 1) && !(q.1 + 1 == i && q.2.category == 2))) = lv') (hd : decode q.2.1 pc = .ok (.lstore_n f, 1)) (h : T q X tgt (pc + 1) lv' st μ) : T q X tgt pc lv (.long x :: st) μ :=
  fun hG v μ' ht H locs ls hP hS hl => lv_lstore_n hG.1 hG.2.1 hd hi hl hn (by
    show (i, cz (xad X) (Value.long x)) :: _ = _
    rw [lv_fm (xad X) (fun a c => !(a == i) && (!(a == i + 1) && !(a + 1 == i && c == 2))) lv, ← hv]; rfl) (fun ls' hl' => h hG v μ' ht H locs ls' hP hS hl')
theorem T_lstore {q : mMI} {X : mCx} {tgt : mR} {pc : Nat} {lv : List (Nat × Value)} {st : List Value} {μ : mMem} {lv' : List (Nat × Value)} {i : Nat} {x : Int64} (hn : i + 1 < q.2.2.1) (hv : (i, Value.long x) :: lv.filter (fun q => !(q.1 == i) && (!(q.1 == i + 1) && !(q.1 + 1 == i && q.2.category == 2))) = lv') (hd : decode q.2.1 pc = .ok (.lstore i, 2)) (h : T q X tgt (pc + 2) lv' st μ) : T q X tgt pc lv (.long x :: st) μ :=
  fun hG v μ' ht H locs ls hP hS hl => lv_lstore hG.1 hG.2.1 hd hl hn (by
    show (i, cz (xad X) (Value.long x)) :: _ = _
    rw [lv_fm (xad X) (fun a c => !(a == i) && (!(a == i + 1) && !(a + 1 == i && c == 2))) lv, ← hv]; rfl) (fun ls' hl' => h hG v μ' ht H locs ls' hP hS hl')
theorem T_astore_n {q : mMI} {X : mCx} {tgt : mR} {pc : Nat} {lv : List (Nat × Value)} {st : List Value} {μ : mMem} {lv' : List (Nat × Value)} {f : Fin 4} {i : Nat} {x : Nat} (hi : (f : Nat) = i) (hn : i < q.2.2.1) (hv : (i, Value.ref x) :: lv.filter (fun q => !(q.1 == i) && !(q.1 + 1 == i && q.2.category == 2)) = lv') (hd : decode q.2.1 pc = .ok (.astore_n f, 1)) (h : T q X tgt (pc + 1) lv' st μ) : T q X tgt pc lv (.ref x :: st) μ :=
  fun hG v μ' ht H locs ls hP hS hl => lv_astore_n hG.1 hG.2.1 hd hi hl hn (by
    show (i, cz (xad X) (Value.ref x)) :: _ = _
    rw [lv_fm (xad X) (fun a c => !(a == i) && !(a + 1 == i && c == 2)) lv, ← hv]; rfl) (fun ls' hl' => h hG v μ' ht H locs ls' hP hS hl')
theorem T_astore {q : mMI} {X : mCx} {tgt : mR} {pc : Nat} {lv : List (Nat × Value)} {st : List Value} {μ : mMem} {lv' : List (Nat × Value)} {i : Nat} {x : Nat} (hn : i < q.2.2.1) (hv : (i, Value.ref x) :: lv.filter (fun q => !(q.1 == i) && !(q.1 + 1 == i && q.2.category == 2)) = lv') (hd : decode q.2.1 pc = .ok (.astore i, 2)) (h : T q X tgt (pc + 2) lv' st μ) : T q X tgt pc lv (.ref x :: st) μ :=
  fun hG v μ' ht H locs ls hP hS hl => lv_astore hG.1 hG.2.1 hd hl hn (by
    show (i, cz (xad X) (Value.ref x)) :: _ = _
    rw [lv_fm (xad X) (fun a c => !(a == i) && !(a + 1 == i && c == 2)) lv, ← hv]; rfl) (fun ls' hl' => h hG v μ' ht H locs ls' hP hS hl')
theorem T_iinc {q : mMI} {X : mCx} {tgt : mR} {pc : Nat} {lv : List (Nat × Value)} {st : List Value} {μ : mMem} {lv' : List (Nat × Value)} {i : Nat} {n : Int} {x : Int32} (k : Nat) (z : Int32) (hk : lv[k]? = some (i, .int x)) (hz : Int32.ofInt n = z) (hn : i < q.2.2.1) (hv : (i, Value.int (x + z)) :: lv.filter (fun q => !(q.1 == i) && !(q.1 + 1 == i && q.2.category == 2)) = lv') (hd : decode q.2.1 pc = .ok (.iinc i n, 3)) (h : T q X tgt (pc + 3) lv' st μ) : T q X tgt pc lv st μ :=
  fun hG v μ' ht H locs ls hP hS hl => lv_iinc (v := x + z) hG.1 hG.2.1 hd hl (lv_gm hk) (by rw [hz]) hn (by
    show (i, cz (xad X) (Value.int (x + z))) :: _ = _
    rw [lv_fm (xad X) (fun a c => !(a == i) && !(a + 1 == i && c == 2)) lv, ← hv]; rfl) (fun ls' hl' => h hG v μ' ht H locs ls' hP hS hl')
theorem T_if_eq {q : mMI} {X : mCx} {r1 r2 : mR} {pc : Nat} {lv : List (Nat × Value)} {st : List Value} {μ : mMem} {x : Int32} {off : Int} {dc : Decidable (x = 0)} (t : Nat) (hd : decode q.2.1 pc = .ok (.ifCond .eq off, 3)) (htg : (pc : Int) + off = (t : Int)) (h1 : x = 0 → T q X r1 (t) lv st μ) (h2 : ¬ x = 0 → T q X r2 (pc + 3) lv st μ) : T q X (@ite mR (x = 0) dc r1 r2) pc lv (.int x :: st) μ :=
  fun hG v μ' ht H locs ls hP hS hl => lv_if_eq (tgt := t) hG.1 hG.2.1 hd htg (fun hc => h1 hc hG v μ' (by rw [if_pos hc] at ht; exact ht) H locs ls hP hS hl) (fun hc => h2 hc hG v μ' (by rw [if_neg hc] at ht; exact ht) H locs ls hP hS hl)
theorem T_icmp_eq {q : mMI} {X : mCx} {r1 r2 : mR} {pc : Nat} {lv : List (Nat × Value)} {st : List Value} {μ : mMem} {x y : Int32} {off : Int} {dc : Decidable (x = y)} (t : Nat) (hd : decode q.2.1 pc = .ok (.if_icmp .eq off, 3)) (htg : (pc : Int) + off = (t : Int)) (h1 : x = y → T q X r1 (t) lv st μ) (h2 : ¬ x = y → T q X r2 (pc + 3) lv st μ) : T q X (@ite mR (x = y) dc r1 r2) pc lv (.int y :: .int x :: st) μ :=
  fun hG v μ' ht H locs ls hP hS hl => lv_icmp_eq (tgt := t) hG.1 hG.2.1 hd htg (fun hc => h1 hc hG v μ' (by rw [if_pos hc] at ht; exact ht) H locs ls hP hS hl) (fun hc => h2 hc hG v μ' (by rw [if_neg hc] at ht; exact ht) H locs ls hP hS hl)
theorem T_if_lt {q : mMI} {X : mCx} {r1 r2 : mR} {pc : Nat} {lv : List (Nat × Value)} {st : List Value} {μ : mMem} {x : Int32} {off : Int} {dc : Decidable (x < 0)} (t : Nat) (hd : decode q.2.1 pc = .ok (.ifCond .lt off, 3)) (htg : (pc : Int) + off = (t : Int)) (h1 : x < 0 → T q X r1 (t) lv st μ) (h2 : ¬ x < 0 → T q X r2 (pc + 3) lv st μ) : T q X (@ite mR (x < 0) dc r1 r2) pc lv (.int x :: st) μ :=
  fun hG v μ' ht H locs ls hP hS hl => lv_if_lt (tgt := t) hG.1 hG.2.1 hd htg (fun hc => h1 hc hG v μ' (by rw [if_pos hc] at ht; exact ht) H locs ls hP hS hl) (fun hc => h2 hc hG v μ' (by rw [if_neg hc] at ht; exact ht) H locs ls hP hS hl)
theorem T_icmp_lt {q : mMI} {X : mCx} {r1 r2 : mR} {pc : Nat} {lv : List (Nat × Value)} {st : List Value} {μ : mMem} {x y : Int32} {off : Int} {dc : Decidable (x < y)} (t : Nat) (hd : decode q.2.1 pc = .ok (.if_icmp .lt off, 3)) (htg : (pc : Int) + off = (t : Int)) (h1 : x < y → T q X r1 (t) lv st μ) (h2 : ¬ x < y → T q X r2 (pc + 3) lv st μ) : T q X (@ite mR (x < y) dc r1 r2) pc lv (.int y :: .int x :: st) μ :=
  fun hG v μ' ht H locs ls hP hS hl => lv_icmp_lt (tgt := t) hG.1 hG.2.1 hd htg (fun hc => h1 hc hG v μ' (by rw [if_pos hc] at ht; exact ht) H locs ls hP hS hl) (fun hc => h2 hc hG v μ' (by rw [if_neg hc] at ht; exact ht) H locs ls hP hS hl)
theorem T_if_ge {q : mMI} {X : mCx} {r1 r2 : mR} {pc : Nat} {lv : List (Nat × Value)} {st : List Value} {μ : mMem} {x : Int32} {off : Int} {dc : Decidable (0 ≤ x)} (t : Nat) (hd : decode q.2.1 pc = .ok (.ifCond .ge off, 3)) (htg : (pc : Int) + off = (t : Int)) (h1 : 0 ≤ x → T q X r1 (t) lv st μ) (h2 : ¬ 0 ≤ x → T q X r2 (pc + 3) lv st μ) : T q X (@ite mR (0 ≤ x) dc r1 r2) pc lv (.int x :: st) μ :=
  fun hG v μ' ht H locs ls hP hS hl => lv_if_ge (tgt := t) hG.1 hG.2.1 hd htg (fun hc => h1 hc hG v μ' (by rw [if_pos hc] at ht; exact ht) H locs ls hP hS hl) (fun hc => h2 hc hG v μ' (by rw [if_neg hc] at ht; exact ht) H locs ls hP hS hl)
theorem T_icmp_ge {q : mMI} {X : mCx} {r1 r2 : mR} {pc : Nat} {lv : List (Nat × Value)} {st : List Value} {μ : mMem} {x y : Int32} {off : Int} {dc : Decidable (y ≤ x)} (t : Nat) (hd : decode q.2.1 pc = .ok (.if_icmp .ge off, 3)) (htg : (pc : Int) + off = (t : Int)) (h1 : y ≤ x → T q X r1 (t) lv st μ) (h2 : ¬ y ≤ x → T q X r2 (pc + 3) lv st μ) : T q X (@ite mR (y ≤ x) dc r1 r2) pc lv (.int y :: .int x :: st) μ :=
  fun hG v μ' ht H locs ls hP hS hl => lv_icmp_ge (tgt := t) hG.1 hG.2.1 hd htg (fun hc => h1 hc hG v μ' (by rw [if_pos hc] at ht; exact ht) H locs ls hP hS hl) (fun hc => h2 hc hG v μ' (by rw [if_neg hc] at ht; exact ht) H locs ls hP hS hl)
theorem T_if_gt {q : mMI} {X : mCx} {r1 r2 : mR} {pc : Nat} {lv : List (Nat × Value)} {st : List Value} {μ : mMem} {x : Int32} {off : Int} {dc : Decidable (0 < x)} (t : Nat) (hd : decode q.2.1 pc = .ok (.ifCond .gt off, 3)) (htg : (pc : Int) + off = (t : Int)) (h1 : 0 < x → T q X r1 (t) lv st μ) (h2 : ¬ 0 < x → T q X r2 (pc + 3) lv st μ) : T q X (@ite mR (0 < x) dc r1 r2) pc lv (.int x :: st) μ :=
  fun hG v μ' ht H locs ls hP hS hl => lv_if_gt (tgt := t) hG.1 hG.2.1 hd htg (fun hc => h1 hc hG v μ' (by rw [if_pos hc] at ht; exact ht) H locs ls hP hS hl) (fun hc => h2 hc hG v μ' (by rw [if_neg hc] at ht; exact ht) H locs ls hP hS hl)
theorem T_icmp_gt {q : mMI} {X : mCx} {r1 r2 : mR} {pc : Nat} {lv : List (Nat × Value)} {st : List Value} {μ : mMem} {x y : Int32} {off : Int} {dc : Decidable (y < x)} (t : Nat) (hd : decode q.2.1 pc = .ok (.if_icmp .gt off, 3)) (htg : (pc : Int) + off = (t : Int)) (h1 : y < x → T q X r1 (t) lv st μ) (h2 : ¬ y < x → T q X r2 (pc + 3) lv st μ) : T q X (@ite mR (y < x) dc r1 r2) pc lv (.int y :: .int x :: st) μ :=
  fun hG v μ' ht H locs ls hP hS hl => lv_icmp_gt (tgt := t) hG.1 hG.2.1 hd htg (fun hc => h1 hc hG v μ' (by rw [if_pos hc] at ht; exact ht) H locs ls hP hS hl) (fun hc => h2 hc hG v μ' (by rw [if_neg hc] at ht; exact ht) H locs ls hP hS hl)
theorem T_if_le {q : mMI} {X : mCx} {r1 r2 : mR} {pc : Nat} {lv : List (Nat × Value)} {st : List Value} {μ : mMem} {x : Int32} {off : Int} {dc : Decidable (x ≤ 0)} (t : Nat) (hd : decode q.2.1 pc = .ok (.ifCond .le off, 3)) (htg : (pc : Int) + off = (t : Int)) (h1 : x ≤ 0 → T q X r1 (t) lv st μ) (h2 : ¬ x ≤ 0 → T q X r2 (pc + 3) lv st μ) : T q X (@ite mR (x ≤ 0) dc r1 r2) pc lv (.int x :: st) μ :=
  fun hG v μ' ht H locs ls hP hS hl => lv_if_le (tgt := t) hG.1 hG.2.1 hd htg (fun hc => h1 hc hG v μ' (by rw [if_pos hc] at ht; exact ht) H locs ls hP hS hl) (fun hc => h2 hc hG v μ' (by rw [if_neg hc] at ht; exact ht) H locs ls hP hS hl)
theorem T_icmp_le {q : mMI} {X : mCx} {r1 r2 : mR} {pc : Nat} {lv : List (Nat × Value)} {st : List Value} {μ : mMem} {x y : Int32} {off : Int} {dc : Decidable (x ≤ y)} (t : Nat) (hd : decode q.2.1 pc = .ok (.if_icmp .le off, 3)) (htg : (pc : Int) + off = (t : Int)) (h1 : x ≤ y → T q X r1 (t) lv st μ) (h2 : ¬ x ≤ y → T q X r2 (pc + 3) lv st μ) : T q X (@ite mR (x ≤ y) dc r1 r2) pc lv (.int y :: .int x :: st) μ :=
  fun hG v μ' ht H locs ls hP hS hl => lv_icmp_le (tgt := t) hG.1 hG.2.1 hd htg (fun hc => h1 hc hG v μ' (by rw [if_pos hc] at ht; exact ht) H locs ls hP hS hl) (fun hc => h2 hc hG v μ' (by rw [if_neg hc] at ht; exact ht) H locs ls hP hS hl)
theorem T_if_ne {q : mMI} {X : mCx} {r1 r2 : mR} {pc : Nat} {lv : List (Nat × Value)} {st : List Value} {μ : mMem} {x : Int32} {off : Int} {dc : Decidable (x = 0)} (t : Nat) (hd : decode q.2.1 pc = .ok (.ifCond .ne off, 3)) (htg : (pc : Int) + off = (t : Int)) (h1 : x = 0 → T q X r1 (pc + 3) lv st μ) (h2 : ¬ x = 0 → T q X r2 (t) lv st μ) : T q X (@ite mR (x = 0) dc r1 r2) pc lv (.int x :: st) μ :=
  fun hG v μ' ht H locs ls hP hS hl => lv_if_ne (tgt := t) hG.1 hG.2.1 hd htg (fun hc => h2 hc hG v μ' (by rw [if_neg hc] at ht; exact ht) H locs ls hP hS hl) (fun hc => h1 hc hG v μ' (by rw [if_pos hc] at ht; exact ht) H locs ls hP hS hl)
theorem T_icmp_ne {q : mMI} {X : mCx} {r1 r2 : mR} {pc : Nat} {lv : List (Nat × Value)} {st : List Value} {μ : mMem} {x y : Int32} {off : Int} {dc : Decidable (x = y)} (t : Nat) (hd : decode q.2.1 pc = .ok (.if_icmp .ne off, 3)) (htg : (pc : Int) + off = (t : Int)) (h1 : x = y → T q X r1 (pc + 3) lv st μ) (h2 : ¬ x = y → T q X r2 (t) lv st μ) : T q X (@ite mR (x = y) dc r1 r2) pc lv (.int y :: .int x :: st) μ :=
  fun hG v μ' ht H locs ls hP hS hl => lv_icmp_ne (tgt := t) hG.1 hG.2.1 hd htg (fun hc => h2 hc hG v μ' (by rw [if_neg hc] at ht; exact ht) H locs ls hP hS hl) (fun hc => h1 hc hG v μ' (by rw [if_pos hc] at ht; exact ht) H locs ls hP hS hl)
theorem T_goto {q : mMI} {X : mCx} {tgt : mR} {pc : Nat} {lv : List (Nat × Value)} {st : List Value} {μ : mMem} {off : Int} (t : Nat) (hd : decode q.2.1 pc = .ok (.goto off, 3)) (htg : (pc : Int) + off = (t : Int)) (h : T q X tgt t lv st μ) : T q X tgt pc lv st μ :=
  fun hG v μ' ht H locs ls hP hS hl => lv_goto (tgt := t) hG.1 hG.2.1 hd htg (h hG v μ' ht H locs ls hP hS hl)
end
section
theorem fs_at {ad : Nat → Nat} {c i k N : Nat} {x : Nat → Int32} {C : String} {TT : u_T} (hc : vwCl[c]? = some (C, TT, N)) (hk : k < N) : (fsOf ad c i x)[k]? = some (fv ad c i k x) := by
  have hn : nfc c = N := by unfold nfc; rw [hc]
  unfold fsOf
  rw [hn, List.getElem?_map, List.getElem?_range hk]
  rfl
theorem fs_len {ad : Nat → Nat} {c i N : Nat} {x : Nat → Int32} {C : String} {TT : u_T} (hc : vwCl[c]? = some (C, TT, N)) : (fsOf ad c i x).length = N := by
  have hn : nfc c = N := by unfold nfc; rw [hc]
  unfold fsOf
  rw [hn, List.length_map, List.length_range]
theorem fs_set {ad : Nat → Nat} {c i k N : Nat} {x : Nat → Int32} {z : Int32} {C : String} {TT : u_T} (hc : vwCl[c]? = some (C, TT, N)) (hk : k < N) (hf : ft c k ≠ 2) : (fsOf ad c i x).set k (.int z) = fsOf ad c i (upd x k z) := by
  apply List.ext_getElem?
  intro j
  rw [List.getElem?_set]
  by_cases hj : k = j
  · subst hj
    rw [if_pos rfl, fs_len hc, if_pos hk, fs_at hc hk]
    unfold fv
    rw [if_neg hf]
    simp [upd]
  · rw [if_neg hj]
    by_cases h : j < N
    · rw [fs_at hc h, fs_at hc h]
      unfold fv
      simp [upd, Ne.symm hj]
    · rw [List.getElem?_eq_none (by rw [fs_len hc]; omega), List.getElem?_eq_none (by rw [fs_len hc]; omega)]
theorem inG0 : ∀ w ∈ u_ws RX0 TX0 2, w ∈ gdL := by decide +kernel
theorem inG1 : ∀ w ∈ u_ws RX1 TX1 2, w ∈ gdL := by decide +kernel
theorem inG2 : ∀ w ∈ u_ws RX2 TX2 7, w ∈ gdL := by decide +kernel
theorem inG3 : ∀ w ∈ u_ws RX3 TX3 6, w ∈ gdL := by decide +kernel
theorem inG4 : ∀ w ∈ u_ws RX4 TX4 12, w ∈ gdL := by decide +kernel
theorem inG5 : ∀ w ∈ u_ws RX5 TX5 3, w ∈ gdL := by decide +kernel
theorem inG6 : ∀ w ∈ u_ws RX6 TX6 10, w ∈ gdL := by decide +kernel
theorem inG7 : ∀ w ∈ u_ws RX7 TX7 11, w ∈ gdL := by decide +kernel
theorem inG8 : ∀ w ∈ u_ws RX8 TX8 35, w ∈ gdL := by decide +kernel
theorem inG {c N : Nat} {C : String} {TT : u_T} (hc : vwCl[c]? = some (C, TT, N)) : ∀ w ∈ u_ws C TT N, w ∈ gdL := by
  match c, hc with
  | 0, hc => cases hc; exact inG0
  | 1, hc => cases hc; exact inG1
  | 2, hc => cases hc; exact inG2
  | 3, hc => cases hc; exact inG3
  | 4, hc => cases hc; exact inG4
  | 5, hc => cases hc; exact inG5
  | 6, hc => cases hc; exact inG6
  | 7, hc => cases hc; exact inG7
  | 8, hc => cases hc; exact inG8
  | c + 9, hc => simp [vwCl] at hc
theorem vw_lt {c N : Nat} {C : String} {TT : u_T} (hc : vwCl[c]? = some (C, TT, N)) : c < 9 := (List.getElem?_eq_some_iff.mp hc).1
theorem T_getI {q : mMI} {X : mCx} {tgt : mR} {pc : Nat} {lv : List (Nat × Value)} {st : List Value} {μ : mMem} {b c k index N : Nat} {C ref nm ds : String} {TT : u_T} {fn : Bool} (hc : vwCl[c]? = some (C, TT, N)) (hk : k < N) (hT : TT k = (ref, nm, ds, fn)) (hf : ft c k ≠ 2) (hw : Cond.fieldLink q.1.cls index ref nm ds ∈ gdL) (hb : kd b = (c, 0)) (hd : decode q.2.1 pc = .ok (.getfield index, 3)) (h : T q X tgt (pc + 3) lv (.int (μ.1 b k) :: st) μ) : T q X tgt pc lv (.ref b :: st) μ := fun hG v μ' ht H locs ls hP hS hl => by
  have hb0 := kd_lt hb (by have := vw_lt hc; omega)
  have e : (TT k).2.1 = nm ∧ (TT k).2.2.1 = ds ∧ (TT k).1 = ref := by rw [hT]; exact ⟨rfl, rfl, rfl⟩
  refine va_get (v := .int (μ.1 b k)) (ref := ref) hG.1 hG.2.1 hG.2.2.2.2.2.2.1 (inG hc) hG.2.2.2.2.2.1 hG.2.2.2.2.2.2.2.1 hP b (by rw [ws_at hb0, cell_obj hb (vw_lt hc)]) hc k hk (by rw [e.1, e.2.1]; exact hG.2.2.2.2.2.2.1 _ hw) (fun y hy => by rw [e.2.2] at hy; exact hy) ?_ hd (h hG v μ' ht H locs ls hP hS hl)
  rw [fs_at hc hk]
  unfold fv
  rw [if_neg hf]
theorem T_getR {q : mMI} {X : mCx} {tgt : mR} {pc : Nat} {lv : List (Nat × Value)} {st : List Value} {μ : mMem} {b c k index N : Nat} {C ref nm ds : String} {TT : u_T} {fn : Bool} (hc : vwCl[c]? = some (C, TT, N)) (hk : k < N) (hT : TT k = (ref, nm, ds, fn)) (hf : ft c k = 2) (hw : Cond.fieldLink q.1.cls index ref nm ds ∈ gdL) (hb : kd b = (c, 0)) (z : Nat) (hz : rf b k = z) (hd : decode q.2.1 pc = .ok (.getfield index, 3)) (h : T q X tgt (pc + 3) lv (.ref z :: st) μ) : T q X tgt pc lv (.ref b :: st) μ := fun hG v μ' ht H locs ls hP hS hl => by
  have hb0 := kd_lt hb (by have := vw_lt hc; omega)
  have e : (TT k).2.1 = nm ∧ (TT k).2.2.1 = ds ∧ (TT k).1 = ref := by rw [hT]; exact ⟨rfl, rfl, rfl⟩
  refine va_get (v := .ref (xad X z)) (ref := ref) hG.1 hG.2.1 hG.2.2.2.2.2.2.1 (inG hc) hG.2.2.2.2.2.1 hG.2.2.2.2.2.2.2.1 hP b (by rw [ws_at hb0, cell_obj hb (vw_lt hc)]) hc k hk (by rw [e.1, e.2.1]; exact hG.2.2.2.2.2.2.1 _ hw) (fun y hy => by rw [e.2.2] at hy; exact hy) ?_ hd (h hG v μ' ht H locs ls hP hS hl)
  rw [fs_at hc hk]
  unfold fv
  rw [if_pos hf, hz]
theorem ty_G {c N : Nat} {C : String} {TT : u_T} (hc : vwCl[c]? = some (C, TT, N)) : ∃ ty0 : Nat → FieldType, (∀ k, k < N → parseFieldDescriptor (TT k).2.2.1 = some (ty0 k)) ∧ (∀ a, a < N → ∀ b, b < N → a ≠ b → (TT a).2.1 ≠ (TT b).2.1) := by
  match c, hc with
  | 0, hc => cases hc; exact ⟨tyX0, tyX0_ok, nmX0⟩
  | 1, hc => cases hc; exact ⟨tyX1, tyX1_ok, nmX1⟩
  | 2, hc => cases hc; exact ⟨tyX2, tyX2_ok, nmX2⟩
  | 3, hc => cases hc; exact ⟨tyX3, tyX3_ok, nmX3⟩
  | 4, hc => cases hc; exact ⟨tyX4, tyX4_ok, nmX4⟩
  | 5, hc => cases hc; exact ⟨tyX5, tyX5_ok, nmX5⟩
  | 6, hc => cases hc; exact ⟨tyX6, tyX6_ok, nmX6⟩
  | 7, hc => cases hc; exact ⟨tyX7, tyX7_ok, nmX7⟩
  | 8, hc => cases hc; exact ⟨tyX8, tyX8_ok, nmX8⟩
  | c + 9, hc => simp [vwCl] at hc
theorem si_o (μ : mMem) (b k : Nat) (x : Int32) : ∀ j, j ≠ b → (si μ b k x).1 j = μ.1 j ∧ (si μ b k x).2 j = μ.2 j := fun j hj => ⟨by simp [si, hj], rfl⟩
theorem si_b (μ : mMem) (b k : Nat) (x : Int32) : (si μ b k x).1 b = upd (μ.1 b) k x := by simp [si]
theorem sl_o (μ : mMem) (b k : Nat) (x : Int64) : ∀ j, j ≠ b → (sl μ b k x).1 j = μ.1 j ∧ (sl μ b k x).2 j = μ.2 j := fun j hj => ⟨rfl, by simp [sl, hj]⟩
theorem sl_b (μ : mMem) (b k : Nat) (x : Int64) : (sl μ b k x).2 b = vp_updL (μ.2 b) k x := by simp [sl]
theorem T_put {q : mMI} {X : mCx} {tgt : mR} {pc : Nat} {lv : List (Nat × Value)} {st : List Value} {μ : mMem} {b c k index N : Nat} {C ref nm ds : String} {TT : u_T} {ty : FieldType} {x : Int32} (hc : vwCl[c]? = some (C, TT, N)) (hk : k < N) (hT : TT k = (ref, nm, ds, false)) (hf : ft c k ≠ 2) (hw : Cond.fieldLink q.1.cls index ref nm ds ∈ gdL) (hty : parseFieldDescriptor ds = some ty) (hn : narrow ty (.int x) = .int x) (hfit : fits ty (.int x) = true) (hb : kd b = (c, 0)) (hd : decode q.2.1 pc = .ok (.putfield index, 3)) (h : T q X tgt (pc + 3) lv st (si μ b k x)) : T q X tgt pc lv (.int x :: .ref b :: st) μ := fun hG v μ' ht H locs ls hP hS hl => by
  have hb0 := kd_lt hb (by have := vw_lt hc; omega)
  have e : (TT k).2.1 = nm ∧ (TT k).2.2.1 = ds ∧ (TT k).1 = ref ∧ (TT k).2.2.2 = false := by rw [hT]; exact ⟨rfl, rfl, rfl, rfl⟩
  obtain ⟨ty0, t1, t2⟩ := ty_G hc
  refine va_put (v := .int x) (ref := ref) (ty := ty) hG.1 hG.2.1 hG.2.2.2.2.2.2.1 (inG hc) ty0 t1 t2 hG.2.2.2.2.2.1 hG.2.2.2.2.2.2.2.1 hP (ws_D hG.2.2.2.2.2.2.2.2.1 hG.2.2.2.2.2.2.2.2.2.1) hS b (by rw [ws_at hb0, cell_obj hb (vw_lt hc)]) hc k hk (by rw [e.1, e.2.1]; exact hG.2.2.2.2.2.2.1 _ hw) (fun y hy => by rw [e.2.2.1] at hy; exact hy) e.2.2.2 (by rw [e.2.1]; exact hty) hn hfit (by rw [fs_len hc]; exact hk) hd (fun H1 locs1 hP1 _ hS1 => ?_)
  refine h hG v μ' ht H1 locs1 ls ?_ hS1 hl
  rw [ws_set (μ' := si μ b k x) hb0 (by rw [cell_obj hb (vw_lt hc), si_b, fs_set hc hk hf]) (si_o μ b k x)] at hP1
  exact hP1
theorem T_bald {q : mMI} {X : mCx} {tgt : mR} {pc : Nat} {lv : List (Nat × Value)} {st : List Value} {μ : mMem} {b n : Nat} {i : Int32} {dc : Decidable (vp_in i n)} (hb : kd b = (9, n)) (hd : decode q.2.1 pc = .ok (.baload, 1)) (h : T q X tgt (pc + 1) lv (.int (μ.1 b i.toNatClampNeg) :: st) μ) : T q X (gd (vp_in i n) tgt dc) pc lv (.int i :: .ref b :: st) μ := by
  unfold gd
  refine T_ite (fun hc => ?_) (fun _ => T_none)
  exact fun hG v μ' ht H locs ls hP hS hl => va_bald (f := μ.1 b) hG.1 hG.2.1 hG.2.2.2.2.2.2.2.1 hP b 0 (by rw [ws_at (kd_lt hb (by decide)), cell_int hb (by decide)]) rfl hc hd (h hG v μ' ht H locs ls hP hS hl)
theorem T_iald {q : mMI} {X : mCx} {tgt : mR} {pc : Nat} {lv : List (Nat × Value)} {st : List Value} {μ : mMem} {b n : Nat} {i : Int32} {dc : Decidable (vp_in i n)} (hb : kd b = (10, n)) (hd : decode q.2.1 pc = .ok (.iaload, 1)) (h : T q X tgt (pc + 1) lv (.int (μ.1 b i.toNatClampNeg) :: st) μ) : T q X (gd (vp_in i n) tgt dc) pc lv (.int i :: .ref b :: st) μ := by
  unfold gd
  refine T_ite (fun hc => ?_) (fun _ => T_none)
  exact fun hG v μ' ht H locs ls hP hS hl => va_iald (f := μ.1 b) hG.1 hG.2.1 hG.2.2.2.2.2.2.2.1 hP b 1 (by rw [ws_at (kd_lt hb (by decide)), cell_int hb (by decide)]) rfl hc hd (h hG v μ' ht H locs ls hP hS hl)
theorem T_zald {q : mMI} {X : mCx} {tgt : mR} {pc : Nat} {lv : List (Nat × Value)} {st : List Value} {μ : mMem} {b n : Nat} {i : Int32} {dc : Decidable (vp_in i n)} (hb : kd b = (12, n)) (hd : decode q.2.1 pc = .ok (.baload, 1)) (h : T q X tgt (pc + 1) lv (.int (μ.1 b i.toNatClampNeg) :: st) μ) : T q X (gd (vp_in i n) tgt dc) pc lv (.int i :: .ref b :: st) μ := by
  unfold gd
  refine T_ite (fun hc => ?_) (fun _ => T_none)
  exact fun hG v μ' ht H locs ls hP hS hl => va_zald (f := μ.1 b) hG.1 hG.2.1 hG.2.2.2.2.2.2.2.1 hP b 3 (by rw [ws_at (kd_lt hb (by decide)), cell_int hb (by decide)]) rfl hc hd (h hG v μ' ht H locs ls hP hS hl)
theorem T_lald {q : mMI} {X : mCx} {tgt : mR} {pc : Nat} {lv : List (Nat × Value)} {st : List Value} {μ : mMem} {b n : Nat} {i : Int32} {dc : Decidable (vp_in i n)} (hb : kd b = (11, n)) (hd : decode q.2.1 pc = .ok (.laload, 1)) (h : T q X tgt (pc + 1) lv (.long (μ.2 b i.toNatClampNeg) :: st) μ) : T q X (gd (vp_in i n) tgt dc) pc lv (.int i :: .ref b :: st) μ := by
  unfold gd
  refine T_ite (fun hc => ?_) (fun _ => T_none)
  exact fun hG v μ' ht H locs ls hP hS hl => va_lald (f := μ.2 b) hG.1 hG.2.1 hG.2.2.2.2.2.2.2.1 hP b 2 (by rw [ws_at (kd_lt hb (by decide)), cell_long hb]) rfl hc hd (h hG v μ' ht H locs ls hP hS hl)
theorem T_alen {q : mMI} {X : mCx} {tgt : mR} {pc : Nat} {lv : List (Nat × Value)} {st : List Value} {μ : mMem} {b c n : Nat} (hb : kd b = (c, n)) (hc : c = 9 ∨ c = 10 ∨ c = 12) (hd : decode q.2.1 pc = .ok (.arraylength, 1)) (h : T q X tgt (pc + 1) lv (.int (Int32.ofNat n) :: st) μ) : T q X tgt pc lv (.ref b :: st) μ := fun hG v μ' ht H locs ls hP hS hl => by
  have hb0 := kd_lt hb (by omega)
  rcases hc with rfl | rfl | rfl
  · exact va_alen (x := (n, .inl (μ.1 b))) hG.1 hG.2.1 hG.2.2.2.2.2.2.2.1 hP b 0 (by rw [ws_at hb0, cell_int hb (by decide)]) rfl rfl hd (h hG v μ' ht H locs ls hP hS hl)
  · exact va_alen (x := (n, .inl (μ.1 b))) hG.1 hG.2.1 hG.2.2.2.2.2.2.2.1 hP b 1 (by rw [ws_at hb0, cell_int hb (by decide)]) rfl rfl hd (h hG v μ' ht H locs ls hP hS hl)
  · exact va_alen (x := (n, .inl (μ.1 b))) hG.1 hG.2.1 hG.2.2.2.2.2.2.2.1 hP b 3 (by rw [ws_at hb0, cell_int hb (by decide)]) rfl rfl hd (h hG v μ' ht H locs ls hP hS hl)
theorem T_alenL {q : mMI} {X : mCx} {tgt : mR} {pc : Nat} {lv : List (Nat × Value)} {st : List Value} {μ : mMem} {b n : Nat} (hb : kd b = (11, n)) (hd : decode q.2.1 pc = .ok (.arraylength, 1)) (h : T q X tgt (pc + 1) lv (.int (Int32.ofNat n) :: st) μ) : T q X tgt pc lv (.ref b :: st) μ := fun hG v μ' ht H locs ls hP hS hl => va_alen (x := (n, .inr (.inl (μ.2 b)))) hG.1 hG.2.1 hG.2.2.2.2.2.2.2.1 hP b 2 (by rw [ws_at (kd_lt hb (by decide)), cell_long hb]) rfl rfl hd (h hG v μ' ht H locs ls hP hS hl)
theorem T_aaldH {q : mMI} {X : mCx} {tgt : mR} {pc : Nat} {lv : List (Nat × Value)} {st : List Value} {μ : mMem} {b n : Nat} {i : Int32} {dc : Decidable (vp_in i n)} (hb : kd b = (13, n)) (hd : decode q.2.1 pc = .ok (.aaload, 1)) (h : vp_in i n → T q X tgt (pc + 1) lv (.ref (rf b i.toNatClampNeg) :: st) μ) : T q X (gd (vp_in i n) tgt dc) pc lv (.int i :: .ref b :: st) μ := by
  unfold gd
  refine T_ite (fun hc => ?_) (fun _ => T_none)
  refine fun hG v μ' ht H locs ls hP hS hl => ?_
  have hlt : i.toNatClampNeg < n := Nat.not_le.mp fun z => hc (Or.inr z)
  have ha : (wsOf (xad X) (xcA X) μ)[b]? = some (xad X b, .inl (xcA X 13, n, .inr (.inr (.inr (.inr (fun j => some (xad X (rf b j)))))))) := by rw [ws_at (kd_lt hb (by decide)), cell_ref hb (by decide)]
  exact W.aald (v := .ref (xad X (rf b i.toNatClampNeg))) (ty := .object RX4) hG.1 hG.2.1 (hP b _ ha) ((hG.2.2.2.2.2.2.2.1.2 4 _ rfl).1 n (fun j => va_rf (some (xad X (rf b j))))) rfl (fun z => by cases z) (by show ¬ (i < 0 ∨ (arrV _ _ _).slots.size ≤ _); rw [arrV_size]; exact hc) (by show (arrV _ _ _).slots[_]? = _; rw [arrV_read _ _ hlt]; rfl) rfl rfl hd (h hc hG v μ' ht H locs ls hP hS hl)
theorem T_aaldS {q : mMI} {X : mCx} {tgt : mR} {pc : Nat} {lv : List (Nat × Value)} {st : List Value} {μ : mMem} {b n : Nat} {i : Int32} {dc : Decidable (vp_in i n)} (hb : kd b = (14, n)) (hd : decode q.2.1 pc = .ok (.aaload, 1)) (h : vp_in i n → T q X tgt (pc + 1) lv (.ref (rf b i.toNatClampNeg) :: st) μ) : T q X (gd (vp_in i n) tgt dc) pc lv (.int i :: .ref b :: st) μ := by
  unfold gd
  refine T_ite (fun hc => ?_) (fun _ => T_none)
  refine fun hG v μ' ht H locs ls hP hS hl => ?_
  have hlt : i.toNatClampNeg < n := Nat.not_le.mp fun z => hc (Or.inr z)
  have ha : (wsOf (xad X) (xcA X) μ)[b]? = some (xad X b, .inl (xcA X 14, n, .inr (.inr (.inr (.inr (fun j => some (xad X (rf b j)))))))) := by rw [ws_at (kd_lt hb (by decide)), cell_ref hb (by decide)]
  exact W.aald (v := .ref (xad X (rf b i.toNatClampNeg))) (ty := .object RX5) hG.1 hG.2.1 (hP b _ ha) ((hG.2.2.2.2.2.2.2.1.2 5 _ rfl).1 n (fun j => va_rf (some (xad X (rf b j))))) rfl (fun z => by cases z) (by show ¬ (i < 0 ∨ (arrV _ _ _).slots.size ≤ _); rw [arrV_size]; exact hc) (by show (arrV _ _ _).slots[_]? = _; rw [arrV_read _ _ hlt]; rfl) rfl rfl hd (h hc hG v μ' ht H locs ls hP hS hl)
theorem T_aaldI {q : mMI} {X : mCx} {tgt : mR} {pc : Nat} {lv : List (Nat × Value)} {st : List Value} {μ : mMem} {b n : Nat} {i : Int32} {dc : Decidable (vp_in i n)} (hb : kd b = (15, n)) (hd : decode q.2.1 pc = .ok (.aaload, 1)) (h : vp_in i n → T q X tgt (pc + 1) lv (.ref (rf b i.toNatClampNeg) :: st) μ) : T q X (gd (vp_in i n) tgt dc) pc lv (.int i :: .ref b :: st) μ := by
  unfold gd
  refine T_ite (fun hc => ?_) (fun _ => T_none)
  refine fun hG v μ' ht H locs ls hP hS hl => ?_
  have hlt : i.toNatClampNeg < n := Nat.not_le.mp fun z => hc (Or.inr z)
  have ha : (wsOf (xad X) (xcA X) μ)[b]? = some (xad X b, .inl (xcA X 15, n, .inr (.inr (.inr (.inr (fun j => some (xad X (rf b j)))))))) := by rw [ws_at (kd_lt hb (by decide)), cell_ref hb (by decide)]
  exact W.aald (v := .ref (xad X (rf b i.toNatClampNeg))) (ty := .array .int) hG.1 hG.2.1 (hP b _ ha) ((hG.2.2.2.2.2.2.2.1.2 6 _ rfl).1 n (fun j => va_rf (some (xad X (rf b j))))) rfl (fun z => by cases z) (by show ¬ (i < 0 ∨ (arrV _ _ _).slots.size ≤ _); rw [arrV_size]; exact hc) (by show (arrV _ _ _).slots[_]? = _; rw [arrV_read _ _ hlt]; rfl) rfl rfl hd (h hc hG v μ' ht H locs ls hP hS hl)
theorem T_bast {q : mMI} {X : mCx} {tgt : mR} {pc : Nat} {lv : List (Nat × Value)} {st : List Value} {μ : mMem} {b n : Nat} {i x : Int32} {dc : Decidable (vp_in i n)} (z : Int32) (hz : vp_nar .byte x = z) (hb : kd b = (9, n)) (hd : decode q.2.1 pc = .ok (.bastore, 1)) (h : T q X tgt (pc + 1) lv st (si μ b i.toNatClampNeg z)) : T q X (gd (vp_in i n) tgt dc) pc lv (.int x :: .int i :: .ref b :: st) μ := by
  subst hz
  unfold gd
  refine T_ite (fun hc => ?_) (fun _ => T_none)
  refine fun hG v μ' ht H locs ls hP hS hl => ?_
  have hb0 := kd_lt hb (by decide)
  refine va_bast (f := μ.1 b) hG.1 hG.2.1 hG.2.2.2.2.2.2.2.1 hP (ws_D hG.2.2.2.2.2.2.2.2.1 hG.2.2.2.2.2.2.2.2.2.1) hS b 0 (by rw [ws_at hb0, cell_int hb (by decide)]) rfl hc hd (fun H1 locs1 hP1 _ hS1 => ?_)
  refine h hG v μ' ht H1 locs1 ls ?_ hS1 hl
  rw [ws_set (μ' := si μ b i.toNatClampNeg (vp_nar .byte x)) hb0 (by rw [cell_int hb (by decide), si_b]) (si_o μ b _ _)] at hP1
  exact hP1
theorem T_iast {q : mMI} {X : mCx} {tgt : mR} {pc : Nat} {lv : List (Nat × Value)} {st : List Value} {μ : mMem} {b n : Nat} {i x : Int32} {dc : Decidable (vp_in i n)} (z : Int32) (hz : x = z) (hb : kd b = (10, n)) (hd : decode q.2.1 pc = .ok (.iastore, 1)) (h : T q X tgt (pc + 1) lv st (si μ b i.toNatClampNeg z)) : T q X (gd (vp_in i n) tgt dc) pc lv (.int x :: .int i :: .ref b :: st) μ := by
  subst hz
  unfold gd
  refine T_ite (fun hc => ?_) (fun _ => T_none)
  refine fun hG v μ' ht H locs ls hP hS hl => ?_
  have hb0 := kd_lt hb (by decide)
  refine va_iast (f := μ.1 b) hG.1 hG.2.1 hG.2.2.2.2.2.2.2.1 hP (ws_D hG.2.2.2.2.2.2.2.2.1 hG.2.2.2.2.2.2.2.2.2.1) hS b 1 (by rw [ws_at hb0, cell_int hb (by decide)]) rfl hc hd (fun H1 locs1 hP1 _ hS1 => ?_)
  refine h hG v μ' ht H1 locs1 ls ?_ hS1 hl
  rw [ws_set (μ' := si μ b i.toNatClampNeg (x)) hb0 (by rw [cell_int hb (by decide), si_b]) (si_o μ b _ _)] at hP1
  exact hP1
theorem T_zast {q : mMI} {X : mCx} {tgt : mR} {pc : Nat} {lv : List (Nat × Value)} {st : List Value} {μ : mMem} {b n : Nat} {i x : Int32} {dc : Decidable (vp_in i n)} (z : Int32) (hz : vp_nar .boolean x = z) (hb : kd b = (12, n)) (hd : decode q.2.1 pc = .ok (.bastore, 1)) (h : T q X tgt (pc + 1) lv st (si μ b i.toNatClampNeg z)) : T q X (gd (vp_in i n) tgt dc) pc lv (.int x :: .int i :: .ref b :: st) μ := by
  subst hz
  unfold gd
  refine T_ite (fun hc => ?_) (fun _ => T_none)
  refine fun hG v μ' ht H locs ls hP hS hl => ?_
  have hb0 := kd_lt hb (by decide)
  refine va_zast (f := μ.1 b) hG.1 hG.2.1 hG.2.2.2.2.2.2.2.1 hP (ws_D hG.2.2.2.2.2.2.2.2.1 hG.2.2.2.2.2.2.2.2.2.1) hS b 3 (by rw [ws_at hb0, cell_int hb (by decide)]) rfl hc hd (fun H1 locs1 hP1 _ hS1 => ?_)
  refine h hG v μ' ht H1 locs1 ls ?_ hS1 hl
  rw [ws_set (μ' := si μ b i.toNatClampNeg (vp_nar .boolean x)) hb0 (by rw [cell_int hb (by decide), si_b]) (si_o μ b _ _)] at hP1
  exact hP1
theorem T_last {q : mMI} {X : mCx} {tgt : mR} {pc : Nat} {lv : List (Nat × Value)} {st : List Value} {μ : mMem} {b n : Nat} {i : Int32} {x : Int64} {dc : Decidable (vp_in i n)} (hb : kd b = (11, n)) (hd : decode q.2.1 pc = .ok (.lastore, 1)) (h : T q X tgt (pc + 1) lv st (sl μ b i.toNatClampNeg x)) : T q X (gd (vp_in i n) tgt dc) pc lv (.long x :: .int i :: .ref b :: st) μ := by
  unfold gd
  refine T_ite (fun hc => ?_) (fun _ => T_none)
  refine fun hG v μ' ht H locs ls hP hS hl => ?_
  have hb0 := kd_lt hb (by decide)
  refine va_last (f := μ.2 b) hG.1 hG.2.1 hG.2.2.2.2.2.2.2.1 hP (ws_D hG.2.2.2.2.2.2.2.2.1 hG.2.2.2.2.2.2.2.2.2.1) hS b 2 (by rw [ws_at hb0, cell_long hb]) rfl hc hd (fun H1 locs1 hP1 _ hS1 => ?_)
  refine h hG v μ' ht H1 locs1 ls ?_ hS1 hl
  rw [ws_set (μ' := sl μ b i.toNatClampNeg x) hb0 (by rw [cell_long hb, sl_b]) (sl_o μ b _ _)] at hP1
  exact hP1
theorem Qb_ret {X : mCx} {v : Option Value} {μ : mMem} {H : Heap} {locs : List Loc} {a : Array Value} (hP : va_P (xD X) vwCl (wsOf (xad X) (xcA X) μ) H) (hS : va_S (xA X) (xs X).heap H locs) : ∀ t : State, t.heap = H → (xs X).WarmedH t.vm → Qb (xad X) (xcA X) (xD X) (xA X) v μ a (xs X) (.returned (v.map (cz (xad X)))) t := fun t ht _ => ⟨rfl, by rw [ht]; exact hP, hS.F ht⟩
theorem T_iret {q : mMI} {X : mCx} {pc : Nat} {lv : List (Nat × Value)} {μ : mMem} {x : Int32} (hr : q.2.2.2.1 = some .int) (hd : decode q.2.1 pc = .ok (.ireturn, 1)) : T q X (some (some (.int x), μ)) pc lv [.int x] μ := fun hG v μ' ht H locs ls hP hS hl => by
  obtain ⟨rfl, rfl⟩ : some (.int x) = v ∧ μ = μ' := by simpa using ht
  exact W.iret (v := x) hG.1 hG.2.1 (hG.2.2.2.1.trans hr) (Qb_ret (v := some (.int x)) hP hS) hS.2.2 hd (hlocks := hG.2.2.2.2.1)
theorem T_zret {q : mMI} {X : mCx} {pc : Nat} {lv : List (Nat × Value)} {μ : mMem} {x : Int32} {dc : Decidable (x = 0 ∨ x = 1)} (hr : q.2.2.2.1 = some .boolean) (hd : decode q.2.1 pc = .ok (.ireturn, 1)) : T q X (gd (x = 0 ∨ x = 1) (some (some (.int x), μ)) dc) pc lv [.int x] μ := by
  unfold gd
  refine T_ite (fun hc => ?_) (fun _ => T_none)
  refine fun hG v μ' ht H locs ls hP hS hl => ?_
  obtain ⟨rfl, rfl⟩ : some (.int x) = v ∧ μ = μ' := by simpa using ht
  exact W.zret (v := x) hG.1 hG.2.1 (hG.2.2.2.1.trans hr) (by rcases hc with rfl | rfl <;> rfl) (Qb_ret (v := some (.int x)) hP hS) hS.2.2 hd (hlocks := hG.2.2.2.2.1)
theorem T_zretc {q : mMI} {X : mCx} {pc : Nat} {lv : List (Nat × Value)} {μ : mMem} {x : Int32} (hc : narrow .boolean (.int x) = .int x) (hr : q.2.2.2.1 = some .boolean) (hd : decode q.2.1 pc = .ok (.ireturn, 1)) : T q X (some (some (.int x), μ)) pc lv [.int x] μ := fun hG v μ' ht H locs ls hP hS hl => by
  obtain ⟨rfl, rfl⟩ : some (.int x) = v ∧ μ = μ' := by simpa using ht
  exact W.zret (v := x) hG.1 hG.2.1 (hG.2.2.2.1.trans hr) hc (Qb_ret (v := some (.int x)) hP hS) hS.2.2 hd (hlocks := hG.2.2.2.2.1)
theorem T_lret {q : mMI} {X : mCx} {pc : Nat} {lv : List (Nat × Value)} {μ : mMem} {x : Int64} (hr : q.2.2.2.1 = some .long) (hd : decode q.2.1 pc = .ok (.lreturn, 1)) : T q X (some (some (.long x), μ)) pc lv [.long x] μ := fun hG v μ' ht H locs ls hP hS hl => by
  obtain ⟨rfl, rfl⟩ : some (.long x) = v ∧ μ = μ' := by simpa using ht
  exact W.lret (v := x) hG.1 hG.2.1 (hG.2.2.2.1.trans hr) (Qb_ret (v := some (.long x)) hP hS) hS.2.2 hd (hlocks := hG.2.2.2.2.1)
theorem T_vret {q : mMI} {X : mCx} {pc : Nat} {lv : List (Nat × Value)} {μ : mMem} (hr : q.2.2.2.1 = none) (hd : decode q.2.1 pc = .ok (.return_, 1)) : T q X (some (none, μ)) pc lv [] μ := fun hG v μ' ht H locs ls hP hS hl => by
  obtain ⟨rfl, rfl⟩ : none = v ∧ μ = μ' := by simpa using ht
  exact W.vret hG.1 hG.2.1 (hG.2.2.2.1.trans hr) (Qb_ret (v := none) hP hS) hS.2.2 hd (hlocks := hG.2.2.2.2.1)
theorem T_aret {q : mMI} {X : mCx} {pc : Nat} {lv : List (Nat × Value)} {μ : mMem} {b : Nat} {C : String} (hr : q.2.2.2.1 = some (.object C)) (hd : decode q.2.1 pc = .ok (.areturn, 1)) : T q X (some (some (.ref b), μ)) pc lv [.ref b] μ := fun hG v μ' ht H locs ls hP hS hl => by
  obtain ⟨rfl, rfl⟩ : some (.ref b) = v ∧ μ = μ' := by simpa using ht
  exact W.aret (v := .ref (xad X b)) hG.1 hG.2.1 (hG.2.2.2.1.trans hr) (Or.inl ⟨_, rfl⟩) (Or.inr ⟨_, rfl⟩) (Qb_ret (v := some (.ref b)) hP hS) hS.2.2 hd (hlocks := hG.2.2.2.2.1)
end
section
theorem callb {p : Program} {l : Launch} {e : Env} {R : Room} {s : State} {m : MethodId} {args : Array Value} {below : List Frame} {meth : Method} {c : Code} {H : Heap} {locs : List Loc} {Q : State → Prop} {pc : Nat} {ls : Array Slot} {st0 rest : List Value} {ad : Nat → Nat} {cA : Nat → ClassId} {D : va_G} {A0 A1 : Nat → Prop} {free : Addr → Prop} {H0 : Heap} {v0 : Option Value} {μ2 : mMem} {aa : Array Value}
    (hr : va_Run p l e R s m args below meth c H locs 0 0 0 0 (F0 m pc ls st0) rest (Qb ad cA D A1 v0 μ2 aa) free) (hS : va_S A0 H0 H locs) (hA : ∀ q, q < H.size → A1 q → A0 q) (hf : ∀ q, free q → A0 q)
    (kk : ∀ (H1 : Heap) (locs1 : List Loc), va_P D vwCl (wsOf ad cA μ2) H1 → va_S A0 H0 H1 locs1 → W p l e R s m args below meth c H1 locs1 0 0 Q (F0 m (pc + 3) ls ((v0.map (cz ad)).toList ++ rest))) : W p l e R s m args below meth c H locs 0 0 Q (F0 m pc ls st0) := by
  intro T hT X
  obtain ⟨v, st₀, t, T', L, h0, X', hL, e1, e2, ⟨hv, hPt, hz, hk⟩, st⟩ := hr T hT X
  have hv' : v = v0.map (cz ad) := by injection hv
  subst hv'
  rw [h0] at hz hk
  obtain ⟨t2, a1, b1⟩ := kk T'.heap (locs ++ L) (by rw [e1]; exact hPt)
    ⟨Nat.le_trans hS.1 (by rw [e1]; exact hz), fun q h1 h2 => by rw [e1, hk q (Nat.lt_of_lt_of_le h1 hS.1) (fun z => h2 (hA q (Nat.lt_of_lt_of_le h1 hS.1) z))]; exact hS.2.1 q h1 h2, fun q hq => by
      rcases List.mem_append.mp hq with h | h
      · exact hS.2.2 q h
      · exact hf _ (hL q h)⟩ T' rfl X'
  exact ⟨t2, st t2 a1, b1⟩
/-- what the tables say of a method that may be called -/
def mok (q : mMI) (n : Nat) : Prop := ((q.1.cls ≠ "java/lang/invoke/MethodHandle" ∧ q.1.cls ≠ "java/lang/invoke/VarHandle" ∧ (parseMethodDescriptor q.1.desc).map (fun d => d.parameters.length) = some n) ∧ q.2.2.1 ≤ 60) ∧ Cond.initialized q.1.cls ∈ gdL ∧ Cond.code q.1 q.2.1 q.2.2.1 q.2.2.2.1 ∈ gdL
def mokV (q : mMI) (n : Nat) : Prop := mok q n ∧ Cond.instanceMethod q.1 ∈ gdL ∧ Cond.selects q.1.cls q.1 q.1 ∈ gdL
def mokS (q : mMI) (n : Nat) : Prop := mok q n ∧ Cond.static q.1 ∈ gdL
theorem gdM {q : mMI} (h : Cond.code q.1 q.2.1 q.2.2.1 q.2.2.2.1 ∈ gdL) : GoodIn gdL (wsM q) := fun w hw => by
  rcases List.mem_cons.mp hw with rfl | hw
  · exact ⟨h, gd_good h⟩
  · exact ⟨hw, gd_good hw⟩
theorem callB_T {q q2 : mMI} {X : mCx} {n index : Nat} (hG : Good q X) (hm : mok q2 n) (hl : Cond.methodLink q.1.cls index q2.1 ∈ gdL) (hdp : q2.2.2.2.2 + 1 ≤ q.2.2.2.2) : CallB (rmOf q.2.2.2.2) (xs X) (xa X) q.1.cls index q2.1 q2.2.1 q2.2.2.1 q2.2.2.2.1 (wsM q2) (rmOf q2.2.2.2.2) 0 0 n :=
  callB_of n hG.2.2.2.2.2.2.1 (gdM hm.2.2) rfl rfl rfl (hG.2.2.2.2.2.2.1 _ hm.2.1) (hG.2.2.2.2.2.2.1 _ hl) hm.1.1 ⟨hdp, by
    have := hm.1.2
    show 8 + (q2.2.2.1 + 11) + 100 * q2.2.2.2.2 ≤ 100 * q.2.2.2.2
    omega⟩
theorem cz_sum (ad : Nat → Nat) (r : List Value) : ((r.map (cz ad)).map fun v => v.category).sum = (r.map fun v => v.category).sum := by
  induction r with
  | nil => rfl
  | cons a t ih => simp only [List.map_cons, List.sum_cons, ih, cz_cat]
theorem blind {av : List Value} {ad : Nat → Nat} {cA : Nat → ClassId} {D : va_G} {μ : mMem} {sz : Nat} : FrameBlind (va_Pc av (PreW ad cA D μ sz)) := fun a U g mk h => by
  obtain ⟨h0, h1, h2, h3, h4, h5⟩ := h
  exact ⟨h0, h1, h2, va_K.moved (u := U) (U := U.calling g mk a) (Vm.Alike.refl U.vm) h3, h4, ZS.same (s := U) rfl h5⟩
theorem AA_in {X : mCx} {q : mMI} {H : Heap} {locs : List Loc} (hG : Good q X) (hS : va_S (xA X) (xs X).heap H locs) : ∀ z, AA (xad X) H.size z → xA X z := fun z h => by
  rcases h with ⟨i, hi, rfl⟩ | h
  · exact hG.2.2.2.2.2.2.2.2.2.1 i hi
  · exact hG.2.2.2.2.2.2.2.2.2.2.1 z (Nat.le_trans hS.1 h)
theorem preH {X : mCx} {q : mMI} {μ : mMem} {H : Heap} {locs : List Loc} {U : State} (hG : Good q X) (hP : va_P (xD X) vwCl (wsOf (xad X) (xcA X) μ) H) (hS : va_S (xA X) (xs X).heap H locs) (hU : U.heap = H) (hW : (xs X).WarmedH U.vm) : PreW (xad X) (xcA X) (xD X) μ H.size U := by
  refine ⟨by rw [hU], by rw [hU]; exact hP, va_K.moved hW.alike hG.2.2.2.2.2.2.2.1, hG.2.2.2.2.2.2.2.2.1, ?_⟩
  rw [hU]
  exact ZS.warm hW ((hG.2.2.2.2.2.2.2.2.2.2.2.kept hS.2.1).narrow (AA_in hG hS))
theorem T_callV {q q2 : mMI} {X : mCx} {tgt : mR} {pc : Nat} {lv : List (Nat × Value)} {μ μ2 : mMem} {v2 : Option Value} {b c n index N : Nat} {TT : u_T} (As rest : List Value) (hm : mokV q2 n) (hlk : Cond.methodLink q.1.cls index q2.1 ∈ gdL) (hb : kd b = (c, 0)) (hc : vwCl[c]? = some (q2.1.cls, TT, N)) (hn : As.length = n) (hdp : q2.2.2.2.2 + 1 ≤ q.2.2.2.2) (hcat : (rest.map fun v => v.category).sum ≤ 8) (hd : decode q.2.1 pc = .ok (.invokevirtual index, 3)) (hB : BS (xl X) q2 (.ref b :: As) μ (some (v2, μ2))) (h : T q X tgt (pc + 3) lv (v2.toList ++ rest) μ2) : T q X tgt pc lv (As.reverse ++ .ref b :: rest) μ := fun hG v μ' ht H locs ls hP hS hl => by
  have hb0 := kd_lt hb (by have := vw_lt hc; omega)
  have hM := hB v2 μ2 rfl (xD X) (xad X) (xcA X) H.size
  have hrv := va_recv hG.2.2.2.2.2.2.2.1 hP hc (q0 := b) (a := xad X b) (fs := fsOf (xad X) c b (μ.1 b)) (by rw [ws_at hb0, cell_obj hb (vw_lt hc)])
  have hr := va_runV (As := As.map (cz (xad X))) (rest := rest.map (cz (xad X))) (g := F0 (xm X) pc ls ((As.reverse ++ .ref b :: rest).map (cz (xad X)))) (locs := locs) (cells := 0) (slots := 0) (below := xb X) (e := xe X) (meth := xM X) (H := H) ⟨hG.1, hG.2.1, hG.2.2.1, hG.2.2.2.2.2.1, hG.2.2.2.2.2.2.1⟩ hM ⟨callB_T hG hm.1 hlk hdp, hG.2.2.2.2.2.2.1 _ hm.2.1, hG.2.2.2.2.2.2.1 _ hm.2.2⟩ ⟨blind, hrv, fun U hU hW => ⟨rfl, preH hG hP hS hU hW⟩⟩ rfl (by rw [List.length_map]; exact hn) hl.1 (by simp [cz]) (lv_room (by rw [cz_sum]; exact hcat)) hd ⟨Nat.zero_le _, Nat.zero_le _⟩
  refine callb hr hS (fun z _ hz => AA_in hG hS z hz) (AA_in hG hS) (fun H1 locs1 hP1 hS1 => ?_)
  have := h hG v μ' ht H1 locs1 ls hP1 hS1 hl
  rw [List.map_append] at this
  cases v2 <;> exact this
theorem T_callS {q q2 : mMI} {X : mCx} {tgt : mR} {pc : Nat} {lv : List (Nat × Value)} {μ μ2 : mMem} {v2 : Option Value} {n index : Nat} (As rest : List Value) (hm : mokS q2 n) (hlk : Cond.methodLink q.1.cls index q2.1 ∈ gdL) (hn : As.length = n) (hdp : q2.2.2.2.2 + 1 ≤ q.2.2.2.2) (hcat : (rest.map fun v => v.category).sum ≤ 8) (hd : decode q.2.1 pc = .ok (.invokestatic index, 3)) (hB : BS (xl X) q2 As μ (some (v2, μ2))) (h : T q X tgt (pc + 3) lv (v2.toList ++ rest) μ2) : T q X tgt pc lv (As.reverse ++ rest) μ := fun hG v μ' ht H locs ls hP hS hl => by
  have hM := hB v2 μ2 rfl (xD X) (xad X) (xcA X) H.size
  have hr := va_runS (As := As.map (cz (xad X))) (rest := rest.map (cz (xad X))) (g := F0 (xm X) pc ls ((As.reverse ++ rest).map (cz (xad X)))) (locs := locs) (cells := 0) (slots := 0) (below := xb X) (e := xe X) (meth := xM X) (H := H) ⟨hG.1, hG.2.1, hG.2.2.1, hG.2.2.2.2.2.1, hG.2.2.2.2.2.2.1⟩ hM ⟨callB_T hG hm.1 hlk hdp, hG.2.2.2.2.2.2.1 _ hm.2⟩ ⟨blind, fun U hU hW => ⟨rfl, preH hG hP hS hU hW⟩⟩ rfl (by rw [List.length_map]; exact hn) hl.1 (by simp) (lv_room (by rw [cz_sum]; exact hcat)) hd ⟨Nat.zero_le _, Nat.zero_le _⟩
  refine callb hr hS (fun z _ hz => AA_in hG hS z hz) (AA_in hG hS) (fun H1 locs1 hP1 hS1 => ?_)
  have := h hG v μ' ht H1 locs1 ls hP1 hS1 hl
  rw [List.map_append] at this
  cases v2 <;> exact this
/-- go on with what a call answered -/
def bI (r : mR) (k : Int32 → mMem → mR) : mR := match r with
  | some (some (.int x), μ) => k x μ
  | _ => none
def bL (r : mR) (k : Int64 → mMem → mR) : mR := match r with
  | some (some (.long x), μ) => k x μ
  | _ => none
def bA (r : mR) (k : Nat → mMem → mR) : mR := match r with
  | some (some (.ref x), μ) => k x μ
  | _ => none
def bV (r : mR) (k : mMem → mR) : mR := match r with
  | some (none, μ) => k μ
  | _ => none
theorem bI_of {r : mR} {k : Int32 → mMem → mR} {z : Option Value × mMem} (h : bI r k = some z) : ∃ x μ, r = some (some (.int x), μ) ∧ k x μ = some z := by
  unfold bI at h
  split at h
  · exact ⟨_, _, rfl, h⟩
  · cases h
theorem bL_of {r : mR} {k : Int64 → mMem → mR} {z : Option Value × mMem} (h : bL r k = some z) : ∃ x μ, r = some (some (.long x), μ) ∧ k x μ = some z := by
  unfold bL at h
  split at h
  · exact ⟨_, _, rfl, h⟩
  · cases h
theorem bA_of {r : mR} {k : Nat → mMem → mR} {z : Option Value × mMem} (h : bA r k = some z) : ∃ x μ, r = some (some (.ref x), μ) ∧ k x μ = some z := by
  unfold bA at h
  split at h
  · exact ⟨_, _, rfl, h⟩
  · cases h
theorem bV_of {r : mR} {k : mMem → mR} {z : Option Value × mMem} (h : bV r k = some z) : ∃ μ, r = some (none, μ) ∧ k μ = some z := by
  unfold bV at h
  split at h
  · exact ⟨_, rfl, h⟩
  · cases h
theorem T_cVI {q q2 : mMI} {X : mCx} {r : mR} {k : Int32 → mMem → mR} {pc : Nat} {lv : List (Nat × Value)} {μ : mMem} {b c n index N : Nat} {TT : u_T} (As rest : List Value) (hm : mokV q2 n) (hlk : Cond.methodLink q.1.cls index q2.1 ∈ gdL) (hc : vwCl[c]? = some (q2.1.cls, TT, N)) (hn : As.length = n) (hdp : q2.2.2.2.2 + 1 ≤ q.2.2.2.2) (hcat : (rest.map fun v => v.category).sum ≤ 8) (hb : kd b = (c, 0)) (hd : decode q.2.1 pc = .ok (.invokevirtual index, 3)) (hB : BS (xl X) q2 (.ref b :: As) μ r) (h : ∀ (x : Int32) (μ2 : mMem), T q X (k x μ2) (pc + 3) lv (.int x :: rest) μ2) : T q X (bI r k) pc lv (As.reverse ++ .ref b :: rest) μ := fun hG v μ' ht H locs ls hP hS hl => by
  obtain ⟨x, μ2, rfl, hk⟩ := bI_of ht
  exact T_callV (v2 := some (.int x)) As rest hm hlk hb hc hn hdp hcat hd hB (h x μ2) hG v μ' hk H locs ls hP hS hl
theorem T_cSI {q q2 : mMI} {X : mCx} {r : mR} {k : Int32 → mMem → mR} {pc : Nat} {lv : List (Nat × Value)} {μ : mMem} {n index : Nat} (As rest : List Value) (hm : mokS q2 n) (hlk : Cond.methodLink q.1.cls index q2.1 ∈ gdL) (hn : As.length = n) (hdp : q2.2.2.2.2 + 1 ≤ q.2.2.2.2) (hcat : (rest.map fun v => v.category).sum ≤ 8) (hd : decode q.2.1 pc = .ok (.invokestatic index, 3)) (hB : BS (xl X) q2 As μ r) (h : ∀ (x : Int32) (μ2 : mMem), T q X (k x μ2) (pc + 3) lv (.int x :: rest) μ2) : T q X (bI r k) pc lv (As.reverse ++ rest) μ := fun hG v μ' ht H locs ls hP hS hl => by
  obtain ⟨x, μ2, rfl, hk⟩ := bI_of ht
  exact T_callS (v2 := some (.int x)) As rest hm hlk hn hdp hcat hd hB (h x μ2) hG v μ' hk H locs ls hP hS hl
theorem T_cVL {q q2 : mMI} {X : mCx} {r : mR} {k : Int64 → mMem → mR} {pc : Nat} {lv : List (Nat × Value)} {μ : mMem} {b c n index N : Nat} {TT : u_T} (As rest : List Value) (hm : mokV q2 n) (hlk : Cond.methodLink q.1.cls index q2.1 ∈ gdL) (hc : vwCl[c]? = some (q2.1.cls, TT, N)) (hn : As.length = n) (hdp : q2.2.2.2.2 + 1 ≤ q.2.2.2.2) (hcat : (rest.map fun v => v.category).sum ≤ 8) (hb : kd b = (c, 0)) (hd : decode q.2.1 pc = .ok (.invokevirtual index, 3)) (hB : BS (xl X) q2 (.ref b :: As) μ r) (h : ∀ (x : Int64) (μ2 : mMem), T q X (k x μ2) (pc + 3) lv (.long x :: rest) μ2) : T q X (bL r k) pc lv (As.reverse ++ .ref b :: rest) μ := fun hG v μ' ht H locs ls hP hS hl => by
  obtain ⟨x, μ2, rfl, hk⟩ := bL_of ht
  exact T_callV (v2 := some (.long x)) As rest hm hlk hb hc hn hdp hcat hd hB (h x μ2) hG v μ' hk H locs ls hP hS hl
theorem T_cSL {q q2 : mMI} {X : mCx} {r : mR} {k : Int64 → mMem → mR} {pc : Nat} {lv : List (Nat × Value)} {μ : mMem} {n index : Nat} (As rest : List Value) (hm : mokS q2 n) (hlk : Cond.methodLink q.1.cls index q2.1 ∈ gdL) (hn : As.length = n) (hdp : q2.2.2.2.2 + 1 ≤ q.2.2.2.2) (hcat : (rest.map fun v => v.category).sum ≤ 8) (hd : decode q.2.1 pc = .ok (.invokestatic index, 3)) (hB : BS (xl X) q2 As μ r) (h : ∀ (x : Int64) (μ2 : mMem), T q X (k x μ2) (pc + 3) lv (.long x :: rest) μ2) : T q X (bL r k) pc lv (As.reverse ++ rest) μ := fun hG v μ' ht H locs ls hP hS hl => by
  obtain ⟨x, μ2, rfl, hk⟩ := bL_of ht
  exact T_callS (v2 := some (.long x)) As rest hm hlk hn hdp hcat hd hB (h x μ2) hG v μ' hk H locs ls hP hS hl
theorem T_cVA {q q2 : mMI} {X : mCx} {r : mR} {k : Nat → mMem → mR} {pc : Nat} {lv : List (Nat × Value)} {μ : mMem} {b c n index N : Nat} {TT : u_T} (As rest : List Value) (hm : mokV q2 n) (hlk : Cond.methodLink q.1.cls index q2.1 ∈ gdL) (hc : vwCl[c]? = some (q2.1.cls, TT, N)) (hn : As.length = n) (hdp : q2.2.2.2.2 + 1 ≤ q.2.2.2.2) (hcat : (rest.map fun v => v.category).sum ≤ 8) (hb : kd b = (c, 0)) (hd : decode q.2.1 pc = .ok (.invokevirtual index, 3)) (hB : BS (xl X) q2 (.ref b :: As) μ r) (h : ∀ (x : Nat) (μ2 : mMem), T q X (k x μ2) (pc + 3) lv (.ref x :: rest) μ2) : T q X (bA r k) pc lv (As.reverse ++ .ref b :: rest) μ := fun hG v μ' ht H locs ls hP hS hl => by
  obtain ⟨x, μ2, rfl, hk⟩ := bA_of ht
  exact T_callV (v2 := some (.ref x)) As rest hm hlk hb hc hn hdp hcat hd hB (h x μ2) hG v μ' hk H locs ls hP hS hl
theorem T_cSA {q q2 : mMI} {X : mCx} {r : mR} {k : Nat → mMem → mR} {pc : Nat} {lv : List (Nat × Value)} {μ : mMem} {n index : Nat} (As rest : List Value) (hm : mokS q2 n) (hlk : Cond.methodLink q.1.cls index q2.1 ∈ gdL) (hn : As.length = n) (hdp : q2.2.2.2.2 + 1 ≤ q.2.2.2.2) (hcat : (rest.map fun v => v.category).sum ≤ 8) (hd : decode q.2.1 pc = .ok (.invokestatic index, 3)) (hB : BS (xl X) q2 As μ r) (h : ∀ (x : Nat) (μ2 : mMem), T q X (k x μ2) (pc + 3) lv (.ref x :: rest) μ2) : T q X (bA r k) pc lv (As.reverse ++ rest) μ := fun hG v μ' ht H locs ls hP hS hl => by
  obtain ⟨x, μ2, rfl, hk⟩ := bA_of ht
  exact T_callS (v2 := some (.ref x)) As rest hm hlk hn hdp hcat hd hB (h x μ2) hG v μ' hk H locs ls hP hS hl
theorem T_cVV {q q2 : mMI} {X : mCx} {r : mR} {k : mMem → mR} {pc : Nat} {lv : List (Nat × Value)} {μ : mMem} {b c n index N : Nat} {TT : u_T} (As rest : List Value) (hm : mokV q2 n) (hlk : Cond.methodLink q.1.cls index q2.1 ∈ gdL) (hc : vwCl[c]? = some (q2.1.cls, TT, N)) (hn : As.length = n) (hdp : q2.2.2.2.2 + 1 ≤ q.2.2.2.2) (hcat : (rest.map fun v => v.category).sum ≤ 8) (hb : kd b = (c, 0)) (hd : decode q.2.1 pc = .ok (.invokevirtual index, 3)) (hB : BS (xl X) q2 (.ref b :: As) μ r) (h : ∀ (μ2 : mMem), T q X (k μ2) (pc + 3) lv rest μ2) : T q X (bV r k) pc lv (As.reverse ++ .ref b :: rest) μ := fun hG v μ' ht H locs ls hP hS hl => by
  obtain ⟨μ2, rfl, hk⟩ := bV_of ht
  exact T_callV (v2 := none) As rest hm hlk hb hc hn hdp hcat hd hB (h μ2) hG v μ' hk H locs ls hP hS hl
theorem T_cSV {q q2 : mMI} {X : mCx} {r : mR} {k : mMem → mR} {pc : Nat} {lv : List (Nat × Value)} {μ : mMem} {n index : Nat} (As rest : List Value) (hm : mokS q2 n) (hlk : Cond.methodLink q.1.cls index q2.1 ∈ gdL) (hn : As.length = n) (hdp : q2.2.2.2.2 + 1 ≤ q.2.2.2.2) (hcat : (rest.map fun v => v.category).sum ≤ 8) (hd : decode q.2.1 pc = .ok (.invokestatic index, 3)) (hB : BS (xl X) q2 As μ r) (h : ∀ (μ2 : mMem), T q X (k μ2) (pc + 3) lv rest μ2) : T q X (bV r k) pc lv (As.reverse ++ rest) μ := fun hG v μ' ht H locs ls hP hS hl => by
  obtain ⟨μ2, rfl, hk⟩ := bV_of ht
  exact T_callS (v2 := none) As rest hm hlk hn hdp hcat hd hB (h μ2) hG v μ' hk H locs ls hP hS hl
theorem BS_of {l : Launch} {q : mMI} {av : List Value} {μ : mMem} {tgt : mR} (hpl : plainName q.1.cls = true) (hln : (lg_sl av).length ≤ q.2.2.1) (h : ∀ X : mCx, xl X = l → T q X tgt 0 (lv_args 0 av) [] μ) : BS l q av μ tgt := by
  intro v μ' ht D ad cA sz
  refine Met.ofW (cc := q.2.1) (maxL := q.2.2.1) (ret := q.2.2.2.1) hpl rfl ?_
  intro p e s m args below meth c s₁ B hml hv
  obtain ⟨rfl, hsz, hP, hK, hj, hZ⟩ := hv
  subst hsz
  have hl := lv_entry (av.map (cz ad)) (n := q.2.2.1) (by rw [ls_am]; exact hln)
  rw [lv_am] at hl
  rw [lg_entry_eq]
  exact h (p, l, e, s, m, (av.map (cz ad)).toArray, below, meth, c, ad, cA, D, AA ad s.heap.size) rfl ⟨B.exec, B.bytes, hml, B.returns, B.notSynchronized, findClass_of_methodNamed B.named, fun w hw => atoms_spec (ws := wsM q) B.pre w (List.mem_cons_of_mem _ hw), hK, hj, fun i hi => Or.inl ⟨i, hi, rfl⟩, fun z hz => Or.inr hz, hZ⟩ v μ' ht s.heap [] _ hP va_S.rf hl
theorem lk_cpy : Cond.native arraycopyName ∈ gdL ∧ Cond.static arraycopyName ∈ gdL ∧ Cond.initialized "java/lang/System" ∈ gdL := by decide +kernel
theorem T_cpyI {q : mMI} {X : mCx} {tgt : mR} {pc : Nat} {lv : List (Nat × Value)} {st : List Value} {μ : mMem} {a b n0 n1 index N : Nat} {n : Int32} (hN : n.toNatClampNeg = N) (h3 : ¬ n < 0) (h4 : N ≤ n0) (h5 : N ≤ n1) (hlk : Cond.methodLink q.1.cls index arraycopyName ∈ gdL) (hdp : 1 ≤ q.2.2.2.2) (hcat : (st.map fun v => v.category).sum ≤ 8) (ha : kd a = (10, n0)) (hb : kd b = (10, n1)) (hd : decode q.2.1 pc = .ok (.invokestatic index, 3)) (h : T q X tgt (pc + 3) lv st (ci μ a b 0 0 N)) : T q X tgt pc lv (.int n :: .int 0 :: .ref b :: .int 0 :: .ref a :: st) μ := fun hG v μ' ht H locs ls hP hS hl => by
  subst hN
  have ha0 := kd_lt ha (by decide)
  have hb0 := kd_lt hb (by decide)
  have hts := hG.2.2.2.2.2.2.1
  refine va_copyi (f := μ.1 a) (g := μ.1 b) (ty := .int) hG.1 hG.2.1 (hG.2.2.1.trans hl.1.symm) hG.2.2.2.2.2.1 (hts _ hlk) (hts _ lk_cpy.1) (hts _ lk_cpy.2.1) (hts _ lk_cpy.2.2) hG.2.2.2.2.2.2.2.1 hP (ws_D hG.2.2.2.2.2.2.2.2.1 hG.2.2.2.2.2.2.2.2.2.1) hS a b 1 1 (by rw [ws_at ha0, cell_int ha (by decide)]) (by rw [ws_at hb0, cell_int hb (by decide)]) rfl rfl rfl (by decide) (by decide) h3 (by simpa using h4) (by simpa using h5) (fun i _ => rfl) hdp ?_ hd (fun H1 locs1 hP1 _ hS1 => ?_)
  · rw [cz_sum]
    have e : nativeFrameWords "java/lang/System" "arraycopy" 5 + 11 ≤ 60 := by decide +kernel
    show _ ≤ 100 * q.2.2.2.2
    omega
  · refine h hG v μ' ht H1 locs1 ls ?_ hS1 hl
    rw [← ws_set (ad := xad X) (cA := xcA X) (μ := μ) (μ' := ci μ a b 0 0 n.toNatClampNeg) (E := .inl (xcA X 10, n1, .inl (va_cpy (μ.1 a) (μ.1 b) 0 0 n.toNatClampNeg))) hb0 (by rw [cell_int hb (by decide)]; simp [ci]) (fun j hj => ⟨by simp [ci, hj], rfl⟩)]
    exact hP1
theorem T_cpyL {q : mMI} {X : mCx} {tgt : mR} {pc : Nat} {lv : List (Nat × Value)} {st : List Value} {μ : mMem} {a b n0 n1 index N : Nat} {n : Int32} (hN : n.toNatClampNeg = N) (h3 : ¬ n < 0) (h4 : N ≤ n0) (h5 : N ≤ n1) (hlk : Cond.methodLink q.1.cls index arraycopyName ∈ gdL) (hdp : 1 ≤ q.2.2.2.2) (hcat : (st.map fun v => v.category).sum ≤ 8) (ha : kd a = (11, n0)) (hb : kd b = (11, n1)) (hd : decode q.2.1 pc = .ok (.invokestatic index, 3)) (h : T q X tgt (pc + 3) lv st (cl μ a b 0 0 N)) : T q X tgt pc lv (.int n :: .int 0 :: .ref b :: .int 0 :: .ref a :: st) μ := fun hG v μ' ht H locs ls hP hS hl => by
  subst hN
  have ha0 := kd_lt ha (by decide)
  have hb0 := kd_lt hb (by decide)
  have hts := hG.2.2.2.2.2.2.1
  refine va_copyl (f := μ.2 a) (g := μ.2 b) (ty := .long) hG.1 hG.2.1 (hG.2.2.1.trans hl.1.symm) hG.2.2.2.2.2.1 (hts _ hlk) (hts _ lk_cpy.1) (hts _ lk_cpy.2.1) (hts _ lk_cpy.2.2) hG.2.2.2.2.2.2.2.1 hP (ws_D hG.2.2.2.2.2.2.2.2.1 hG.2.2.2.2.2.2.2.2.2.1) hS a b 2 2 (by rw [ws_at ha0, cell_long ha]) (by rw [ws_at hb0, cell_long hb]) rfl rfl rfl (by decide) (by decide) h3 (by simpa using h4) (by simpa using h5) (fun i _ => rfl) hdp ?_ hd (fun H1 locs1 hP1 _ hS1 => ?_)
  · rw [cz_sum]
    have e : nativeFrameWords "java/lang/System" "arraycopy" 5 + 11 ≤ 60 := by decide +kernel
    show _ ≤ 100 * q.2.2.2.2
    omega
  · refine h hG v μ' ht H1 locs1 ls ?_ hS1 hl
    rw [← ws_set (ad := xad X) (cA := xcA X) (μ := μ) (μ' := cl μ a b 0 0 n.toNatClampNeg) (E := .inl (xcA X 11, n1, .inr (.inl (va_cpy (μ.2 a) (μ.2 b) 0 0 n.toNatClampNeg)))) hb0 (by rw [cell_long hb]; simp [cl]) (fun j hj => ⟨rfl, by simp [cl, hj]⟩)]
    exact hP1
theorem T_tsIn {q : mMI} {X : mCx} {tgt : mR} {pc : Nat} {lv : List (Nat × Value)} {st : List Value} {μ : mMem} {x : Int32} {dflt lo hi : Int} {offs : Array Int} {len : Nat} {off : Int} (z : Int32) (t : Nat) (hx : x = z) (hd : decode q.2.1 pc = .ok (.tableswitch dflt lo hi offs, len)) (h1 : ¬ z.toInt < lo) (h2 : ¬ hi < z.toInt) (ho : offs[(z.toInt - lo).toNat]? = some off) (htg : (pc : Int) + off = (t : Int)) (h : T q X tgt t lv st μ) : T q X tgt pc lv (.int x :: st) μ := by
  subst hx
  exact fun hG v μ' ht H locs ls hP hS hl => lv_tableIn hG.1 hG.2.1 hd h1 h2 ho htg (h hG v μ' ht H locs ls hP hS hl)
theorem T_tsOut {q : mMI} {X : mCx} {tgt : mR} {pc : Nat} {lv : List (Nat × Value)} {st : List Value} {μ : mMem} {x : Int32} {dflt lo hi : Int} {offs : Array Int} {len : Nat} (t : Nat) (hx : x.toInt < lo ∨ hi < x.toInt) (hd : decode q.2.1 pc = .ok (.tableswitch dflt lo hi offs, len)) (htg : (pc : Int) + dflt = (t : Int)) (h : T q X tgt t lv st μ) : T q X tgt pc lv (.int x :: st) μ :=
  fun hG v μ' ht H locs ls hP hS hl => lv_tableOut hG.1 hG.2.1 hd hx htg (h hG v μ' ht H locs ls hP hS hl)
theorem T_lsw {q : mMI} {X : mCx} {tgt : mR} {pc : Nat} {lv : List (Nat × Value)} {st : List Value} {μ : mMem} {x : Int32} {dflt : Int} {ps : Array (Int × Int)} {len : Nat} {off : Int} (t : Nat) (hd : decode q.2.1 pc = .ok (.lookupswitch dflt ps, len)) (hp : (ps.toList.zip (ps.toList.drop 1)).all (fun (a, next) => a.1 < next.1) = true) (ho : Op.lookupswitch.offset ps.toList dflt x.toInt = off) (htg : (pc : Int) + off = (t : Int)) (h : T q X tgt t lv st μ) : T q X tgt pc lv (.int x :: st) μ :=
  fun hG v μ' ht H locs ls hP hS hl => lv_lookup hG.1 hG.2.1 hd hp ho htg (h hG v μ' ht H locs ls hP hS hl)
theorem T_dup2 {q : mMI} {X : mCx} {tgt : mR} {pc : Nat} {lv : List (Nat × Value)} {st : List Value} {μ : mMem} {x y : Value} (hx : x.category = 1) (hy : y.category = 1) (hd : decode q.2.1 pc = .ok (.dup2, 1)) (h : T q X tgt (pc + 1) lv (x :: y :: x :: y :: st) μ) : T q X tgt pc lv (x :: y :: st) μ :=
  fun hG v μ' ht H locs ls hP hS hl => lv_dup2_11 hG.1 hG.2.1 hd (by rw [cz_cat]; exact hx) (by rw [cz_cat]; exact hy) (h hG v μ' ht H locs ls hP hS hl)
theorem tsO {x : Int32} (n : Nat) (hn : n < 2 ^ 31) (h : ∀ k, k < n → ¬ x = nI k) : x.toInt < 0 ∨ (n : Int) - 1 < x.toInt := by
  by_cases h0 : x.toInt < 0
  · exact Or.inl h0
  · refine Or.inr ?_
    rcases Int.lt_or_le ((n : Int) - 1) x.toInt with q | q
    · exact q
    · exfalso
      have hk : x.toInt.toNat < n := by omega
      refine h _ hk ?_
      apply Int32.toInt_inj.mp
      rw [nI_toInt (by omega)]
      omega
end
section
theorem hZS {q : mMI} {X : mCx} (hG : Good q X) : ZS (xad X) (xA X) (xs X) (xs X).heap := hG.2.2.2.2.2.2.2.2.2.2.2
theorem T_gg {q : mMI} {X : mCx} {r : mR} {pc : Nat} {lv : List (Nat × Value)} {st : List Value} {μ : mMem} {c : Prop} {dc : Decidable c} (h : c → T q X r pc lv st μ) : T q X (gd c r dc) pc lv st μ := by
  unfold gd
  exact T_ite h (fun _ => T_none)
theorem T_gs {q : mMI} {X : mCx} {tgt : mR} {pc : Nat} {lv : List (Nat × Value)} {st : List Value} {μ : mMem} {C nm ds : String} {x : Value} {index : Nat} (hz : ∀ X : mCx, ZS (xad X) (xA X) (xs X) (xs X).heap → va_Z C nm ds (cz (xad X) x) (xA X) (xs X) (xs X).heap) (hw : Cond.fieldLink q.1.cls index C nm ds ∈ gdL) (hd : decode q.2.1 pc = .ok (.getstatic index, 3)) (h : T q X tgt (pc + 3) lv (x :: st) μ) : T q X tgt pc lv st μ := fun hG v μ' ht H locs ls hP hS hl => va_gets hG.1 hG.2.1 (hz X (hZS hG)) hS hG.2.2.2.2.2.1 (hG.2.2.2.2.2.2.1 _ hw) (fun _ h => h) hd (h hG v μ' ht H locs ls hP hS hl)
theorem T_tald {q : mMI} {X : mCx} {tgt : mR} {pc : Nat} {lv : List (Nat × Value)} {st : List Value} {μ : mMem} {z N : Nat} {tb : List Int32} {i : Int32} {dc : Decidable (vp_in i N)} (hz : ∀ X : mCx, ZS (xad X) (xA X) (xs X) (xs X).heap → va_T .int (xad X z) N (fun j => .int (tb.getD j 0)) (xA X) (xs X) (xs X).heap) (hd : decode q.2.1 pc = .ok (.iaload, 1)) (h : T q X tgt (pc + 1) lv (.int (tb.getD i.toNatClampNeg 0) :: st) μ) : T q X (gd (vp_in i N) tgt dc) pc lv (.int i :: .ref z :: st) μ := T_gg (fun hc => fun hG v μ' ht H locs ls hP hS hl => va_ti hG.1 hG.2.1 (hz X (hZS hG)) hS hc rfl hd (h hG v μ' ht H locs ls hP hS hl))
theorem zs114 : ∀ X : mCx, ZS (xad X) (xA X) (xs X) (xs X).heap → va_Z "RankStairs$Tape" "NUMBERS" "[I" (cz (xad X) (.ref 114)) (xA X) (xs X) (xs X).heap := fun _ h => h.1.1
theorem zt114 : ∀ X : mCx, ZS (xad X) (xA X) (xs X) (xs X).heap → va_T .int (xad X 114) 7 (fun j => .int (tb114.getD j 0)) (xA X) (xs X) (xs X).heap := fun _ h => h.1.2
theorem zs115 : ∀ X : mCx, ZS (xad X) (xA X) (xs X) (xs X).heap → va_Z "RankStairs$Tape" "LEAST" "[I" (cz (xad X) (.ref 115)) (xA X) (xs X) (xs X).heap := fun _ h => h.2.1.1
theorem zt115 : ∀ X : mCx, ZS (xad X) (xA X) (xs X) (xs X).heap → va_T .int (xad X 115) 28 (fun j => .int (tb115.getD j 0)) (xA X) (xs X) (xs X).heap := fun _ h => h.2.1.2
theorem zs116 : ∀ X : mCx, ZS (xad X) (xA X) (xs X) (xs X).heap → va_Z "RankStairs$Tape" "MOST" "[I" (cz (xad X) (.ref 116)) (xA X) (xs X) (xs X).heap := fun _ h => h.2.2.1.1
theorem zt116 : ∀ X : mCx, ZS (xad X) (xA X) (xs X) (xs X).heap → va_T .int (xad X 116) 28 (fun j => .int (tb116.getD j 0)) (xA X) (xs X) (xs X).heap := fun _ h => h.2.2.1.2
theorem zsC : ∀ X : mCx, ZS (xad X) (xA X) (xs X) (xs X).heap → va_Z "java/lang/String" "COMPACT_STRINGS" "Z" (cz (xad X) (.int 1)) (xA X) (xs X) (xs X).heap := fun _ h => h.2.2.2.1
theorem T_ldcS {q : mMI} {X : mCx} {tgt : mR} {pc : Nat} {lv : List (Nat × Value)} {st : List Value} {μ : mMem} {index : Nat} (i : Nat) (hi : i < 7) (hx : sIdx.getD i 0 = index) (hc : q.1.cls = "RankStairs$Tape") (hd : decode q.2.1 pc = .ok (.ldc index, 2)) (h : T q X tgt (pc + 2) lv (.ref (100 + i) :: st) μ) : T q X tgt pc lv st μ := fun hG v μ' ht H locs ls hP hS hl => by
  subst hx
  have h1 := hG.2.2.2.2.2.1
  rw [hc] at h1
  exact va_ldcS hG.1 hG.2.1 h1 ((hZS hG).2.2.2.2.2.2 i hi) hd (h hG v μ' ht H locs ls hP hS hl)
theorem T_gSv {q : mMI} {X : mCx} {tgt : mR} {pc : Nat} {lv : List (Nat × Value)} {st : List Value} {μ : mMem} {b index : Nat} (hb : 100 ≤ b ∧ b < 107) (hw : Cond.fieldLink q.1.cls index "java/lang/String" "value" "[B" ∈ gdL) (hd : decode q.2.1 pc = .ok (.getfield index, 3)) (h : T q X tgt (pc + 3) lv (.ref (b + 7) :: st) μ) : T q X tgt pc lv (.ref b :: st) μ := fun hG v μ' ht H locs ls hP hS hl => by
  obtain ⟨i, hi⟩ : ∃ i, b = 100 + i := ⟨b - 100, by omega⟩
  subst hi
  have e : 100 + i + 7 = 107 + i := by omega
  rw [e] at h
  exact vk_getf hG.1 hG.2.1 ((hZS hG).2.2.2.2.2.1.1 i (by omega)).2.2.1 hS hG.2.2.2.2.2.1 (hG.2.2.2.2.2.2.1 _ hw) (fun _ h => h) hd (h hG v μ' ht H locs ls hP hS hl)
theorem T_gSc {q : mMI} {X : mCx} {tgt : mR} {pc : Nat} {lv : List (Nat × Value)} {st : List Value} {μ : mMem} {b index : Nat} (hb : 100 ≤ b ∧ b < 107) (hw : Cond.fieldLink q.1.cls index "java/lang/String" "coder" "B" ∈ gdL) (hd : decode q.2.1 pc = .ok (.getfield index, 3)) (h : T q X tgt (pc + 3) lv (.int 0 :: st) μ) : T q X tgt pc lv (.ref b :: st) μ := fun hG v μ' ht H locs ls hP hS hl => by
  obtain ⟨i, hi⟩ : ∃ i, b = 100 + i := ⟨b - 100, by omega⟩
  subst hi
  exact vk_getf hG.1 hG.2.1 ((hZS hG).2.2.2.2.2.1.1 i (by omega)).2.1 hS hG.2.2.2.2.2.1 (hG.2.2.2.2.2.2.1 _ hw) (fun _ h => h) hd (h hG v μ' ht H locs ls hP hS hl)
theorem T_Slen {q : mMI} {X : mCx} {tgt : mR} {pc : Nat} {lv : List (Nat × Value)} {st : List Value} {μ : mMem} {b : Nat} (hb : 100 ≤ b ∧ b < 107) (hd : decode q.2.1 pc = .ok (.arraylength, 1)) (h : T q X tgt (pc + 1) lv (.int (Int32.ofNat (sLen.getD (b - 100) 0)) :: st) μ) : T q X tgt pc lv (.ref (b + 7) :: st) μ := fun hG v μ' ht H locs ls hP hS hl => by
  obtain ⟨i, hi⟩ : ∃ i, b = 100 + i := ⟨b - 100, by omega⟩
  subst hi
  have e : 100 + i + 7 = 107 + i := by omega
  have e2 : 100 + i - 100 = i := by omega
  rw [e2] at h
  rw [e]
  exact va_tlen hG.1 hG.2.1 ((hZS hG).2.2.2.2.2.1.1 i (by omega)).2.2.2 hS rfl hd (h hG v μ' ht H locs ls hP hS hl)
theorem T_Sbald {q : mMI} {X : mCx} {tgt : mR} {pc : Nat} {lv : List (Nat × Value)} {st : List Value} {μ : mMem} {b : Nat} {x : Int32} (hb : 100 ≤ b ∧ b < 107) (hx : vp_in x (sLen.getD (b - 100) 0)) (hd : decode q.2.1 pc = .ok (.baload, 1)) (h : T q X tgt (pc + 1) lv (.int ((sByt.getD (b - 100) []).getD x.toNatClampNeg 0) :: st) μ) : T q X tgt pc lv (.int x :: .ref (b + 7) :: st) μ := fun hG v μ' ht H locs ls hP hS hl => by
  obtain ⟨i, hi⟩ : ∃ i, b = 100 + i := ⟨b - 100, by omega⟩
  subst hi
  have e : 100 + i + 7 = 107 + i := by omega
  have e2 : 100 + i - 100 = i := by omega
  rw [e2] at h hx
  rw [e]
  exact va_tb hG.1 hG.2.1 ((hZS hG).2.2.2.2.2.1.1 i (by omega)).2.2.2 hS hx rfl hd (h hG v μ' ht H locs ls hP hS hl)
theorem T_callVS {q q2 : mMI} {X : mCx} {tgt : mR} {pc : Nat} {lv : List (Nat × Value)} {μ μ2 : mMem} {v2 : Option Value} {b n index : Nat} (As rest : List Value) (hm : mokV q2 n) (hlk : Cond.methodLink q.1.cls index q2.1 ∈ gdL) (hb : 100 ≤ b ∧ b < 107) (hc : q2.1.cls = "java/lang/String") (hn : As.length = n) (hdp : q2.2.2.2.2 + 1 ≤ q.2.2.2.2) (hcat : (rest.map fun v => v.category).sum ≤ 8) (hd : decode q.2.1 pc = .ok (.invokevirtual index, 3)) (hB : BS (xl X) q2 (.ref b :: As) μ (some (v2, μ2))) (h : T q X tgt (pc + 3) lv (v2.toList ++ rest) μ2) : T q X tgt pc lv (As.reverse ++ .ref b :: rest) μ := fun hG v μ' ht H locs ls hP hS hl => by
  have hM := hB v2 μ2 rfl (xD X) (xad X) (xcA X) H.size
  have hrv := vk_recv (i := b - 100) (hZS hG).2.2.2.2.2.1 (by omega) hS
  have e : 100 + (b - 100) = b := by omega
  rw [e, ← hc] at hrv
  have hr := va_runV (As := As.map (cz (xad X))) (rest := rest.map (cz (xad X))) (g := F0 (xm X) pc ls ((As.reverse ++ .ref b :: rest).map (cz (xad X)))) (locs := locs) (cells := 0) (slots := 0) (below := xb X) (e := xe X) (meth := xM X) (H := H) ⟨hG.1, hG.2.1, hG.2.2.1, hG.2.2.2.2.2.1, hG.2.2.2.2.2.2.1⟩ hM ⟨callB_T hG hm.1 hlk hdp, hG.2.2.2.2.2.2.1 _ hm.2.1, hG.2.2.2.2.2.2.1 _ hm.2.2⟩ ⟨blind, hrv, fun U hU hW => ⟨rfl, preH hG hP hS hU hW⟩⟩ rfl (by rw [List.length_map]; exact hn) hl.1 (by simp [cz]) (lv_room (by rw [cz_sum]; exact hcat)) hd ⟨Nat.zero_le _, Nat.zero_le _⟩
  refine callb hr hS (fun z _ hz => AA_in hG hS z hz) (AA_in hG hS) (fun H1 locs1 hP1 hS1 => ?_)
  have := h hG v μ' ht H1 locs1 ls hP1 hS1 hl
  rw [List.map_append] at this
  cases v2 <;> exact this
theorem T_cVIS {q q2 : mMI} {X : mCx} {r : mR} {k : Int32 → mMem → mR} {pc : Nat} {lv : List (Nat × Value)} {μ : mMem} {b n index : Nat} (As rest : List Value) (hm : mokV q2 n) (hlk : Cond.methodLink q.1.cls index q2.1 ∈ gdL) (hc : q2.1.cls = "java/lang/String") (hn : As.length = n) (hdp : q2.2.2.2.2 + 1 ≤ q.2.2.2.2) (hcat : (rest.map fun v => v.category).sum ≤ 8) (hb : 100 ≤ b ∧ b < 107) (hd : decode q.2.1 pc = .ok (.invokevirtual index, 3)) (hB : BS (xl X) q2 (.ref b :: As) μ r) (h : ∀ (x : Int32) (μ2 : mMem), T q X (k x μ2) (pc + 3) lv (.int x :: rest) μ2) : T q X (bI r k) pc lv (As.reverse ++ .ref b :: rest) μ := fun hG v μ' ht H locs ls hP hS hl => by
  obtain ⟨x, μ2, rfl, hk⟩ := bI_of ht
  exact T_callVS (v2 := some (.int x)) As rest hm hlk hb hc hn hdp hcat hd hB (h x μ2) hG v μ' hk H locs ls hP hS hl
theorem T_nret {q : mMI} {X : mCx} {pc : Nat} {lv : List (Nat × Value)} {μ : mMem} {x : Int32} {ty : FieldType} (hc : narrow ty (.int x) = .int x) (hr : q.2.2.2.1 = some ty) (hd : decode q.2.1 pc = .ok (.ireturn, 1)) : T q X (some (some (.int x), μ)) pc lv [.int x] μ := fun hG v μ' ht H locs ls hP hS hl => by
  obtain ⟨rfl, rfl⟩ : some (.int x) = v ∧ μ = μ' := by simpa using ht
  exact W.zret (v := x) hG.1 hG.2.1 (hG.2.2.2.1.trans hr) hc (Qb_ret (v := some (.int x)) hP hS) hS.2.2 hd (hlocks := hG.2.2.2.2.1)
theorem T_i2c {q : mMI} {X : mCx} {tgt : mR} {pc : Nat} {lv : List (Nat × Value)} {st : List Value} {μ : mMem} {x : Int32} (hd : decode q.2.1 pc = .ok (.i2c, 1)) (h : T q X tgt (pc + 1) lv (.int ((x.toUInt32 % 65536).toInt32) :: st) μ) : T q X tgt pc lv (.int x :: st) μ := fun hG v μ' ht H locs ls hP hS hl => lv_i2c hG.1 hG.2.1 hd rfl (h hG v μ' ht H locs ls hP hS hl)
/-- a static of which only 'a reference or null' is known -/
theorem T_gsQ {q : mMI} {X : mCx} {tgt : mR} {pc : Nat} {lv : List (Nat × Value)} {st : List Value} {μ : mMem} {index : Nat} (hw : Cond.fieldLink q.1.cls index "jdk/internal/util/Preconditions" "SIOOBE_FORMATTER" "Ljava/util/function/BiFunction;" ∈ gdL) (hd : decode q.2.1 pc = .ok (.getstatic index, 3)) (h : T q X tgt (pc + 3) lv (.null :: st) μ) (h2 : T q X tgt (pc + 3) lv (.ref 117 :: st) μ) : T q X tgt pc lv st μ := fun hG v μ' ht H locs ls hP hS hl => by
  rcases (hZS hG).2.2.2.2.1 with hz | hz
  · exact va_gets hG.1 hG.2.1 hz hS hG.2.2.2.2.2.1 (hG.2.2.2.2.2.2.1 _ hw) (fun _ h => h) hd (h hG v μ' ht H locs ls hP hS hl)
  · exact va_gets hG.1 hG.2.1 hz hS hG.2.2.2.2.2.1 (hG.2.2.2.2.2.2.1 _ hw) (fun _ h => h) hd (h2 hG v μ' ht H locs ls hP hS hl)
end
section
def FU : Nat := 20000
def vpd (i : Int32) (n : Nat) : Decidable (vp_in i n) := by unfold vp_in; infer_instance
abbrev ga (i : Int32) (n : Nat) (r : mR) : mR := gd (vp_in i n) r (vpd i n)
abbrev g0i (y : Int32) (r : mR) : mR := gd (¬ y = 0) r inferInstance
abbrev g0l (y : Int64) (r : mR) : mR := gd (¬ y = 0) r inferInstance
abbrev gb (x : Int32) (r : mR) : mR := gd (x = 0 ∨ x = 1) r inferInstance
def li (e : Int32) (k : Int32 → mR) : mR := k e
def ll (e : Int64) (k : Int64 → mR) : mR := k e
def lt (e : mMem) (k : mMem → mR) : mR := k e
theorem T_li {q : mMI} {X : mCx} {pc : Nat} {lv : List (Nat × Value)} {st : List Value} {μ : mMem} {i : Nat} {e : Int32} {k : Int32 → mR} (h : ∀ y, T q X (k y) pc ((i, .int y) :: lv) st μ) : T q X (li e k) pc ((i, .int e) :: lv) st μ := h e
theorem T_ll {q : mMI} {X : mCx} {pc : Nat} {lv : List (Nat × Value)} {st : List Value} {μ : mMem} {i : Nat} {e : Int64} {k : Int64 → mR} (h : ∀ y, T q X (k y) pc ((i, .long y) :: lv) st μ) : T q X (ll e k) pc ((i, .long e) :: lv) st μ := h e
theorem T_lt {q : mMI} {X : mCx} {pc : Nat} {lv : List (Nat × Value)} {st : List Value} {e : mMem} {k : mMem → mR} (h : ∀ y, T q X (k y) pc lv st y) : T q X (lt e k) pc lv st e := h e
theorem neT {x z : Int32} {k : Int} (h : ¬ x = z) (hz : z.toInt = k) : x.toInt ≠ k := fun e => h (Int32.toInt_inj.mp (e.trans hz.symm))
def imax (x y : Int32) : Int32 := if x < y then y else x
theorem lk_max : Cond.static Lib.Math.max.name ∈ gdL ∧ Cond.initialized "java/lang/Math" ∈ gdL ∧ Cond.code Lib.Math.max.name Lib.Math.max.code 2 (some .int) ∈ gdL := ⟨gd_mem 530 (by decide +kernel) (by decide +kernel), gd_mem 65 (by decide +kernel) (by decide +kernel), gd_mem 531 (by decide +kernel) (by decide +kernel)⟩
theorem T_mmax {q : mMI} {X : mCx} {tgt : mR} {pc : Nat} {lv : List (Nat × Value)} {st : List Value} {μ : mMem} {index : Nat} {x y : Int32} (hlk : Cond.methodLink q.1.cls index Lib.Math.max.name ∈ gdL) (hdp : 1 ≤ q.2.2.2.2) (hcat : (st.map fun v => v.category).sum ≤ 8) (hd : decode q.2.1 pc = .ok (.invokestatic index, 3)) (h : T q X tgt (pc + 3) lv (.int (imax x y) :: st) μ) : T q X tgt pc lv (.int y :: .int x :: st) μ := fun hG v μ' ht H locs ls hP hS hl => by
  have hts := hG.2.2.2.2.2.2.1
  refine va_mmax hG.1 hG.2.1 (hG.2.2.1.trans hl.1.symm) hG.2.2.2.2.2.1 (hts _ hlk) (hts _ lk_max.1) (hts _ lk_max.2.1) (hts _ lk_max.2.2) hdp ?_ (Nat.zero_le _) (Nat.zero_le _) hd (h hG v μ' ht H locs ls hP hS hl)
  show _ ≤ 100 * q.2.2.2.2
  rw [cz_sum]
  omega
def imin (x y : Int32) : Int32 := if y < x then y else x
theorem lk_min : Cond.static Lib.Math.min.name ∈ gdL ∧ Cond.initialized "java/lang/Math" ∈ gdL ∧ Cond.code Lib.Math.min.name Lib.Math.min.code 2 (some .int) ∈ gdL := ⟨gd_mem 507 (by decide +kernel) (by decide +kernel), gd_mem 65 (by decide +kernel) (by decide +kernel), gd_mem 508 (by decide +kernel) (by decide +kernel)⟩
theorem T_mmin {q : mMI} {X : mCx} {tgt : mR} {pc : Nat} {lv : List (Nat × Value)} {st : List Value} {μ : mMem} {index : Nat} {x y : Int32} (hlk : Cond.methodLink q.1.cls index Lib.Math.min.name ∈ gdL) (hdp : 1 ≤ q.2.2.2.2) (hcat : (st.map fun v => v.category).sum ≤ 8) (hd : decode q.2.1 pc = .ok (.invokestatic index, 3)) (h : T q X tgt (pc + 3) lv (.int (imin x y) :: st) μ) : T q X tgt pc lv (.int y :: .int x :: st) μ := fun hG v μ' ht H locs ls hP hS hl => by
  have hts := hG.2.2.2.2.2.2.1
  refine va_mmin hG.1 hG.2.1 (hG.2.2.1.trans hl.1.symm) hG.2.2.2.2.2.1 (hts _ hlk) (hts _ lk_min.1) (hts _ lk_min.2.1) (hts _ lk_min.2.2) hdp ?_ (Nat.zero_le _) (Nat.zero_le _) hd (h hG v μ' ht H locs ls hP hS hl)
  show _ ≤ 100 * q.2.2.2.2
  rw [cz_sum]
  omega
def iabs (x : Int32) : Int32 := if 0 ≤ x then x else 0 - x
theorem lk_abs : Cond.static Lib.Math.abs.name ∈ gdL ∧ Cond.initialized "java/lang/Math" ∈ gdL ∧ Cond.code Lib.Math.abs.name Lib.Math.abs.code 1 (some .int) ∈ gdL := ⟨gd_mem 543 (by decide +kernel) (by decide +kernel), gd_mem 65 (by decide +kernel) (by decide +kernel), gd_mem 544 (by decide +kernel) (by decide +kernel)⟩
theorem T_mabs {q : mMI} {X : mCx} {tgt : mR} {pc : Nat} {lv : List (Nat × Value)} {st : List Value} {μ : mMem} {index : Nat} {x : Int32} (hlk : Cond.methodLink q.1.cls index Lib.Math.abs.name ∈ gdL) (hdp : 1 ≤ q.2.2.2.2) (hcat : (st.map fun v => v.category).sum ≤ 8) (hd : decode q.2.1 pc = .ok (.invokestatic index, 3)) (h : T q X tgt (pc + 3) lv (.int (iabs x) :: st) μ) : T q X tgt pc lv (.int x :: st) μ := fun hG v μ' ht H locs ls hP hS hl => by
  have hts := hG.2.2.2.2.2.2.1
  refine va_mabs hG.1 hG.2.1 (hG.2.2.1.trans hl.1.symm) hG.2.2.2.2.2.1 (hts _ hlk) (hts _ lk_abs.1) (hts _ lk_abs.2.1) (hts _ lk_abs.2.2) hdp ?_ (Nat.zero_le _) (Nat.zero_le _) hd (h hG v μ' ht H locs ls hP hS hl)
  show _ ≤ 100 * q.2.2.2.2
  rw [cz_sum]
  omega
theorem kd_0 : kd 0 = (4, 0) := rfl
theorem kd_1 : kd 1 = (10, 10) := rfl
theorem kd_2 : kd 2 = (10, 10) := rfl
theorem kd_3 : kd 3 = (10, 10) := rfl
theorem kd_4 : kd 4 = (10, 4) := rfl
theorem kd_5 : kd 5 = (10, 4) := rfl
theorem kd_6 : kd 6 = (10, 4) := rfl
theorem kd_7 : kd 7 = (10, 4) := rfl
theorem kd_8 : kd 8 = (4, 0) := rfl
theorem kd_9 : kd 9 = (10, 10) := rfl
theorem kd_10 : kd 10 = (10, 10) := rfl
theorem kd_11 : kd 11 = (10, 10) := rfl
theorem kd_12 : kd 12 = (10, 4) := rfl
theorem kd_13 : kd 13 = (10, 4) := rfl
theorem kd_14 : kd 14 = (10, 4) := rfl
theorem kd_15 : kd 15 = (10, 4) := rfl
theorem kd_16 : kd 16 = (4, 0) := rfl
theorem kd_17 : kd 17 = (10, 10) := rfl
theorem kd_18 : kd 18 = (10, 10) := rfl
theorem kd_19 : kd 19 = (10, 10) := rfl
theorem kd_20 : kd 20 = (10, 4) := rfl
theorem kd_21 : kd 21 = (10, 4) := rfl
theorem kd_22 : kd 22 = (10, 4) := rfl
theorem kd_23 : kd 23 = (10, 4) := rfl
theorem kd_24 : kd 24 = (4, 0) := rfl
theorem kd_25 : kd 25 = (10, 10) := rfl
theorem kd_26 : kd 26 = (10, 10) := rfl
theorem kd_27 : kd 27 = (10, 10) := rfl
theorem kd_28 : kd 28 = (10, 4) := rfl
theorem kd_29 : kd 29 = (10, 4) := rfl
theorem kd_30 : kd 30 = (10, 4) := rfl
theorem kd_31 : kd 31 = (10, 4) := rfl
theorem kd_32 : kd 32 = (4, 0) := rfl
theorem kd_33 : kd 33 = (10, 10) := rfl
theorem kd_34 : kd 34 = (10, 10) := rfl
theorem kd_35 : kd 35 = (10, 10) := rfl
theorem kd_36 : kd 36 = (10, 4) := rfl
theorem kd_37 : kd 37 = (10, 4) := rfl
theorem kd_38 : kd 38 = (10, 4) := rfl
theorem kd_39 : kd 39 = (10, 4) := rfl
theorem kd_40 : kd 40 = (5, 0) := rfl
theorem kd_41 : kd 41 = (10, 40) := rfl
theorem kd_42 : kd 42 = (5, 0) := rfl
theorem kd_43 : kd 43 = (10, 40) := rfl
theorem kd_44 : kd 44 = (5, 0) := rfl
theorem kd_45 : kd 45 = (10, 40) := rfl
theorem kd_46 : kd 46 = (5, 0) := rfl
theorem kd_47 : kd 47 = (10, 40) := rfl
theorem kd_48 : kd 48 = (7, 0) := rfl
theorem kd_49 : kd 49 = (6, 0) := rfl
theorem kd_50 : kd 50 = (9, 160) := rfl
theorem kd_51 : kd 51 = (10, 4) := rfl
theorem kd_52 : kd 52 = (13, 2) := rfl
theorem kd_53 : kd 53 = (12, 2) := rfl
theorem kd_54 : kd 54 = (1, 0) := rfl
theorem kd_55 : kd 55 = (10, 10) := rfl
theorem kd_56 : kd 56 = (10, 10) := rfl
theorem kd_57 : kd 57 = (3, 0) := rfl
theorem kd_58 : kd 58 = (10, 4) := rfl
theorem kd_59 : kd 59 = (10, 4) := rfl
theorem kd_60 : kd 60 = (10, 10) := rfl
theorem kd_61 : kd 61 = (10, 16) := rfl
theorem kd_62 : kd 62 = (0, 0) := rfl
theorem kd_63 : kd 63 = (11, 16) := rfl
theorem kd_64 : kd 64 = (11, 16) := rfl
theorem kd_65 : kd 65 = (2, 0) := rfl
theorem kd_66 : kd 66 = (10, 4) := rfl
theorem kd_67 : kd 67 = (10, 6) := rfl
theorem kd_68 : kd 68 = (10, 6) := rfl
theorem kd_69 : kd 69 = (15, 5) := rfl
theorem kd_70 : kd 70 = (10, 10) := rfl
theorem kd_71 : kd 71 = (10, 10) := rfl
theorem kd_72 : kd 72 = (10, 10) := rfl
theorem kd_73 : kd 73 = (10, 10) := rfl
theorem kd_74 : kd 74 = (10, 10) := rfl
theorem kd_75 : kd 75 = (15, 4) := rfl
theorem kd_76 : kd 76 = (10, 10) := rfl
theorem kd_77 : kd 77 = (10, 10) := rfl
theorem kd_78 : kd 78 = (10, 10) := rfl
theorem kd_79 : kd 79 = (10, 10) := rfl
theorem kd_80 : kd 80 = (14, 4) := rfl
theorem kd_81 : kd 81 = (8, 0) := rfl
theorem kd_82 : kd 82 = (10, 210) := rfl
theorem kd_83 : kd 83 = (10, 10) := rfl
theorem kd_84 : kd 84 = (10, 4) := rfl
theorem kd_85 : kd 85 = (10, 35) := rfl
theorem kd_86 : kd 86 = (10, 10) := rfl
theorem kd_87 : kd 87 = (10, 4) := rfl
theorem kd_88 : kd 88 = (10, 160) := rfl
theorem kd_89 : kd 89 = (10, 8) := rfl
theorem kd_90 : kd 90 = (10, 33) := rfl
theorem kd_91 : kd 91 = (10, 11) := rfl
theorem kd_92 : kd 92 = (10, 10) := rfl
theorem kd_93 : kd 93 = (10, 11) := rfl
theorem kd_94 : kd 94 = (10, 4) := rfl
theorem kd_95 : kd 95 = (10, 12) := rfl
theorem kd_96 : kd 96 = (12, 2) := rfl
theorem kd_97 : kd 97 = (10, 4) := rfl
theorem kd_98 : kd 98 = (10, 4) := rfl
theorem kd_99 : kd 99 = (10, 160) := rfl
theorem kdH5 {b : Nat} (h : kd b = (4, 0)) : kd (b + 1) = (10, 10) := (show ∀ b, b < 100 → kd b = (4, 0) → kd (b + 1) = (10, 10) by decide +kernel) b (kd_lt h (by decide)) h
theorem rfH5 {b : Nat} (h : kd b = (4, 0)) : rf b 5 = b + 1 := (show ∀ b, b < 100 → kd b = (4, 0) → rf b 5 = b + 1 by decide +kernel) b (kd_lt h (by decide)) h
theorem kdH6 {b : Nat} (h : kd b = (4, 0)) : kd (b + 2) = (10, 10) := (show ∀ b, b < 100 → kd b = (4, 0) → kd (b + 2) = (10, 10) by decide +kernel) b (kd_lt h (by decide)) h
theorem rfH6 {b : Nat} (h : kd b = (4, 0)) : rf b 6 = b + 2 := (show ∀ b, b < 100 → kd b = (4, 0) → rf b 6 = b + 2 by decide +kernel) b (kd_lt h (by decide)) h
theorem kdH7 {b : Nat} (h : kd b = (4, 0)) : kd (b + 3) = (10, 10) := (show ∀ b, b < 100 → kd b = (4, 0) → kd (b + 3) = (10, 10) by decide +kernel) b (kd_lt h (by decide)) h
theorem rfH7 {b : Nat} (h : kd b = (4, 0)) : rf b 7 = b + 3 := (show ∀ b, b < 100 → kd b = (4, 0) → rf b 7 = b + 3 by decide +kernel) b (kd_lt h (by decide)) h
theorem kdH8 {b : Nat} (h : kd b = (4, 0)) : kd (b + 4) = (10, 4) := (show ∀ b, b < 100 → kd b = (4, 0) → kd (b + 4) = (10, 4) by decide +kernel) b (kd_lt h (by decide)) h
theorem rfH8 {b : Nat} (h : kd b = (4, 0)) : rf b 8 = b + 4 := (show ∀ b, b < 100 → kd b = (4, 0) → rf b 8 = b + 4 by decide +kernel) b (kd_lt h (by decide)) h
theorem kdH9 {b : Nat} (h : kd b = (4, 0)) : kd (b + 5) = (10, 4) := (show ∀ b, b < 100 → kd b = (4, 0) → kd (b + 5) = (10, 4) by decide +kernel) b (kd_lt h (by decide)) h
theorem rfH9 {b : Nat} (h : kd b = (4, 0)) : rf b 9 = b + 5 := (show ∀ b, b < 100 → kd b = (4, 0) → rf b 9 = b + 5 by decide +kernel) b (kd_lt h (by decide)) h
theorem kdH10 {b : Nat} (h : kd b = (4, 0)) : kd (b + 6) = (10, 4) := (show ∀ b, b < 100 → kd b = (4, 0) → kd (b + 6) = (10, 4) by decide +kernel) b (kd_lt h (by decide)) h
theorem rfH10 {b : Nat} (h : kd b = (4, 0)) : rf b 10 = b + 6 := (show ∀ b, b < 100 → kd b = (4, 0) → rf b 10 = b + 6 by decide +kernel) b (kd_lt h (by decide)) h
theorem kdH11 {b : Nat} (h : kd b = (4, 0)) : kd (b + 7) = (10, 4) := (show ∀ b, b < 100 → kd b = (4, 0) → kd (b + 7) = (10, 4) by decide +kernel) b (kd_lt h (by decide)) h
theorem rfH11 {b : Nat} (h : kd b = (4, 0)) : rf b 11 = b + 7 := (show ∀ b, b < 100 → kd b = (4, 0) → rf b 11 = b + 7 by decide +kernel) b (kd_lt h (by decide)) h
theorem kdS1 {b : Nat} (h : kd b = (5, 0)) : kd (b + 1) = (10, 40) := (show ∀ b, b < 100 → kd b = (5, 0) → kd (b + 1) = (10, 40) by decide +kernel) b (kd_lt h (by decide)) h
theorem rfS1 {b : Nat} (h : kd b = (5, 0)) : rf b 1 = b + 1 := (show ∀ b, b < 100 → kd b = (5, 0) → rf b 1 = b + 1 by decide +kernel) b (kd_lt h (by decide)) h
theorem kdA52 {i : Int32} (h : vp_in i 2) : kd (rf 52 i.toNatClampNeg) = (4, 0) := (show ∀ j, j < 2 → kd (rf 52 j) = (4, 0) by decide +kernel) _ (Nat.not_le.mp fun z => h (Or.inr z))
theorem kdA80 {i : Int32} (h : vp_in i 4) : kd (rf 80 i.toNatClampNeg) = (5, 0) := (show ∀ j, j < 4 → kd (rf 80 j) = (5, 0) by decide +kernel) _ (Nat.not_le.mp fun z => h (Or.inr z))
theorem kdA69 {i : Int32} (h : vp_in i 5) : kd (rf 69 i.toNatClampNeg) = (10, 10) := (show ∀ j, j < 5 → kd (rf 69 j) = (10, 10) by decide +kernel) _ (Nat.not_le.mp fun z => h (Or.inr z))
theorem kdA75 {i : Int32} (h : vp_in i 4) : kd (rf 75 i.toNatClampNeg) = (10, 10) := (show ∀ j, j < 4 → kd (rf 75 j) = (10, 10) by decide +kernel) _ (Nat.not_le.mp fun z => h (Or.inr z))
end
section
abbrev qJ0_coder_7d493 : mMI := (yJ0_coder_7d493, cJ0_coder_7d493, 1, (some .byte), 0)
theorem dJ0_coder_7d493_0 : decode cJ0_coder_7d493 0 = .ok (.getstatic 38, 3) := by decide +kernel
theorem dJ0_coder_7d493_3 : decode cJ0_coder_7d493 3 = .ok (.ifCond .eq 10, 3) := by decide +kernel
theorem dJ0_coder_7d493_6 : decode cJ0_coder_7d493 6 = .ok (.aload_n 0, 1) := by decide +kernel
theorem dJ0_coder_7d493_7 : decode cJ0_coder_7d493 7 = .ok (.getfield 15, 3) := by decide +kernel
theorem dJ0_coder_7d493_10 : decode cJ0_coder_7d493 10 = .ok (.goto 4, 3) := by decide +kernel
theorem dJ0_coder_7d493_13 : decode cJ0_coder_7d493 13 = .ok (.iconst 1, 1) := by decide +kernel
theorem dJ0_coder_7d493_14 : decode cJ0_coder_7d493 14 = .ok (.ireturn, 1) := by decide +kernel
theorem mkJ0_coder_7d493 : mokV qJ0_coder_7d493 0 := ⟨⟨⟨⟨by decide, by decide, by decide +kernel⟩, by decide⟩, gd_mem 60 (by decide +kernel) (by decide +kernel), gd_mem 401 (by decide +kernel) (by decide +kernel)⟩, gd_mem 399 (by decide +kernel) (by decide +kernel), gd_mem 400 (by decide +kernel) (by decide +kernel)⟩
abbrev qJ0_length_8abf5 : mMI := (yJ0_length_8abf5, cJ0_length_8abf5, 1, (some .int), 1)
theorem dJ0_length_8abf5_0 : decode cJ0_length_8abf5 0 = .ok (.aload_n 0, 1) := by decide +kernel
theorem dJ0_length_8abf5_1 : decode cJ0_length_8abf5 1 = .ok (.getfield 9, 3) := by decide +kernel
theorem dJ0_length_8abf5_4 : decode cJ0_length_8abf5 4 = .ok (.arraylength, 1) := by decide +kernel
theorem dJ0_length_8abf5_5 : decode cJ0_length_8abf5 5 = .ok (.aload_n 0, 1) := by decide +kernel
theorem dJ0_length_8abf5_6 : decode cJ0_length_8abf5 6 = .ok (.invokevirtual 335, 3) := by decide +kernel
theorem dJ0_length_8abf5_9 : decode cJ0_length_8abf5 9 = .ok (.ishr, 1) := by decide +kernel
theorem dJ0_length_8abf5_10 : decode cJ0_length_8abf5 10 = .ok (.ireturn, 1) := by decide +kernel
theorem mkJ0_length_8abf5 : mokV qJ0_length_8abf5 0 := ⟨⟨⟨⟨by decide, by decide, by decide +kernel⟩, by decide⟩, gd_mem 60 (by decide +kernel) (by decide +kernel), gd_mem 397 (by decide +kernel) (by decide +kernel)⟩, gd_mem 395 (by decide +kernel) (by decide +kernel), gd_mem 396 (by decide +kernel) (by decide +kernel)⟩
abbrev qJ0_isLatin1_aae02 : mMI := (yJ0_isLatin1_aae02, cJ0_isLatin1_aae02, 1, (some .boolean), 0)
theorem dJ0_isLatin1_aae02_0 : decode cJ0_isLatin1_aae02 0 = .ok (.getstatic 38, 3) := by decide +kernel
theorem dJ0_isLatin1_aae02_3 : decode cJ0_isLatin1_aae02 3 = .ok (.ifCond .eq 14, 3) := by decide +kernel
theorem dJ0_isLatin1_aae02_6 : decode cJ0_isLatin1_aae02 6 = .ok (.aload_n 0, 1) := by decide +kernel
theorem dJ0_isLatin1_aae02_7 : decode cJ0_isLatin1_aae02 7 = .ok (.getfield 15, 3) := by decide +kernel
theorem dJ0_isLatin1_aae02_10 : decode cJ0_isLatin1_aae02 10 = .ok (.ifCond .ne 7, 3) := by decide +kernel
theorem dJ0_isLatin1_aae02_13 : decode cJ0_isLatin1_aae02 13 = .ok (.iconst 1, 1) := by decide +kernel
theorem dJ0_isLatin1_aae02_14 : decode cJ0_isLatin1_aae02 14 = .ok (.goto 4, 3) := by decide +kernel
theorem dJ0_isLatin1_aae02_17 : decode cJ0_isLatin1_aae02 17 = .ok (.iconst 0, 1) := by decide +kernel
theorem dJ0_isLatin1_aae02_18 : decode cJ0_isLatin1_aae02 18 = .ok (.ireturn, 1) := by decide +kernel
theorem mkJ0_isLatin1_aae02 : mokV qJ0_isLatin1_aae02 0 := ⟨⟨⟨⟨by decide, by decide, by decide +kernel⟩, by decide⟩, gd_mem 60 (by decide +kernel) (by decide +kernel), gd_mem 411 (by decide +kernel) (by decide +kernel)⟩, gd_mem 409 (by decide +kernel) (by decide +kernel), gd_mem 410 (by decide +kernel) (by decide +kernel)⟩
abbrev qJ3_checkIndex_8e157 : mMI := (yJ3_checkIndex_8e157, cJ3_checkIndex_8e157, 3, (some .int), 0)
theorem dJ3_checkIndex_8e157_0 : decode cJ3_checkIndex_8e157 0 = .ok (.iload_n 0, 1) := by decide +kernel
theorem dJ3_checkIndex_8e157_1 : decode cJ3_checkIndex_8e157 1 = .ok (.ifCond .lt 8, 3) := by decide +kernel
theorem dJ3_checkIndex_8e157_4 : decode cJ3_checkIndex_8e157 4 = .ok (.iload_n 0, 1) := by decide +kernel
theorem dJ3_checkIndex_8e157_5 : decode cJ3_checkIndex_8e157 5 = .ok (.iload_n 1, 1) := by decide +kernel
theorem dJ3_checkIndex_8e157_6 : decode cJ3_checkIndex_8e157 6 = .ok (.if_icmp .lt 10, 3) := by decide +kernel
theorem dJ3_checkIndex_8e157_9 : decode cJ3_checkIndex_8e157 9 = .ok (.aload_n 2, 1) := by decide +kernel
theorem dJ3_checkIndex_8e157_10 : decode cJ3_checkIndex_8e157 10 = .ok (.iload_n 0, 1) := by decide +kernel
theorem dJ3_checkIndex_8e157_11 : decode cJ3_checkIndex_8e157 11 = .ok (.iload_n 1, 1) := by decide +kernel
theorem dJ3_checkIndex_8e157_12 : decode cJ3_checkIndex_8e157 12 = .ok (.invokestatic 95, 3) := by decide +kernel
theorem dJ3_checkIndex_8e157_15 : decode cJ3_checkIndex_8e157 15 = .ok (.athrow, 1) := by decide +kernel
theorem dJ3_checkIndex_8e157_16 : decode cJ3_checkIndex_8e157 16 = .ok (.iload_n 0, 1) := by decide +kernel
theorem dJ3_checkIndex_8e157_17 : decode cJ3_checkIndex_8e157 17 = .ok (.ireturn, 1) := by decide +kernel
theorem mkJ3_checkIndex_8e157 : mokS qJ3_checkIndex_8e157 3 := ⟨⟨⟨⟨by decide, by decide, by decide +kernel⟩, by decide⟩, gd_mem 62 (by decide +kernel) (by decide +kernel), gd_mem 422 (by decide +kernel) (by decide +kernel)⟩, gd_mem 421 (by decide +kernel) (by decide +kernel)⟩
abbrev qJ0_checkIndex_df160 : mMI := (yJ0_checkIndex_df160, cJ0_checkIndex_df160, 2, none, 1)
theorem dJ0_checkIndex_df160_0 : decode cJ0_checkIndex_df160 0 = .ok (.iload_n 0, 1) := by decide +kernel
theorem dJ0_checkIndex_df160_1 : decode cJ0_checkIndex_df160 1 = .ok (.iload_n 1, 1) := by decide +kernel
theorem dJ0_checkIndex_df160_2 : decode cJ0_checkIndex_df160 2 = .ok (.getstatic 1053, 3) := by decide +kernel
theorem dJ0_checkIndex_df160_5 : decode cJ0_checkIndex_df160 5 = .ok (.invokestatic 1059, 3) := by decide +kernel
theorem dJ0_checkIndex_df160_8 : decode cJ0_checkIndex_df160 8 = .ok (.pop, 1) := by decide +kernel
theorem dJ0_checkIndex_df160_9 : decode cJ0_checkIndex_df160 9 = .ok (.return_, 1) := by decide +kernel
theorem mkJ0_checkIndex_df160 : mokS qJ0_checkIndex_df160 2 := ⟨⟨⟨⟨by decide, by decide, by decide +kernel⟩, by decide⟩, gd_mem 60 (by decide +kernel) (by decide +kernel), gd_mem 417 (by decide +kernel) (by decide +kernel)⟩, gd_mem 416 (by decide +kernel) (by decide +kernel)⟩
abbrev qJ1_charAt_3b067 : mMI := (yJ1_charAt_3b067, cJ1_charAt_3b067, 2, (some .char), 2)
theorem dJ1_charAt_3b067_0 : decode cJ1_charAt_3b067 0 = .ok (.iload_n 1, 1) := by decide +kernel
theorem dJ1_charAt_3b067_1 : decode cJ1_charAt_3b067 1 = .ok (.aload_n 0, 1) := by decide +kernel
theorem dJ1_charAt_3b067_2 : decode cJ1_charAt_3b067 2 = .ok (.arraylength, 1) := by decide +kernel
theorem dJ1_charAt_3b067_3 : decode cJ1_charAt_3b067 3 = .ok (.invokestatic 9, 3) := by decide +kernel
theorem dJ1_charAt_3b067_6 : decode cJ1_charAt_3b067 6 = .ok (.aload_n 0, 1) := by decide +kernel
theorem dJ1_charAt_3b067_7 : decode cJ1_charAt_3b067 7 = .ok (.iload_n 1, 1) := by decide +kernel
theorem dJ1_charAt_3b067_8 : decode cJ1_charAt_3b067 8 = .ok (.baload, 1) := by decide +kernel
theorem dJ1_charAt_3b067_9 : decode cJ1_charAt_3b067 9 = .ok (.sipush 255, 3) := by decide +kernel
theorem dJ1_charAt_3b067_12 : decode cJ1_charAt_3b067 12 = .ok (.iand, 1) := by decide +kernel
theorem dJ1_charAt_3b067_13 : decode cJ1_charAt_3b067 13 = .ok (.i2c, 1) := by decide +kernel
theorem dJ1_charAt_3b067_14 : decode cJ1_charAt_3b067 14 = .ok (.ireturn, 1) := by decide +kernel
theorem mkJ1_charAt_3b067 : mokS qJ1_charAt_3b067 2 := ⟨⟨⟨⟨by decide, by decide, by decide +kernel⟩, by decide⟩, gd_mem 61 (by decide +kernel) (by decide +kernel), gd_mem 414 (by decide +kernel) (by decide +kernel)⟩, gd_mem 413 (by decide +kernel) (by decide +kernel)⟩
abbrev qJ0_charAt_5068e : mMI := (yJ0_charAt_5068e, cJ0_charAt_5068e, 2, (some .char), 3)
theorem dJ0_charAt_5068e_0 : decode cJ0_charAt_5068e 0 = .ok (.aload_n 0, 1) := by decide +kernel
theorem dJ0_charAt_5068e_1 : decode cJ0_charAt_5068e 1 = .ok (.invokevirtual 492, 3) := by decide +kernel
theorem dJ0_charAt_5068e_4 : decode cJ0_charAt_5068e 4 = .ok (.ifCond .eq 12, 3) := by decide +kernel
theorem dJ0_charAt_5068e_7 : decode cJ0_charAt_5068e 7 = .ok (.aload_n 0, 1) := by decide +kernel
theorem dJ0_charAt_5068e_8 : decode cJ0_charAt_5068e 8 = .ok (.getfield 9, 3) := by decide +kernel
theorem dJ0_charAt_5068e_11 : decode cJ0_charAt_5068e 11 = .ok (.iload_n 1, 1) := by decide +kernel
theorem dJ0_charAt_5068e_12 : decode cJ0_charAt_5068e 12 = .ok (.invokestatic 495, 3) := by decide +kernel
theorem dJ0_charAt_5068e_15 : decode cJ0_charAt_5068e 15 = .ok (.ireturn, 1) := by decide +kernel
theorem dJ0_charAt_5068e_16 : decode cJ0_charAt_5068e 16 = .ok (.aload_n 0, 1) := by decide +kernel
theorem dJ0_charAt_5068e_17 : decode cJ0_charAt_5068e 17 = .ok (.getfield 9, 3) := by decide +kernel
theorem dJ0_charAt_5068e_20 : decode cJ0_charAt_5068e 20 = .ok (.iload_n 1, 1) := by decide +kernel
theorem dJ0_charAt_5068e_21 : decode cJ0_charAt_5068e 21 = .ok (.invokestatic 498, 3) := by decide +kernel
theorem dJ0_charAt_5068e_24 : decode cJ0_charAt_5068e 24 = .ok (.ireturn, 1) := by decide +kernel
theorem mkJ0_charAt_5068e : mokV qJ0_charAt_5068e 1 := ⟨⟨⟨⟨by decide, by decide, by decide +kernel⟩, by decide⟩, gd_mem 60 (by decide +kernel) (by decide +kernel), gd_mem 407 (by decide +kernel) (by decide +kernel)⟩, gd_mem 405 (by decide +kernel) (by decide +kernel), gd_mem 406 (by decide +kernel) (by decide +kernel)⟩
theorem lfJ0_38 : Cond.fieldLink RJ0 38 "java/lang/String" "COMPACT_STRINGS" "Z" ∈ gdL := gd_mem 402 (by decide +kernel) (by decide +kernel)
theorem lfJ0_15 : Cond.fieldLink RJ0 15 "java/lang/String" "coder" "B" ∈ gdL := gd_mem 1318 (by decide +kernel) (by decide +kernel)
theorem lfJ0_9 : Cond.fieldLink RJ0 9 "java/lang/String" "value" "[B" ∈ gdL := gd_mem 1317 (by decide +kernel) (by decide +kernel)
theorem lfJ0_1053 : Cond.fieldLink RJ0 1053 "jdk/internal/util/Preconditions" "SIOOBE_FORMATTER" "Ljava/util/function/BiFunction;" ∈ gdL := gd_mem 418 (by decide +kernel) (by decide +kernel)
theorem lmJ0_335 : Cond.methodLink RJ0 335 yJ0_coder_7d493 ∈ gdL := gd_mem 398 (by decide +kernel) (by decide +kernel)
theorem lmJ0_492 : Cond.methodLink RJ0 492 yJ0_isLatin1_aae02 ∈ gdL := gd_mem 408 (by decide +kernel) (by decide +kernel)
theorem lmJ0_495 : Cond.methodLink RJ0 495 yJ1_charAt_3b067 ∈ gdL := gd_mem 412 (by decide +kernel) (by decide +kernel)
theorem lmJ0_1059 : Cond.methodLink RJ0 1059 yJ3_checkIndex_8e157 ∈ gdL := gd_mem 420 (by decide +kernel) (by decide +kernel)
theorem lmJ1_9 : Cond.methodLink RJ1 9 yJ0_checkIndex_df160 ∈ gdL := gd_mem 415 (by decide +kernel) (by decide +kernel)
theorem bsJ0_coder_7d493 (l : Launch) (r0 : Nat) (m : mMem) (h0 : 100 ≤ r0 ∧ r0 < 107) : BS l qJ0_coder_7d493 [.ref r0] m (some (some (.int 0), m)) := BS_of (by decide) (Nat.le_of_ble_eq_true rfl) (fun X _ => by
    show T qJ0_coder_7d493 X (some (some (.int 0), m)) 0 [(0, .ref r0)] [] m
    refine T_gs zsC lfJ0_38 dJ0_coder_7d493_0 ?_
    rw [show (some (some (Value.int 0), m) : mR) = if (1 : Int32) = 0 then none else some (some (.int 0), m) from (if_neg (by decide)).symm]
    refine T_if_eq 13 dJ0_coder_7d493_3 (by decide) (fun _ => T_none) (fun _ => ?_)
    refine T_aload_n 0 rfl rfl dJ0_coder_7d493_6 ?_
    refine T_gSc h0 lfJ0_15 dJ0_coder_7d493_7 ?_
    refine T_goto 14 dJ0_coder_7d493_10 (by decide) ?_
    exact T_nret rfl rfl dJ0_coder_7d493_14)
def fJ0_length_8abf5 (r0 : Nat) (m : mMem) : mR := some (some (.int (nI (sLen.getD (r0 - 100) 0))), m)
theorem sl_sh : ∀ i, i < 7 → Int32.ofNat (sLen.getD i 0) >>> ((0 : Int32) &&& 31) = nI (sLen.getD i 0) := by decide +kernel
theorem bsJ0_length_8abf5 (l : Launch) (r0 : Nat) (m : mMem) (h0 : 100 ≤ r0 ∧ r0 < 107) : BS l qJ0_length_8abf5 [.ref r0] m (fJ0_length_8abf5 r0 m) := BS_of (by decide) (Nat.le_of_ble_eq_true rfl) (fun X _ => by
    show T qJ0_length_8abf5 X (fJ0_length_8abf5 r0 m) 0 [(0, .ref r0)] [] m
    refine T_aload_n 0 rfl rfl dJ0_length_8abf5_0 ?_
    refine T_gSv h0 lfJ0_9 dJ0_length_8abf5_1 ?_
    refine T_Slen h0 dJ0_length_8abf5_4 ?_
    refine T_aload_n 0 rfl rfl dJ0_length_8abf5_5 ?_
    refine T_callVS (v2 := some (.int 0)) [] [.int (Int32.ofNat (sLen.getD (r0 - 100) 0))] mkJ0_coder_7d493 lmJ0_335 h0 rfl rfl (by decide) (Nat.le_of_ble_eq_true rfl) dJ0_length_8abf5_6 (bsJ0_coder_7d493 _ r0 m h0) ?_
    refine T_ishr (x := Int32.ofNat (sLen.getD (r0 - 100) 0)) (y := 0) (st := []) dJ0_length_8abf5_9 ?_
    unfold fJ0_length_8abf5
    rw [← sl_sh (r0 - 100) (by omega)]
    exact T_iret rfl dJ0_length_8abf5_10)
theorem bsJ0_isLatin1_aae02 (l : Launch) (r0 : Nat) (m : mMem) (h0 : 100 ≤ r0 ∧ r0 < 107) : BS l qJ0_isLatin1_aae02 [.ref r0] m (some (some (.int 1), m)) := BS_of (by decide) (Nat.le_of_ble_eq_true rfl) (fun X _ => by
    show T qJ0_isLatin1_aae02 X (some (some (.int 1), m)) 0 [(0, .ref r0)] [] m
    refine T_gs zsC lfJ0_38 dJ0_isLatin1_aae02_0 ?_
    rw [show (some (some (Value.int 1), m) : mR) = if (1 : Int32) = 0 then none else some (some (.int 1), m) from (if_neg (by decide)).symm]
    refine T_if_eq 17 dJ0_isLatin1_aae02_3 (by decide) (fun _ => T_none) (fun _ => ?_)
    refine T_aload_n 0 rfl rfl dJ0_isLatin1_aae02_6 ?_
    refine T_gSc h0 lfJ0_15 dJ0_isLatin1_aae02_7 ?_
    rw [show (some (some (Value.int 1), m) : mR) = if (0 : Int32) = 0 then some (some (.int 1), m) else none from (if_pos rfl).symm]
    refine T_if_ne 17 dJ0_isLatin1_aae02_10 (by decide) (fun _ => ?_) (fun _ => T_none)
    refine T_iconst (1 : Int32) (by decide) dJ0_isLatin1_aae02_13 ?_
    refine T_goto 18 dJ0_isLatin1_aae02_14 (by decide) ?_
    exact T_nret rfl rfl dJ0_isLatin1_aae02_18)
theorem bsJ3_checkIndex_8e157 (l : Launch) (x n : Int32) (v : Value) (hv : v.category = 1) (m : mMem) (h1 : ¬ x < 0) (h2 : x < n) : BS l qJ3_checkIndex_8e157 [.int x, .int n, v] m (some (some (.int x), m)) := BS_of (by decide) (by cases v <;> first | exact Nat.le_of_ble_eq_true rfl | (simp [Value.category] at hv)) (fun X _ => by
    show T qJ3_checkIndex_8e157 X (some (some (.int x), m)) 0 [(0, .int x), (1, .int n), (2, v)] [] m
    refine T_iload_n 0 rfl rfl dJ3_checkIndex_8e157_0 ?_
    rw [show (some (some (Value.int x), m) : mR) = if x < 0 then none else some (some (.int x), m) from (if_neg h1).symm]
    refine T_if_lt 9 dJ3_checkIndex_8e157_1 (by decide) (fun _ => T_none) (fun _ => ?_)
    refine T_iload_n 0 rfl rfl dJ3_checkIndex_8e157_4 ?_
    refine T_iload_n 1 rfl rfl dJ3_checkIndex_8e157_5 ?_
    rw [show (some (some (Value.int x), m) : mR) = if x < n then some (some (.int x), m) else none from (if_pos h2).symm]
    refine T_icmp_lt 16 dJ3_checkIndex_8e157_6 (by decide) (fun _ => ?_) (fun _ => T_none)
    refine T_iload_n 0 rfl rfl dJ3_checkIndex_8e157_16 ?_
    exact T_iret rfl dJ3_checkIndex_8e157_17)
theorem bsJ0_checkIndex_df160 (l : Launch) (x n : Int32) (m : mMem) (h1 : ¬ x < 0) (h2 : x < n) : BS l qJ0_checkIndex_df160 [.int x, .int n] m (some (none, m)) := BS_of (by decide) (Nat.le_of_ble_eq_true rfl) (fun X _ => by
    show T qJ0_checkIndex_df160 X (some (none, m)) 0 [(0, .int x), (1, .int n)] [] m
    refine T_iload_n 0 rfl rfl dJ0_checkIndex_df160_0 ?_
    refine T_iload_n 1 rfl rfl dJ0_checkIndex_df160_1 ?_
    refine T_gsQ lfJ0_1053 dJ0_checkIndex_df160_2 ?_ ?_
    · refine T_callS (v2 := some (.int x)) [.int x, .int n, .null] [] mkJ3_checkIndex_8e157 lmJ0_1059 rfl (by decide) (Nat.le_of_ble_eq_true rfl) dJ0_checkIndex_df160_5 (bsJ3_checkIndex_8e157 _ x n .null rfl m h1 h2) ?_
      refine T_pop (x := .int x) (st := []) rfl dJ0_checkIndex_df160_8 ?_
      exact T_vret rfl dJ0_checkIndex_df160_9
    · refine T_callS (v2 := some (.int x)) [.int x, .int n, .ref 117] [] mkJ3_checkIndex_8e157 lmJ0_1059 rfl (by decide) (Nat.le_of_ble_eq_true rfl) dJ0_checkIndex_df160_5 (bsJ3_checkIndex_8e157 _ x n (.ref 117) rfl m h1 h2) ?_
      refine T_pop (x := .int x) (st := []) rfl dJ0_checkIndex_df160_8 ?_
      exact T_vret rfl dJ0_checkIndex_df160_9)
def fJ0_charAt_5068e (r0 : Nat) (x1 : Int32) (m : mMem) : mR := ga x1 (sLen.getD (r0 - 100) 0) (some (some (.int ((sByt.getD (r0 - 100) []).getD x1.toNatClampNeg 0)), m))
theorem sb_ch : ∀ i, i < 7 → ∀ k, k < 8 → ((((sByt.getD i []).getD k 0) &&& 255).toUInt32 % 65536).toInt32 = (sByt.getD i []).getD k 0 ∧ narrow .char (.int ((sByt.getD i []).getD k 0)) = .int ((sByt.getD i []).getD k 0) := by decide +kernel
theorem sl_8 : ∀ i, i < 7 → sLen.getD i 0 ≤ 8 := by decide +kernel
theorem vp_lt {x : Int32} {n : Nat} (h : vp_in x n) (hn : n ≤ 8) : ¬ x < 0 ∧ x < Int32.ofNat n ∧ x.toNatClampNeg < n := by
  obtain ⟨j, hj, rfl⟩ := vp_in_of h (by omega)
  exact ⟨nI_pos (by omega), nI_lt hj (by omega), by rw [nI_clamp (by omega)]; exact hj⟩
theorem bsJ1_charAt_3b067 (l : Launch) (r0 : Nat) (x1 : Int32) (m : mMem) (h0 : 100 ≤ r0 ∧ r0 < 107) (hx : vp_in x1 (sLen.getD (r0 - 100) 0)) : BS l qJ1_charAt_3b067 [.ref (r0 + 7), .int x1] m (some (some (.int ((sByt.getD (r0 - 100) []).getD x1.toNatClampNeg 0)), m)) := BS_of (by decide) (Nat.le_of_ble_eq_true rfl) (fun X _ => by
    obtain ⟨hx1, hx2, hx3⟩ := vp_lt hx (sl_8 _ (by omega))
    obtain ⟨e1, e2⟩ := sb_ch (r0 - 100) (by omega) x1.toNatClampNeg (by have := sl_8 (r0 - 100) (by omega); omega)
    show T qJ1_charAt_3b067 X _ 0 [(0, .ref (r0 + 7)), (1, .int x1)] [] m
    refine T_iload_n 1 rfl rfl dJ1_charAt_3b067_0 ?_
    refine T_aload_n 0 rfl rfl dJ1_charAt_3b067_1 ?_
    refine T_Slen h0 dJ1_charAt_3b067_2 ?_
    refine T_callS (v2 := none) [.int x1, .int (Int32.ofNat (sLen.getD (r0 - 100) 0))] [] mkJ0_checkIndex_df160 lmJ1_9 rfl (by decide) (Nat.le_of_ble_eq_true rfl) dJ1_charAt_3b067_3 (bsJ0_checkIndex_df160 _ _ _ m hx1 hx2) ?_
    refine T_aload_n (st := []) 0 rfl rfl dJ1_charAt_3b067_6 ?_
    refine T_iload_n 1 rfl rfl dJ1_charAt_3b067_7 ?_
    refine T_Sbald h0 hx dJ1_charAt_3b067_8 ?_
    refine T_sipush (255 : Int32) (by decide) dJ1_charAt_3b067_9 ?_
    refine T_iand dJ1_charAt_3b067_12 ?_
    refine T_i2c dJ1_charAt_3b067_13 ?_
    rw [e1]
    exact T_nret e2 rfl dJ1_charAt_3b067_14)
theorem bsJ0_charAt_5068e (l : Launch) (r0 : Nat) (x1 : Int32) (m : mMem) (h0 : 100 ≤ r0 ∧ r0 < 107) : BS l qJ0_charAt_5068e [.ref r0, .int x1] m (fJ0_charAt_5068e r0 x1 m) := BS_of (by decide) (Nat.le_of_ble_eq_true rfl) (fun X _ => by
    show T qJ0_charAt_5068e X (fJ0_charAt_5068e r0 x1 m) 0 [(0, .ref r0), (1, .int x1)] [] m
    unfold fJ0_charAt_5068e
    refine T_gg (fun hx => ?_)
    obtain ⟨hx1, hx2, hx3⟩ := vp_lt hx (sl_8 _ (by omega))
    obtain ⟨e1, e2⟩ := sb_ch (r0 - 100) (by omega) x1.toNatClampNeg (by have := sl_8 (r0 - 100) (by omega); omega)
    refine T_aload_n 0 rfl rfl dJ0_charAt_5068e_0 ?_
    refine T_callVS (v2 := some (.int 1)) [] [] mkJ0_isLatin1_aae02 lmJ0_492 h0 rfl rfl (by decide) (Nat.le_of_ble_eq_true rfl) dJ0_charAt_5068e_1 (bsJ0_isLatin1_aae02 _ r0 m h0) ?_
    generalize hz : (some (some (Value.int ((sByt.getD (r0 - 100) []).getD x1.toNatClampNeg 0)), m) : mR) = z
    rw [show z = if (1 : Int32) = 0 then none else z from (if_neg (by decide)).symm]
    refine T_if_eq (x := 1) (st := []) 16 dJ0_charAt_5068e_4 (by decide) (fun _ => T_none) (fun _ => ?_)
    subst hz
    refine T_aload_n 0 rfl rfl dJ0_charAt_5068e_7 ?_
    refine T_gSv h0 lfJ0_9 dJ0_charAt_5068e_8 ?_
    refine T_iload_n 1 rfl rfl dJ0_charAt_5068e_11 ?_
    refine T_callS (v2 := some (.int ((sByt.getD (r0 - 100) []).getD x1.toNatClampNeg 0))) [.ref (r0 + 7), .int x1] [] mkJ1_charAt_3b067 lmJ0_495 rfl (by decide) (Nat.le_of_ble_eq_true rfl) dJ0_charAt_5068e_12 (bsJ1_charAt_3b067 _ r0 x1 m h0 hx) ?_
    exact T_nret e2 rfl dJ0_charAt_5068e_15)
end
section
def va_AOA (t : FieldType) (U : State) : Prop := (Cond.arrayOver (.array t)).before #[] U = true
theorem va_AOA.use {C : FieldType} {A : Array Value} {U : State} (h : va_AOA C U) : (Cond.arrayOver (.array C)).before A U = true := h
/-! ===== BEGIN new T[n][m]: the outer array a place, the inner ones among the pooled ===== -/
/-- f, but v at every address of l -/
def vr_up {α : Type} (f : Nat → α) (l : List Nat) (v : α) : Nat → α := fun a => if a ∈ l then v else f a
theorem vr_up_in {α : Type} {f : Nat → α} {l : List Nat} {v : α} {a : Nat} (h : a ∈ l) : vr_up f l v a = v := if_pos h
theorem vr_up_ne {α : Type} {f : Nat → α} {l : List Nat} {v : α} {a : Nat} (h : a ∉ l) : vr_up f l v a = f a := if_neg h
theorem vr_rows {L l : List Nat} {f : Nat → va_E} {e : va_E} (h : ∀ a, a ∈ l → a ∉ L) : va_pl L f ++ l.map (fun a => (a, e)) = va_pl (L ++ l) (vr_up f l e) := by
  unfold va_pl
  rw [List.map_append]
  congr 1
  · apply List.map_congr_left
    intro a ha
    rw [vr_up_ne (fun q => h a q ha)]
  · apply List.map_congr_left
    intro a ha
    rw [vr_up_in ha]
theorem vr_lay {X rows : va_W} {x : Nat × va_E} {pl : va_W} {D : va_G} {cl : List vw_C} {H : Heap} (hP : va_P D cl (((X ++ pl) ++ [x]) ++ rows) H) : va_P D cl ((X ++ [x]) ++ (pl ++ rows)) H := by
  rw [List.append_assoc (X ++ pl)] at hP
  have h := va_P.swap hP
  rw [← List.append_assoc X] at h
  have h2 := va_P.swap h
  rw [List.append_assoc (X ++ [x])] at h2
  exact h2
theorem vr_layD {X rows : va_W} {x : Nat × va_E} {pl : va_W} {A : Nat → Prop} (hD : va_D A (((X ++ pl) ++ [x]) ++ rows)) : va_D A ((X ++ [x]) ++ (pl ++ rows)) := by
  rw [List.append_assoc (X ++ pl)] at hD
  have h := va_D.swap hD
  rw [← List.append_assoc X] at h
  have h2 := va_D.swap h
  rw [List.append_assoc (X ++ [x])] at h2
  exact h2
theorem vr_outer (c : ClassId) (N h0 : Nat) : ∀ i : Nat, Jvm.Free.Multi.outerC c N h0 i = arrV c N (fun j => va_rf (if j < i then some (h0 + 1 + j) else none))
  | 0 => by
    show ({ cls := c, slots := Array.replicate N .null, vm := .none } : Cell) = _
    rw [arrV_new]
    refine congrArg (arrV c N) (funext fun j => ?_)
    simp [va_rf]
  | i + 1 => by
    show (Jvm.Free.Multi.outerC c N h0 i).setSlot i (.ref (h0 + 1 + i)) = _
    rw [vr_outer c N h0 i, arrV_store]
    refine congrArg (arrV c N) (funext fun j => ?_)
    by_cases e : j = i
    · subst e
      simp [updV, va_rf]
    · by_cases h : j < i
      · simp [updV, e, h, Nat.lt_succ_of_lt h]
      · simp [updV, e, h, show ¬ j < i + 1 by omega]
section VGM
variable {p : Program} {l : Launch} {e : Env} {R : Room} {s : State} {m : MethodId} {args : Array Value} {below : List Frame} {meth : Method} {c : Code} {H : Heap} {locs : List Loc} {cells slots : Nat} {Q : State → Prop}
variable {cc : ByteArray} {pc : Nat} {ls : Array Slot} {rest : List Value} {D : va_G} {cl : List vw_C} {A : Nat → Prop} {a : Nat} {tys : List (ClassId × FieldType)} {ws : va_W} {H0 : Heap}
theorem va_mna {X : va_W} {L : List Nat} {f : Nat → va_E} {cc : ByteArray} (hexec : p.tables.exec = Jvm.exec) (hb : c.code = cc) {own : String} {index : Nat} {ty : FieldType} {cy : ClassId} (hown : s.vm.findClass own = some m.cls) (hclink : (Cond.classLink own index ("[" ++ (FieldType.array ty).toString)).before args s = true) (hover : va_AOA ty s) (harr : (Cond.arrayClass ty).before args s = true) (hcy : s.vm.findClass (FieldType.array ty).toString = some cy)
    (hK : va_K D cl tys s) (hP : va_P D cl (X ++ va_pl L f) H) (hD : va_D A (X ++ va_pl L f)) (hS : va_S A H0 H locs) (hA : ∀ q, H0.size ≤ q → A q) {n k : Int32} {N' K' : Nat} {z : vp_A} (hn : ¬ n < 0) (hk : ¬ k < 0) (hN : n.toNatClampNeg = N') (hM : k.toNatClampNeg = K')
    (hb1 : N' * 4 ≤ 536870912) (hb2 : K' * componentBytes ty ≤ 536870912) (hb3 : K' ≤ 536870912) (hdf : fits ty (defaultValue ty) = true) (hdd : (defaultValue ty).isDefault = true) (hcells : cells + (1 + N') ≤ R.cells) (hslots : slots + (N' + N' * K') ≤ R.slots) (hz : ∀ c : ClassId, Jvm.Free.Multi.innerC c K' (defaultValue ty) = vp_cell c z) (hdg : decode cc pc = .ok (.multianewarray index 2, 4))
    (kk : ∀ (q : Nat) (r : Nat → Nat) (cA : ClassId) (H1 : Heap), (∀ i j : Nat, i < N' → j < N' → r i = r j → i = j) → (∀ i : Nat, i < N' → r i ∉ L) → va_K D cl (tys ++ [(cA, .array ty)]) s →
      va_P D cl ((X ++ [(q, .inl (cA, N', .inr (.inr (.inr (.inr (fun i => if i < N' then some (r i) else none))))))]) ++ va_pl (L ++ (List.range N').map r) (vr_up f ((List.range N').map r) (.inl (cy, z)))) H1 → va_D A ((X ++ [(q, .inl (cA, N', .inr (.inr (.inr (.inr (fun i => if i < N' then some (r i) else none))))))]) ++ va_pl (L ++ (List.range N').map r) (vr_up f ((List.range N').map r) (.inl (cy, z)))) → va_S A H0 H1 locs →
      W p l e R s m args below meth c H1 locs (cells + 1 + N') (slots + N' + N' * K') Q (F0 m (pc + 4) ls (.ref q :: rest))) : W p l e R s m args below meth c H locs cells slots Q (F0 m pc ls (.int k :: .int n :: rest)) := by
  subst hN
  subst hM
  intro T hT Xs
  obtain ⟨vm₁, cA, comp, -, fA, fC, hO, -, X', step⟩ := Xs.multianewarray2F hexec hown hclink (va_AOA.use hover) harr (g := F0 m pc ls (.int k :: .int n :: rest)) rfl (by rw [hb]; exact hdg) rfl hn hk hb1 hb2 hb3 hdf hdd hcells hslots
  have ec : some cy = some comp := hcy.symm.trans fC
  cases ec
  generalize hF : Jvm.Free.Multi.fill (T.setVm vm₁) cA cy n.toNatClampNeg k.toNatClampNeg (defaultValue ty) n.toNatClampNeg = F at X' step
  have hTh : (T.setVm vm₁).heap = H := hT
  obtain ⟨f1, f2, -, -⟩ := Jvm.Free.Multi.fill_facts (T.setVm vm₁) cA cy n.toNatClampNeg k.toNatClampNeg (defaultValue ty) n.toNatClampNeg
  rw [hF, hTh] at f1 f2
  have hold : ∀ x : Nat, x < H.size → F.heap[x]? = H[x]? := fun x hx => by
    have := Jvm.Free.Multi.fill_old (T.setVm vm₁) cA cy n.toNatClampNeg k.toNatClampNeg (defaultValue ty) (a := x) (by rw [hTh]; exact hx) n.toNatClampNeg
    rw [hF, hTh] at this
    exact this
  have hrow : ∀ j : Nat, j < n.toNatClampNeg → F.heap[H.size + 1 + j]? = some (vp_cell cy z) := fun j hj => by
    have := Jvm.Free.Multi.fill_inner (T.setVm vm₁) cA cy n.toNatClampNeg k.toNatClampNeg (defaultValue ty) n.toNatClampNeg j hj
    rw [hF, hTh, hz] at this
    exact this
  have hout : Jvm.Free.Multi.outerC cA n.toNatClampNeg H.size n.toNatClampNeg = vp_cell cA (n.toNatClampNeg, .inr (.inr (.inr (.inr (fun i => if i < n.toNatClampNeg then some (H.size + 1 + i) else none))))) := by
    rw [vp_cell_q]
    exact vr_outer cA n.toNatClampNeg H.size n.toNatClampNeg
  rw [hout] at f2
  have hlt : ∀ a, a ∈ L → a < H.size := fun a ha => by
    obtain ⟨k9, hk9⟩ := va_pl_get (X := X) (f := f) ha
    exact (hP k9 _ hk9).lt
  have hnl : ∀ i : Nat, i < n.toNatClampNeg → H.size + 1 + i ∉ L := fun i _ h => by
    have := hlt _ h
    omega
  have hnm : ∀ a, a ∈ (List.range n.toNatClampNeg).map (fun i => H.size + 1 + i) → a ∉ L := fun a ha h => by
    obtain ⟨i, -, rfl⟩ := List.mem_map.mp ha
    have := hlt _ h
    omega
  have hP0 : va_P D cl (X ++ va_pl L f) F.heap := hP.kept (fun k9 x hx => hold x.1 ((hP k9 x hx).lt))
  have hP1 : va_P D cl ((X ++ va_pl L f) ++ [(H.size, .inl (cA, n.toNatClampNeg, .inr (.inr (.inr (.inr (fun i => if i < n.toNatClampNeg then some (H.size + 1 + i) else none))))))]) F.heap := hP0.app (fun k9 x hx => by
    have h0 : k9 < 1 := (List.getElem?_eq_some_iff.mp hx).1
    rw [show k9 = 0 by omega] at hx
    cases hx
    exact f2)
  have hP2 : va_P D cl (((X ++ va_pl L f) ++ [(H.size, .inl (cA, n.toNatClampNeg, .inr (.inr (.inr (.inr (fun i => if i < n.toNatClampNeg then some (H.size + 1 + i) else none))))))]) ++ ((List.range n.toNatClampNeg).map (fun i => H.size + 1 + i)).map (fun a => (a, .inl (cy, z)))) F.heap := hP1.app (fun k9 x hx => by
    obtain ⟨a, ha, rfl⟩ := List.mem_map.mp (List.mem_of_getElem? hx)
    obtain ⟨i, hi, rfl⟩ := List.mem_map.mp ha
    exact hrow i (List.mem_range.mp hi))
  have hD2 : va_D A (((X ++ va_pl L f) ++ [(H.size, .inl (cA, n.toNatClampNeg, .inr (.inr (.inr (.inr (fun i => if i < n.toNatClampNeg then some (H.size + 1 + i) else none))))))]) ++ ((List.range n.toNatClampNeg).map (fun i => H.size + 1 + i)).map (fun a => (a, .inl (cy, z)))) := by
    have hD1 := hD.push (e := .inl (cA, n.toNatClampNeg, .inr (.inr (.inr (.inr (fun i => if i < n.toNatClampNeg then some (H.size + 1 + i) else none)))))) hP rfl (hA _ hS.1)
    generalize hW1 : (X ++ va_pl L f) ++ [(H.size, .inl (cA, n.toNatClampNeg, .inr (.inr (.inr (.inr (fun i => if i < n.toNatClampNeg then some (H.size + 1 + i) else none))))))] = W1 at hD1 hP1 ⊢
    have hle : ∀ (k9 : Nat) (x : Nat × va_E), W1[k9]? = some x → x.1 ≤ H.size := fun k9 x hx => by
      rw [← hW1] at hx
      by_cases hl : k9 < (X ++ va_pl L f).length
      · rw [List.getElem?_append_left hl] at hx
        exact Nat.le_of_lt ((hP k9 x hx).lt)
      · rw [List.getElem?_append_right (by omega)] at hx
        have h0 : k9 - (X ++ va_pl L f).length < 1 := (List.getElem?_eq_some_iff.mp hx).1
        rw [show k9 - (X ++ va_pl L f).length = 0 by omega] at hx
        cases hx
        exact Nat.le_refl _
    have hr : ∀ (k9 : Nat) (x : Nat × va_E), (((List.range n.toNatClampNeg).map (fun i => H.size + 1 + i)).map (fun a => ((a, .inl (cy, z)) : Nat × va_E)))[k9]? = some x → x.1 = H.size + 1 + k9 := fun k9 x hx => by
      rw [List.getElem?_map, List.getElem?_map] at hx
      by_cases h9 : k9 < n.toNatClampNeg
      · rw [List.getElem?_range h9] at hx
        cases hx
        rfl
      · have hn0 : (List.range n.toNatClampNeg)[k9]? = none := List.getElem?_eq_none (by rw [List.length_range]; omega)
        rw [hn0] at hx
        cases hx
    refine ⟨fun i j x y hi hj hxy => ?_, fun k9 x hx => ?_⟩
    · by_cases h1 : i < W1.length <;> by_cases h2 : j < W1.length
      · rw [List.getElem?_append_left h1] at hi
        rw [List.getElem?_append_left h2] at hj
        exact hD1.1 i j x y hi hj hxy
      · rw [List.getElem?_append_left h1] at hi
        rw [List.getElem?_append_right (by omega)] at hj
        have := hle _ _ hi
        have := hr _ _ hj
        omega
      · rw [List.getElem?_append_right (by omega)] at hi
        rw [List.getElem?_append_left h2] at hj
        have := hle _ _ hj
        have := hr _ _ hi
        omega
      · rw [List.getElem?_append_right (by omega)] at hi hj
        have := hr _ _ hi
        have := hr _ _ hj
        omega
    · by_cases h1 : k9 < W1.length
      · rw [List.getElem?_append_left h1] at hx
        exact hD1.2 k9 x hx
      · rw [List.getElem?_append_right (by omega)] at hx
        have := hr _ _ hx
        exact hA _ (by have := hS.1; omega)
  have hAr : ArrOfT s cA (.array ty) := fun N9 z9 => by
    obtain ⟨-, k9, hk9, cm9, hkk9⟩ := (hO 0 0 0).1
    exact ⟨(fun q hq => by cases hq), k9, hk9, cm9, hkk9⟩
  have hK2 : va_K D cl (tys ++ [(cA, .array ty)]) s := ⟨hK.1, fun k9 x hx => by
    by_cases hl : k9 < tys.length
    · rw [List.getElem?_append_left hl] at hx
      exact hK.2 k9 x hx
    · rw [List.getElem?_append_right (by omega)] at hx
      have h0 : k9 - tys.length < 1 := (List.getElem?_eq_some_iff.mp hx).1
      rw [show k9 - tys.length = 0 by omega] at hx
      cases hx
      exact ⟨hAr, fA⟩⟩
  obtain ⟨t, a1, b1⟩ := kk H.size (fun i => H.size + 1 + i) cA F.heap (fun i j _ _ h => by have h9 : H.size + 1 + i = H.size + 1 + j := h; omega) hnl hK2 (by rw [← vr_rows hnm]; exact vr_lay hP2) (by rw [← vr_rows hnm]; exact vr_layD hD2) ⟨by rw [f1]; have := hS.1; omega, fun x h1 h2 => (hold x (Nat.lt_of_lt_of_le h1 hS.1)).trans (hS.2.1 x h1 h2), hS.2.2⟩ F rfl X'
  refine ⟨t, step t ?_, b1⟩
  have e : T.heap.size = H.size := by rw [hT]
  rw [e]
  exact a1
end VGM
/-! ===== END ===== -/
def nestL : List (String × Nat × MethodName) := [(RX7, 9, yX6_init), (RX7, 18, yX4_init), (RX7, 36, yX1_init), (RX7, 43, yX3_init), (RX7, 50, yX0_init), (RX7, 57, yX2_init), (RX2, 27, yX4_init), (RX7, 72, yX5_init)]
def NC (U : State) : Prop := va_AO RX4 U ∧ va_AO RX5 U ∧ va_AOA .int U ∧ ∀ q ∈ nestL, va_Nw (.methodLinkNest q.1 q.2.1 q.2.2 "RankStairs") U
theorem va_AOA_moved {t : FieldType} {u U : State} (hvm : u.vm.Alike U.vm) (h : va_AOA t u) : va_AOA t U := Jvm.Stand.arrayOver_alikeB hvm h
theorem NC.same {s U : State} (hv : U.vm = s.vm) (h : NC s) : NC U := by
  have ha : s.vm.Alike U.vm := by rw [hv]; exact Vm.Alike.refl _
  exact ⟨va_AO.moved ha h.1, va_AO.moved ha h.2.1, va_AOA_moved ha h.2.2.1, fun q hq => va_Nw.same rfl hv.symm (h.2.2.2 q hq)⟩
theorem NC.warm {s U : State} (hW : s.WarmedH U.vm) (h : NC s) : NC U := ⟨va_AO.moved hW.alike h.1, va_AO.moved hW.alike h.2.1, va_AOA_moved hW.alike h.2.2.1, fun q hq => va_Nw.warmM hW (h.2.2.2 q hq)⟩
def GoodC (q : mMI) (X : mCx) : Prop :=
  (xp X).tables.exec = Jvm.exec ∧ (xc X).code = q.2.1 ∧ (xc X).maxLocals = q.2.2.1 ∧ (xM X).sig.returnType = q.2.2.2.1 ∧ (xM X).locks = false ∧ (xs X).vm.findClass q.1.cls = some (xm X).cls ∧ (∀ w ∈ gdL, w.before (xa X) (xs X) = true) ∧ va_K (xD X) vwCl (tysOf (xcA X)) (xs X) ∧ (∀ z, (xs X).heap.size ≤ z → xA X z) ∧ (xM X).name = "<init>" ∧ NC (xs X)
def TC (q : mMI) (X : mCx) (R : Room) (Q : State → Prop) (pc : Nat) (lv : List (Nat × Value)) (st : List Value) (w : va_W) (cells slots : Nat) : Prop :=
  GoodC q X → ∀ (H : Heap) (locs : List Loc) (ls : Array Slot), va_P (xD X) vwCl w H → va_D (xA X) w → va_S (xA X) (xs X).heap H locs → lv_has ls q.2.2.1 lv →
    W (xp X) (xl X) (xe X) R (xs X) (xm X) (xa X) (xb X) (xM X) (xc X) H locs cells slots Q (F0 (xm X) pc ls st)
def rmC (d mc ms : Nat) : Room := { frames := d, cells := mc, slots := ms, locals := 100 * d }
def lf (L : List Int32) : Nat → Int32 := fun j => L.getD j 0
theorem TC_w {q : mMI} {X : mCx} {R : Room} {Q : State → Prop} {pc : Nat} {lv : List (Nat × Value)} {st : List Value} {w : va_W} {cells slots : Nat} {w' : va_W} (hw : w = w') (h : TC q X R Q pc lv st w' cells slots) : TC q X R Q pc lv st w cells slots := hw ▸ h
theorem TC_n {q : mMI} {X : mCx} {R : Room} {Q : State → Prop} {pc : Nat} {lv : List (Nat × Value)} {st : List Value} {w : va_W} {cells slots : Nat} {c2 s2 : Nat} (hc : cells = c2) (hs : slots = s2) (h : TC q X R Q pc lv st w c2 s2) : TC q X R Q pc lv st w cells slots := by subst hc; subst hs; exact h
theorem TC_aload_n {q : mMI} {X : mCx} {R : Room} {Q : State → Prop} {pc : Nat} {lv : List (Nat × Value)} {st : List Value} {w : va_W} {cells slots : Nat} {f : Fin 4} {i x : Nat} (k : Nat) (hi : (f : Nat) = i) (hk : lv[k]? = some (i, .ref x)) (hd : decode q.2.1 pc = .ok (.aload_n f, 1)) (h : TC q X R Q (pc + 1) lv (.ref x :: st) w cells slots) : TC q X R Q pc lv st w cells slots := fun hG H locs ls hP hD hS hl => lv_aload_n hG.1 hG.2.1 hd hi (lv_at hl k hk) (h hG H locs ls hP hD hS hl)
theorem TC_iload_n {q : mMI} {X : mCx} {R : Room} {Q : State → Prop} {pc : Nat} {lv : List (Nat × Value)} {st : List Value} {w : va_W} {cells slots : Nat} {f : Fin 4} {i : Nat} {x : Int32} (k : Nat) (hi : (f : Nat) = i) (hk : lv[k]? = some (i, .int x)) (hd : decode q.2.1 pc = .ok (.iload_n f, 1)) (h : TC q X R Q (pc + 1) lv (.int x :: st) w cells slots) : TC q X R Q pc lv st w cells slots := fun hG H locs ls hP hD hS hl => lv_iload_n hG.1 hG.2.1 hd hi (lv_at hl k hk) (h hG H locs ls hP hD hS hl)
theorem TC_istore_n {q : mMI} {X : mCx} {R : Room} {Q : State → Prop} {pc : Nat} {lv : List (Nat × Value)} {st : List Value} {w : va_W} {cells slots : Nat} {lv' : List (Nat × Value)} {f : Fin 4} {i : Nat} {x : Int32} (hi : (f : Nat) = i) (hn : i < q.2.2.1) (hv : (i, Value.int x) :: lv.filter (fun q => !(q.1 == i) && !(q.1 + 1 == i && q.2.category == 2)) = lv') (hd : decode q.2.1 pc = .ok (.istore_n f, 1)) (h : TC q X R Q (pc + 1) lv' st w cells slots) : TC q X R Q pc lv (.int x :: st) w cells slots := fun hG H locs ls hP hD hS hl => lv_istore_n hG.1 hG.2.1 hd hi hl hn hv (fun ls' hl' => h hG H locs ls' hP hD hS hl')
theorem TC_iinc {q : mMI} {X : mCx} {R : Room} {Q : State → Prop} {pc : Nat} {lv : List (Nat × Value)} {st : List Value} {w : va_W} {cells slots : Nat} {lv' : List (Nat × Value)} {i : Nat} {n : Int} {x : Int32} (k : Nat) (z : Int32) (hk : lv[k]? = some (i, .int x)) (hz : x + Int32.ofInt n = z) (hn : i < q.2.2.1) (hv : (i, Value.int z) :: lv.filter (fun q => !(q.1 == i) && !(q.1 + 1 == i && q.2.category == 2)) = lv') (hd : decode q.2.1 pc = .ok (.iinc i n, 3)) (h : TC q X R Q (pc + 3) lv' st w cells slots) : TC q X R Q pc lv st w cells slots := fun hG H locs ls hP hD hS hl => lv_iinc hG.1 hG.2.1 hd hl hk hz hn hv (fun ls' hl' => h hG H locs ls' hP hD hS hl')
theorem TC_dup {q : mMI} {X : mCx} {R : Room} {Q : State → Prop} {pc : Nat} {lv : List (Nat × Value)} {st : List Value} {w : va_W} {cells slots : Nat} {x : Value} (hc : x.category = 1) (hd : decode q.2.1 pc = .ok (.dup, 1)) (h : TC q X R Q (pc + 1) lv (x :: x :: st) w cells slots) : TC q X R Q pc lv (x :: st) w cells slots := fun hG H locs ls hP hD hS hl => lv_dup hG.1 hG.2.1 hd hc (h hG H locs ls hP hD hS hl)
theorem TC_iconst {q : mMI} {X : mCx} {R : Room} {Q : State → Prop} {pc : Nat} {lv : List (Nat × Value)} {st : List Value} {w : va_W} {cells slots : Nat} {n : Int} (z : Int32) (hv : Int32.ofInt n = z) (hd : decode q.2.1 pc = .ok (.iconst n, 1)) (h : TC q X R Q (pc + 1) lv (.int z :: st) w cells slots) : TC q X R Q pc lv st w cells slots := fun hG H locs ls hP hD hS hl => lv_iconst hG.1 hG.2.1 hd hv (h hG H locs ls hP hD hS hl)
theorem TC_bipush {q : mMI} {X : mCx} {R : Room} {Q : State → Prop} {pc : Nat} {lv : List (Nat × Value)} {st : List Value} {w : va_W} {cells slots : Nat} {n : Int} (z : Int32) (hv : (Int8.ofInt n).toInt32 = z) (hd : decode q.2.1 pc = .ok (.bipush n, 2)) (h : TC q X R Q (pc + 2) lv (.int z :: st) w cells slots) : TC q X R Q pc lv st w cells slots := fun hG H locs ls hP hD hS hl => lv_bipush hG.1 hG.2.1 hd hv (h hG H locs ls hP hD hS hl)
theorem TC_sipush {q : mMI} {X : mCx} {R : Room} {Q : State → Prop} {pc : Nat} {lv : List (Nat × Value)} {st : List Value} {w : va_W} {cells slots : Nat} {n : Int} (z : Int32) (hv : (Int16.ofInt n).toInt32 = z) (hd : decode q.2.1 pc = .ok (.sipush n, 3)) (h : TC q X R Q (pc + 3) lv (.int z :: st) w cells slots) : TC q X R Q pc lv st w cells slots := fun hG H locs ls hP hD hS hl => lv_sipush hG.1 hG.2.1 hd hv (h hG H locs ls hP hD hS hl)
theorem TC_goto {q : mMI} {X : mCx} {R : Room} {Q : State → Prop} {pc : Nat} {lv : List (Nat × Value)} {st : List Value} {w : va_W} {cells slots : Nat} {off : Int} (t : Nat) (hd : decode q.2.1 pc = .ok (.goto off, 3)) (htg : (pc : Int) + off = (t : Int)) (h : TC q X R Q t lv st w cells slots) : TC q X R Q pc lv st w cells slots := fun hG H locs ls hP hD hS hl => lv_goto (tgt := t) hG.1 hG.2.1 hd htg (h hG H locs ls hP hD hS hl)
theorem TC_geT {q : mMI} {X : mCx} {R : Room} {Q : State → Prop} {pc : Nat} {lv : List (Nat × Value)} {st : List Value} {w : va_W} {cells slots : Nat} {x y : Int32} {off : Int} (t : Nat) (hc : y ≤ x) (hd : decode q.2.1 pc = .ok (.if_icmp .ge off, 3)) (htg : (pc : Int) + off = (t : Int)) (h : TC q X R Q t lv st w cells slots) : TC q X R Q pc lv (.int y :: .int x :: st) w cells slots := fun hG H locs ls hP hD hS hl => lv_icmp_ge (tgt := t) hG.1 hG.2.1 hd htg (fun _ => (h hG H locs ls hP hD hS hl)) (fun z => absurd hc z)
theorem TC_geF {q : mMI} {X : mCx} {R : Room} {Q : State → Prop} {pc : Nat} {lv : List (Nat × Value)} {st : List Value} {w : va_W} {cells slots : Nat} {x y : Int32} {off : Int} (t : Nat) (hc : ¬ y ≤ x) (hd : decode q.2.1 pc = .ok (.if_icmp .ge off, 3)) (htg : (pc : Int) + off = (t : Int)) (h : TC q X R Q (pc + 3) lv st w cells slots) : TC q X R Q pc lv (.int y :: .int x :: st) w cells slots := fun hG H locs ls hP hD hS hl => lv_icmp_ge (tgt := t) hG.1 hG.2.1 hd htg (fun z => absurd z hc) (fun _ => (h hG H locs ls hP hD hS hl))
theorem lk_obj : Cond.instanceMethod Lib.objectInit ∈ gdL ∧ Cond.code Lib.objectInit ⟨#[0xb1]⟩ 1 none ∈ gdL := ⟨gd_mem 74 (by decide +kernel) (by decide +kernel), gd_mem 75 (by decide +kernel) (by decide +kernel)⟩
theorem TC_obj {q : mMI} {X : mCx} {R : Room} {Q : State → Prop} {pc : Nat} {lv : List (Nat × Value)} {st : List Value} {w : va_W} {cells slots : Nat} {a idx : Nat} (hlk : Cond.methodLink q.1.cls idx Lib.objectInit ∈ gdL) (hf : 1 ≤ R.frames) (hloc : (st.map fun v => v.category).sum + 12 ≤ R.locals) (hd : decode q.2.1 pc = .ok (.invokespecial idx, 3)) (h : TC q X R Q (pc + 3) lv st w cells slots) : TC q X R Q pc lv (.ref a :: st) w cells slots := fun hG H locs ls hP hD hS hl => by
  have hts := hG.2.2.2.2.2.2.1
  refine W.objInit hG.1 hG.2.1 hG.2.2.2.2.2.1 (hts _ hlk) (hts _ lk_obj.1) (hts _ lk_obj.2) rfl (by rw [hG.2.2.1]; exact hl.1) rfl hd hf (by show 2 * 0 + _ + 12 ≤ _; omega) ?_
  exact W.eq (g2 := F0 (xm X) (pc + 3) ls st) rfl (h hG H locs ls hP hD hS hl)
theorem TC_put {q : mMI} {X : mCx} {R : Room} {Q : State → Prop} {pc : Nat} {lv : List (Nat × Value)} {st : List Value} {w : va_W} {cells slots : Nat} {a c k i index N : Nat} {C ref nm ds : String} {TT : u_T} {ty : FieldType} {v : Value} {fs : List Value} {w' : va_W} (hc : vwCl[c]? = some (C, TT, N)) (hk : k < N) (hT : TT k = (ref, nm, ds, false)) (hw : Cond.fieldLink q.1.cls index ref nm ds ∈ gdL) (hty : parseFieldDescriptor ds = some ty) (hn : narrow ty v = v) (hfit : fits ty v = true) (he : w[i]? = some (a, .inr (c, fs))) (hl0 : k < fs.length) (hw' : w.set i (a, .inr (c, fs.set k v)) = w') (hd : decode q.2.1 pc = .ok (.putfield index, 3)) (h : TC q X R Q (pc + 3) lv st w' cells slots) : TC q X R Q pc lv (v :: .ref a :: st) w cells slots := fun hG H locs ls hP hD hS hl => by
  have e : (TT k).2.1 = nm ∧ (TT k).2.2.1 = ds ∧ (TT k).1 = ref ∧ (TT k).2.2.2 = false := by rw [hT]; exact ⟨rfl, rfl, rfl, rfl⟩
  obtain ⟨ty0, t1, t2⟩ := ty_G hc
  subst hw'
  exact va_put (ref := ref) (ty := ty) hG.1 hG.2.1 hG.2.2.2.2.2.2.1 (inG hc) ty0 t1 t2 hG.2.2.2.2.2.1 hG.2.2.2.2.2.2.2.1 hP hD hS i he hc k hk (by rw [e.1, e.2.1]; exact hG.2.2.2.2.2.2.1 _ hw) (fun y hy => by rw [e.2.2.1] at hy; exact hy) e.2.2.2 (by rw [e.2.1]; exact hty) hn hfit hl0 hd (fun H1 locs1 hP1 hD1 hS1 => h hG H1 locs1 ls hP1 hD1 hS1 hl)
theorem TC_putF {q : mMI} {X : mCx} {R : Room} {Q : State → Prop} {pc : Nat} {lv : List (Nat × Value)} {st : List Value} {w : va_W} {cells slots : Nat} {a c k i index N : Nat} {C ref nm ds : String} {TT : u_T} {ty : FieldType} {v : Value} {fs : List Value} {w' : va_W} (hc : vwCl[c]? = some (C, TT, N)) (hk : k < N) (hT : TT k = (ref, nm, ds, true)) (hown : ref = q.1.cls) (hw : Cond.fieldLink q.1.cls index ref nm ds ∈ gdL) (hty : parseFieldDescriptor ds = some ty) (hn : narrow ty v = v) (hfit : fits ty v = true) (he : w[i]? = some (a, .inr (c, fs))) (hl0 : k < fs.length) (hw' : w.set i (a, .inr (c, fs.set k v)) = w') (hd : decode q.2.1 pc = .ok (.putfield index, 3)) (h : TC q X R Q (pc + 3) lv st w' cells slots) : TC q X R Q pc lv (v :: .ref a :: st) w cells slots := fun hG H locs ls hP hD hS hl => by
  have e : (TT k).2.1 = nm ∧ (TT k).2.2.1 = ds ∧ (TT k).1 = ref ∧ (TT k).2.2.2 = true := by rw [hT]; exact ⟨rfl, rfl, rfl, rfl⟩
  obtain ⟨ty0, t1, t2⟩ := ty_G hc
  subst hw'
  exact va_putF (ref := ref) (ty := ty) hG.1 hG.2.1 hG.2.2.2.2.2.2.1 (inG hc) ty0 t1 t2 hG.2.2.2.2.2.1 hG.2.2.2.2.2.2.2.1 hP hD hS i he hc k hk (by rw [e.1, e.2.1]; exact hG.2.2.2.2.2.2.1 _ hw) (fun y hy => by rw [e.2.2.1] at hy; exact hy) e.2.2.2 hG.2.2.2.2.2.2.2.2.2.1 (e.2.2.1.trans hown) (by rw [e.2.1]; exact hty) hn hfit hl0 hd (fun H1 locs1 hP1 hD1 hS1 => h hG H1 locs1 ls hP1 hD1 hS1 hl)
theorem TC_new {q : mMI} {X : mCx} {R : Room} {Q : State → Prop} {pc : Nat} {lv : List (Nat × Value)} {st : List Value} {w : va_W} {cells slots : Nat} {c index N : Nat} {C : String} {TT : u_T} {fs : List Value} (hc : vwCl[c]? = some (C, TT, N)) (hfs : ∀ ty0 : Nat → FieldType, (∀ k, k < N → parseFieldDescriptor (TT k).2.2.1 = some (ty0 k)) → ∀ j, j < N → defaultValue (ty0 j) = vp_V fs j) (hw1 : Cond.classLink q.1.cls index C ∈ gdL) (hw2 : Cond.instantiable C N ∈ gdL) (hw3 : Cond.initialized C ∈ gdL) (hcl : cells + 1 ≤ R.cells) (hsl : slots + N ≤ R.slots) (hd : decode q.2.1 pc = .ok (.new index, 3)) (h : ∀ z : Nat, TC q X R Q (pc + 3) lv (.ref z :: st) (w ++ [(z, .inr (c, fs))]) (cells + 1) (slots + N)) : TC q X R Q pc lv st w cells slots := fun hG H locs ls hP hD hS hl => by
  have hts := hG.2.2.2.2.2.2.1
  obtain ⟨ty0, t1, t2⟩ := ty_G hc
  exact va_new hG.1 hG.2.1 hts (inG hc) ty0 t1 hG.2.2.2.2.2.1 (hts _ hw1) (hts _ hw2) (hts _ hw3) hG.2.2.2.2.2.2.2.1 hP hD hS hG.2.2.2.2.2.2.2.2.1 hc (hfs ty0 t1) hcl hsl hd (fun z H1 hP1 hD1 hS1 => h z hG H1 locs ls hP1 hD1 hS1 hl)
theorem acI : Cond.arrayClass (newarray.typeOf .int) ∈ gdL := gd_mem 116 (by decide +kernel) (by decide +kernel)
theorem TC_naI {q : mMI} {X : mCx} {R : Room} {Q : State → Prop} {pc : Nat} {lv : List (Nat × Value)} {st : List Value} {w : va_W} {cells slots : Nat} {n : Int32} (N' : Nat) (hn : ¬ n < 0) (hN : n.toNatClampNeg = N') (hby : N' * componentBytes .int ≤ 536870912) (hcl : cells + 1 ≤ R.cells) (hsl : slots + N' ≤ R.slots) (hd : decode q.2.1 pc = .ok (.newarray .int, 2)) (h : ∀ z : Nat, TC q X R Q (pc + 2) lv (.ref z :: st) (w ++ [(z, .inl (xcA X 10, N', .inl (lf [])))]) (cells + 1) (slots + N')) : TC q X R Q pc lv (.int n :: st) w cells slots := fun hG H locs ls hP hD hS hl => by
  have hts := hG.2.2.2.2.2.2.1
  have hK := hG.2.2.2.2.2.2.2.1
  refine va_newa (ty := .int) (a0 := (N', .inl (lf []))) hG.1 hG.2.1 (hts _ acI) rfl hK hP hD hS hG.2.2.2.2.2.2.2.2.1 (fun _ => rfl) hn hN hby hcl hsl hd (fun z cA H1 hK1 hP1 hD1 hS1 => ?_)
  have e1 : (xs X).vm.findClass ("[" ++ (.int : FieldType).toString) = some cA := (hK1.2 7 (cA, .int) rfl).2
  have e2 : (xs X).vm.findClass ("[" ++ (.int : FieldType).toString) = some (xcA X 10) := (hK.2 1 (xcA X 10, .int) rfl).2
  have e3 : cA = xcA X 10 := Option.some.inj (e1.symm.trans e2)
  subst e3
  exact h z hG H1 locs ls hP1 hD1 hS1 hl
theorem acJ : Cond.arrayClass (newarray.typeOf .long) ∈ gdL := gd_mem 246 (by decide +kernel) (by decide +kernel)
theorem TC_naJ {q : mMI} {X : mCx} {R : Room} {Q : State → Prop} {pc : Nat} {lv : List (Nat × Value)} {st : List Value} {w : va_W} {cells slots : Nat} {n : Int32} (N' : Nat) (hn : ¬ n < 0) (hN : n.toNatClampNeg = N') (hby : N' * componentBytes .long ≤ 536870912) (hcl : cells + 1 ≤ R.cells) (hsl : slots + N' ≤ R.slots) (hd : decode q.2.1 pc = .ok (.newarray .long, 2)) (h : ∀ z : Nat, TC q X R Q (pc + 2) lv (.ref z :: st) (w ++ [(z, .inl (xcA X 11, N', .inr (.inl (fun _ => 0))))]) (cells + 1) (slots + N')) : TC q X R Q pc lv (.int n :: st) w cells slots := fun hG H locs ls hP hD hS hl => by
  have hts := hG.2.2.2.2.2.2.1
  have hK := hG.2.2.2.2.2.2.2.1
  refine va_newa (ty := .long) (a0 := (N', .inr (.inl (fun _ => 0)))) hG.1 hG.2.1 (hts _ acJ) rfl hK hP hD hS hG.2.2.2.2.2.2.2.2.1 (fun _ => rfl) hn hN hby hcl hsl hd (fun z cA H1 hK1 hP1 hD1 hS1 => ?_)
  have e1 : (xs X).vm.findClass ("[" ++ (.long : FieldType).toString) = some cA := (hK1.2 7 (cA, .long) rfl).2
  have e2 : (xs X).vm.findClass ("[" ++ (.long : FieldType).toString) = some (xcA X 11) := (hK.2 2 (xcA X 11, .long) rfl).2
  have e3 : cA = xcA X 11 := Option.some.inj (e1.symm.trans e2)
  subst e3
  exact h z hG H1 locs ls hP1 hD1 hS1 hl
theorem acB : Cond.arrayClass (newarray.typeOf .byte) ∈ gdL := gd_mem 115 (by decide +kernel) (by decide +kernel)
theorem TC_naB {q : mMI} {X : mCx} {R : Room} {Q : State → Prop} {pc : Nat} {lv : List (Nat × Value)} {st : List Value} {w : va_W} {cells slots : Nat} {n : Int32} (N' : Nat) (hn : ¬ n < 0) (hN : n.toNatClampNeg = N') (hby : N' * componentBytes .byte ≤ 536870912) (hcl : cells + 1 ≤ R.cells) (hsl : slots + N' ≤ R.slots) (hd : decode q.2.1 pc = .ok (.newarray .byte, 2)) (h : ∀ z : Nat, TC q X R Q (pc + 2) lv (.ref z :: st) (w ++ [(z, .inl (xcA X 9, N', .inl (lf [])))]) (cells + 1) (slots + N')) : TC q X R Q pc lv (.int n :: st) w cells slots := fun hG H locs ls hP hD hS hl => by
  have hts := hG.2.2.2.2.2.2.1
  have hK := hG.2.2.2.2.2.2.2.1
  refine va_newa (ty := .byte) (a0 := (N', .inl (lf []))) hG.1 hG.2.1 (hts _ acB) rfl hK hP hD hS hG.2.2.2.2.2.2.2.2.1 (fun _ => rfl) hn hN hby hcl hsl hd (fun z cA H1 hK1 hP1 hD1 hS1 => ?_)
  have e1 : (xs X).vm.findClass ("[" ++ (.byte : FieldType).toString) = some cA := (hK1.2 7 (cA, .byte) rfl).2
  have e2 : (xs X).vm.findClass ("[" ++ (.byte : FieldType).toString) = some (xcA X 9) := (hK.2 0 (xcA X 9, .byte) rfl).2
  have e3 : cA = xcA X 9 := Option.some.inj (e1.symm.trans e2)
  subst e3
  exact h z hG H1 locs ls hP1 hD1 hS1 hl
theorem acZ : Cond.arrayClass (newarray.typeOf .boolean) ∈ gdL := gd_mem 204 (by decide +kernel) (by decide +kernel)
theorem TC_naZ {q : mMI} {X : mCx} {R : Room} {Q : State → Prop} {pc : Nat} {lv : List (Nat × Value)} {st : List Value} {w : va_W} {cells slots : Nat} {n : Int32} (N' : Nat) (hn : ¬ n < 0) (hN : n.toNatClampNeg = N') (hby : N' * componentBytes .boolean ≤ 536870912) (hcl : cells + 1 ≤ R.cells) (hsl : slots + N' ≤ R.slots) (hd : decode q.2.1 pc = .ok (.newarray .boolean, 2)) (h : ∀ z : Nat, TC q X R Q (pc + 2) lv (.ref z :: st) (w ++ [(z, .inl (xcA X 12, N', .inl (lf [])))]) (cells + 1) (slots + N')) : TC q X R Q pc lv (.int n :: st) w cells slots := fun hG H locs ls hP hD hS hl => by
  have hts := hG.2.2.2.2.2.2.1
  have hK := hG.2.2.2.2.2.2.2.1
  refine va_newa (ty := .boolean) (a0 := (N', .inl (lf []))) hG.1 hG.2.1 (hts _ acZ) rfl hK hP hD hS hG.2.2.2.2.2.2.2.2.1 (fun _ => rfl) hn hN hby hcl hsl hd (fun z cA H1 hK1 hP1 hD1 hS1 => ?_)
  have e1 : (xs X).vm.findClass ("[" ++ (.boolean : FieldType).toString) = some cA := (hK1.2 7 (cA, .boolean) rfl).2
  have e2 : (xs X).vm.findClass ("[" ++ (.boolean : FieldType).toString) = some (xcA X 12) := (hK.2 3 (xcA X 12, .boolean) rfl).2
  have e3 : cA = xcA X 12 := Option.some.inj (e1.symm.trans e2)
  subst e3
  exact h z hG H1 locs ls hP1 hD1 hS1 hl
theorem TC_nqH {q : mMI} {X : mCx} {R : Room} {Q : State → Prop} {pc : Nat} {lv : List (Nat × Value)} {st : List Value} {w : va_W} {cells slots : Nat} {n : Int32} {index : Nat} (N' : Nat) (hn : ¬ n < 0) (hN : n.toNatClampNeg = N') (hby : N' * 4 ≤ 536870912) (hw1 : Cond.classLink q.1.cls index RX4 ∈ gdL) (hcl : cells + 1 ≤ R.cells) (hsl : slots + N' ≤ R.slots) (hd : decode q.2.1 pc = .ok (.anewarray index, 3)) (h : ∀ z : Nat, TC q X R Q (pc + 3) lv (.ref z :: st) (w ++ [(z, .inl (xcA X 13, N', .inr (.inr (.inr (.inr (fun _ => none))))))]) (cells + 1) (slots + N')) : TC q X R Q pc lv (.int n :: st) w cells slots := fun hG H locs ls hP hD hS hl => by
  have hts := hG.2.2.2.2.2.2.1
  have hK := hG.2.2.2.2.2.2.2.1
  refine va_newq hG.1 hG.2.1 hG.2.2.2.2.2.1 (hts _ hw1) hG.2.2.2.2.2.2.2.2.2.2.1 hK hP hD hS hG.2.2.2.2.2.2.2.2.1 hn hN hby hcl hsl hd (fun z cA H1 hK1 hP1 hD1 hS1 => ?_)
  obtain ⟨_, _, _, _, _, e1⟩ := (hK1.2 7 (cA, .object RX4) rfl).2
  obtain ⟨_, _, _, _, _, e2⟩ := (hK.2 4 (xcA X 13, .object RX4) rfl).2
  have e3 : cA = xcA X 13 := Option.some.inj (e1.symm.trans e2)
  subst e3
  exact h z hG H1 locs ls hP1 hD1 hS1 hl
theorem TC_nqS {q : mMI} {X : mCx} {R : Room} {Q : State → Prop} {pc : Nat} {lv : List (Nat × Value)} {st : List Value} {w : va_W} {cells slots : Nat} {n : Int32} {index : Nat} (N' : Nat) (hn : ¬ n < 0) (hN : n.toNatClampNeg = N') (hby : N' * 4 ≤ 536870912) (hw1 : Cond.classLink q.1.cls index RX5 ∈ gdL) (hcl : cells + 1 ≤ R.cells) (hsl : slots + N' ≤ R.slots) (hd : decode q.2.1 pc = .ok (.anewarray index, 3)) (h : ∀ z : Nat, TC q X R Q (pc + 3) lv (.ref z :: st) (w ++ [(z, .inl (xcA X 14, N', .inr (.inr (.inr (.inr (fun _ => none))))))]) (cells + 1) (slots + N')) : TC q X R Q pc lv (.int n :: st) w cells slots := fun hG H locs ls hP hD hS hl => by
  have hts := hG.2.2.2.2.2.2.1
  have hK := hG.2.2.2.2.2.2.2.1
  refine va_newq hG.1 hG.2.1 hG.2.2.2.2.2.1 (hts _ hw1) hG.2.2.2.2.2.2.2.2.2.2.2.1 hK hP hD hS hG.2.2.2.2.2.2.2.2.1 hn hN hby hcl hsl hd (fun z cA H1 hK1 hP1 hD1 hS1 => ?_)
  obtain ⟨_, _, _, _, _, e1⟩ := (hK1.2 7 (cA, .object RX5) rfl).2
  obtain ⟨_, _, _, _, _, e2⟩ := (hK.2 5 (xcA X 14, .object RX5) rfl).2
  have e3 : cA = xcA X 14 := Option.some.inj (e1.symm.trans e2)
  subst e3
  exact h z hG H1 locs ls hP1 hD1 hS1 hl
def gq (L : List Nat) : Nat → Option Nat := fun i => L[i]?
theorem gq_mna (r : Nat → Nat) (n : Nat) : (fun i => if i < n then some (r i) else none) = gq ((List.range n).map r) := by
  funext i
  unfold gq
  rw [List.getElem?_map]
  by_cases h : i < n
  · rw [if_pos h, List.getElem?_range h]; rfl
  · rw [if_neg h, List.getElem?_eq_none (by rw [List.length_range]; omega)]; rfl
theorem TC_mna {q : mMI} {X : mCx} {R : Room} {Q : State → Prop} {pc : Nat} {lv : List (Nat × Value)} {st : List Value} {w : va_W} {cells slots : Nat} {n k : Int32} {index : Nat} (N' K' : Nat) (hn : ¬ n < 0) (hk : ¬ k < 0) (hN : n.toNatClampNeg = N') (hM : k.toNatClampNeg = K') (hb1 : N' * 4 ≤ 536870912) (hb2 : K' * componentBytes .int ≤ 536870912) (hb3 : K' ≤ 536870912) (hw1 : Cond.classLink q.1.cls index "[[I" ∈ gdL) (hcl : cells + (1 + N') ≤ R.cells) (hsl : slots + (N' + N' * K') ≤ R.slots) (hd : decode q.2.1 pc = .ok (.multianewarray index 2, 4)) (h : ∀ (z : Nat) (r : Nat → Nat), TC q X R Q (pc + 4) lv (.ref z :: st) ((w ++ [(z, .inl (xcA X 15, N', .inr (.inr (.inr (.inr (gq ((List.range N').map r)))))))]) ++ (List.range N').map (fun i => (r i, .inl (xcA X 10, K', .inl (lf []))))) (cells + 1 + N') (slots + N' + N' * K')) : TC q X R Q pc lv (.int k :: .int n :: st) w cells slots := fun hG H locs ls hP hD hS hl => by
  have hts := hG.2.2.2.2.2.2.1
  have hK := hG.2.2.2.2.2.2.2.1
  have e2 : (xs X).vm.findClass ("[" ++ (FieldType.int).toString) = some (xcA X 10) := (hK.2 1 (xcA X 10, .int) rfl).2
  have hP0 : va_P (xD X) vwCl (w ++ va_pl [] (fun _ => .inr (0, []))) H := by rw [show va_pl [] (fun _ => (.inr (0, []) : va_E)) = [] from rfl, List.append_nil]; exact hP
  have hD0 : va_D (xA X) (w ++ va_pl [] (fun _ => .inr (0, []))) := by rw [show va_pl [] (fun _ => (.inr (0, []) : va_E)) = [] from rfl, List.append_nil]; exact hD
  refine va_mna (ty := .int) (cy := xcA X 10) (z := (K', .inl (lf []))) hG.1 hG.2.1 hG.2.2.2.2.2.1 (hts _ hw1) hG.2.2.2.2.2.2.2.2.2.2.2.2.1 (hts _ acI) e2 hK hP0 hD0 hS hG.2.2.2.2.2.2.2.2.1 hn hk hN hM hb1 hb2 hb3 rfl rfl hcl hsl (fun c => ?_) hd (fun z r cA H1 hr hrL hK1 hP1 hD1 hS1 => ?_)
  · show ({ cls := c, slots := Array.replicate K' (.int 0), vm := .none } : Cell) = arrV c K' (fun _ => .int 0)
    rw [arrV_new]
  · have e1 : (xs X).vm.findClass ("[" ++ (FieldType.array .int).toString) = some cA := (hK1.2 7 (cA, .array .int) rfl).2
    have e3 : cA = xcA X 15 := Option.some.inj (e1.symm.trans (hK.2 6 (xcA X 15, .array .int) rfl).2)
    subst e3
    have ew : va_pl (([] : List Nat) ++ (List.range N').map r) (vr_up (fun _ => .inr (0, [])) ((List.range N').map r) (.inl (xcA X 10, K', .inl (lf [])))) = (List.range N').map (fun i => (r i, .inl (xcA X 10, K', .inl (lf [])))) := by
      unfold va_pl
      rw [List.nil_append, List.map_map]
      apply List.map_congr_left
      intro i hi
      show (r i, vr_up _ _ _ (r i)) = _
      rw [vr_up_in (List.mem_map.mpr ⟨i, hi, rfl⟩)]
    rw [ew, gq_mna] at hP1 hD1
    exact h z r hG H1 locs ls hP1 hD1 hS1 hl
theorem upd_app (L : List Int32) (x : Int32) : upd (lf L) L.length x = lf (L ++ [x]) := by
  funext j
  unfold upd lf
  by_cases h : j = L.length
  · subst h
    simp
  · rw [if_neg h]
    rcases Nat.lt_or_ge j L.length with q | q
    · simp [List.getD, List.getElem?_append_left q]
    · simp [List.getD, List.getElem?_eq_none q, List.getElem?_eq_none (show (L ++ [x]).length ≤ j by simp; omega)]
theorem TC_iast {q : mMI} {X : mCx} {R : Room} {Q : State → Prop} {pc : Nat} {lv : List (Nat × Value)} {st : List Value} {w : va_W} {cells slots : Nat} {a i n : Nat} {k x : Int32} {L : List Int32} {w' : va_W} (he : w[i]? = some (a, .inl (xcA X 10, n, .inl (lf L)))) (hk : k.toNatClampNeg = L.length) (hin : vp_in k n) (hw' : w.set i (a, .inl (xcA X 10, n, .inl (lf (L ++ [x])))) = w') (hd : decode q.2.1 pc = .ok (.iastore, 1)) (h : TC q X R Q (pc + 1) lv st w' cells slots) : TC q X R Q pc lv (.int x :: .int k :: .ref a :: st) w cells slots := fun hG H locs ls hP hD hS hl => by
  subst hw'
  refine va_iast hG.1 hG.2.1 hG.2.2.2.2.2.2.2.1 hP hD hS i 1 he rfl hin hd (fun H1 locs1 hP1 hD1 hS1 => ?_)
  rw [hk, upd_app] at hP1 hD1
  exact h hG H1 locs1 ls hP1 hD1 hS1 hl
theorem TC_getR {q : mMI} {X : mCx} {R : Room} {Q : State → Prop} {pc : Nat} {lv : List (Nat × Value)} {st : List Value} {w : va_W} {cells slots : Nat} {a c k i index N : Nat} {C ref nm ds : String} {TT : u_T} {fn : Bool} {v : Value} {fs : List Value} (hc : vwCl[c]? = some (C, TT, N)) (hk : k < N) (hT : TT k = (ref, nm, ds, fn)) (hw : Cond.fieldLink q.1.cls index ref nm ds ∈ gdL) (he : w[i]? = some (a, .inr (c, fs))) (hv : fs[k]? = some v) (hd : decode q.2.1 pc = .ok (.getfield index, 3)) (h : TC q X R Q (pc + 3) lv (v :: st) w cells slots) : TC q X R Q pc lv (.ref a :: st) w cells slots := fun hG H locs ls hP hD hS hl => by
  have e : (TT k).2.1 = nm ∧ (TT k).2.2.1 = ds ∧ (TT k).1 = ref := by rw [hT]; exact ⟨rfl, rfl, rfl⟩
  exact va_get (ref := ref) hG.1 hG.2.1 hG.2.2.2.2.2.2.1 (inG hc) hG.2.2.2.2.2.1 hG.2.2.2.2.2.2.2.1 hP i he hc k hk (by rw [e.1, e.2.1]; exact hG.2.2.2.2.2.2.1 _ hw) (fun y hy => by rw [e.2.2] at hy; exact hy) hv hd (h hG H locs ls hP hD hS hl)
theorem TC_aast {q : mMI} {X : mCx} {R : Room} {Q : State → Prop} {pc : Nat} {lv : List (Nat × Value)} {st : List Value} {w : va_W} {cells slots : Nat} {a i j c n v : Nat} {k : Int32} {r : vw_C} {f : Nat → Option Nat} {fs : List Value} {w' : va_W} (ti : Nat) (co : Nat) (ht : (tysOf (xcA X))[ti]? = some (xcA X co, .object r.1)) (he : w[i]? = some (a, .inl (xcA X co, n, .inr (.inr (.inr (.inr f)))))) (hv : w[j]? = some (v, .inr (c, fs))) (hc : vwCl[c]? = some r) (hin : vp_in k n) (hw' : w.set i (a, .inl (xcA X co, n, .inr (.inr (.inr (.inr (va_up f k.toNatClampNeg (some v))))))) = w') (hd : decode q.2.1 pc = .ok (.aastore, 1)) (h : TC q X R Q (pc + 1) lv st w' cells slots) : TC q X R Q pc lv (.ref v :: .int k :: .ref a :: st) w cells slots := fun hG H locs ls hP hD hS hl => by
  subst hw'
  exact va_astq hG.1 hG.2.1 hG.2.2.2.2.2.2.2.1 hP hD hS i ti j c he ht hv hc hin hd (fun H1 locs1 hP1 hD1 hS1 => h hG H1 locs1 ls hP1 hD1 hS1 hl)
/-- the contract of a constructor: the object's own cell, then the cells that it made, at addresses a 0, a 1 .. -/
def Qn (D : va_G) (A : Nat → Prop) (Wc : (Nat → Nat) → va_W) : Array Value → State → Outcome → State → Prop := fun _ st oc t => oc = .returned none ∧ (∃ a : Nat → Nat, va_P D vwCl (Wc a) t.heap ∧ va_D A (Wc a)) ∧ va_F A st t
def PreC (D : va_G) (cA : Nat → ClassId) (w : va_W) (sz : Nat) (U : State) : Prop := U.heap.size = sz ∧ va_P D vwCl w U.heap ∧ va_K D vwCl (tysOf cA) U ∧ NC U
def CN (l : Launch) (q : mMI) (mc ms c : Nat) (fs0 : List Value) (Wc : (Nat → ClassId) → Nat → (Nat → Nat) → va_W) : Prop :=
  ∀ (D : va_G) (cA : Nat → ClassId) (b sz : Nat), Met l q.1 (wsM q) (rmC q.2.2.2.2 mc ms) (va_Pc [.ref b] (PreC D cA [(b, .inr (c, fs0))] sz)) (Qn D (va_A [(b, .inr (c, fs0))] sz) (Wc cA b)) mc ms (va_A [(b, .inr (c, fs0))] sz)
theorem one_D {b sz : Nat} {E : va_E} : va_D (va_A [(b, E)] sz) [(b, E)] := by
  refine ⟨fun i j x y hi hj _ => ?_, fun k x hx => va_A.in hx⟩
  have h1 := (List.getElem?_eq_some_iff.mp hi).1
  have h2 := (List.getElem?_eq_some_iff.mp hj).1
  simp at h1 h2
  omega
theorem CN_of {l : Launch} {q : mMI} {mc ms c : Nat} {fs0 : List Value} {Wc : (Nat → ClassId) → Nat → (Nat → Nat) → va_W} (hpl : plainName q.1.cls = true) (hnm : q.1.name = "<init>") (hln : 1 ≤ q.2.2.1) (h : ∀ (X : mCx) (b : Nat), xl X = l → TC q X (rmC q.2.2.2.2 mc ms) (MQ (xb X) (Qn (xD X) (xA X) (Wc (xcA X) b)) (xa X) (xs X) mc ms (xA X)) 0 [(0, .ref b)] [] [(b, .inr (c, fs0))] 0 0) : CN l q mc ms c fs0 Wc := by
  intro D cA b sz
  refine Met.ofW (cc := q.2.1) (maxL := q.2.2.1) (ret := q.2.2.2.1) hpl rfl ?_
  intro p e s m args below meth c0 s₁ B hml hv
  obtain ⟨rfl, hsz, hP, hK, hN⟩ := hv
  subst hsz
  have hl := lv_entry ([.ref b]) (n := q.2.2.1) hln
  rw [lg_entry_eq]
  exact h (p, l, e, s, m, ([.ref b] : List Value).toArray, below, meth, c0, (fun _ => 0), cA, D, va_A [(b, .inr (c, fs0))] s.heap.size) b rfl ⟨B.exec, B.bytes, hml, B.returns, B.notSynchronized, findClass_of_methodNamed B.named, fun w hw => atoms_spec (ws := wsM q) B.pre w (List.mem_cons_of_mem _ hw), hK, fun z hz => Or.inr hz, by rw [(name_of_methodNamed B.named B.method).1]; exact hnm, hN⟩ s.heap [] _ hP one_D va_S.rf hl
theorem TC_ret {q : mMI} {X : mCx} {R : Room} {pc : Nat} {lv : List (Nat × Value)} {w : va_W} {cells slots : Nat} {Wc : (Nat → Nat) → va_W} (a : Nat → Nat) (is : List Nat) (hr : q.2.2.2.1 = none) (hnd : va_nd is = true) (hs : is.map (fun i => w[i]?) = (Wc a).map some) (hs2 : is.filterMap (fun i => w[i]?) = Wc a) (hd : decode q.2.1 pc = .ok (.return_, 1)) : TC q X R (MQ (xb X) (Qn (xD X) (xA X) Wc) (xa X) (xs X) cells slots (xA X)) pc lv [] w cells slots := fun hG H locs ls hP hD hS hl => by
  exact W.vret hG.1 hG.2.1 (hG.2.2.2.1.trans hr) (fun t ht _ => ⟨rfl, ⟨a, by rw [ht]; exact hP.sub is hs2, hD.sub is hnd hs⟩, hS.F ht⟩) hS.2.2 hd (hlocks := hG.2.2.2.2.1)
theorem nd_of : ∀ (l : List Nat), l.Nodup → va_nd l = true
  | [], _ => rfl
  | a :: l, h => by
    rw [List.nodup_cons] at h
    unfold va_nd
    rw [nd_of l h.2]
    simp [h.1]
theorem app_at {w0 : va_W} {x : Nat × va_E} : (List.range w0.length).map (fun i => (w0 ++ [x])[i]?) = w0.map some := by
  apply List.ext_getElem?
  intro j
  rw [List.getElem?_map, List.getElem?_map]
  by_cases h : j < w0.length
  · rw [List.getElem?_range h]
    simp [List.getElem?_append_left h, List.getElem?_eq_getElem h]
  · rw [List.getElem?_eq_none (by rw [List.length_range]; omega), List.getElem?_eq_none (by omega)]
    rfl
theorem app_C {w0 : va_W} {x : Nat × va_E} : [w0.length].map (fun i => (w0 ++ [x])[i]?) = [x].map some := by simp
theorem blindC {av : List Value} {cA : Nat → ClassId} {D : va_G} {w : va_W} {sz : Nat} : FrameBlind (va_Pc av (PreC D cA w sz)) := fun a U g mk h => by
  obtain ⟨h0, h1, h2, h3, h4⟩ := h
  exact ⟨h0, h1, h2, va_K.moved (u := U) (U := U.calling g mk a) (Vm.Alike.refl U.vm) h3, NC.same (s := U) rfl h4⟩
theorem TC_callN {q q2 : mMI} {X : mCx} {R : Room} {Q : State → Prop} {pc : Nat} {lv : List (Nat × Value)} {cells slots mc ms c b index : Nat} {fs0 : List Value} {Wc : (Nat → ClassId) → Nat → (Nat → Nat) → va_W} {w : va_W} (w0 : va_W) (rest : List Value) (hw : w = w0 ++ [(b, .inr (c, fs0))]) (hm : mok q2 0) (hi : Cond.instanceMethod q2.1 ∈ gdL) (hnm : q2.1.name = "<init>") (hret : q2.2.2.2.1 = none) (hlk : (q.1.cls, index, q2.1) ∈ nestL) (hfr : q2.2.2.2.2 + 1 ≤ R.frames) (hlo : 100 * q2.2.2.2.2 + 79 ≤ R.locals) (hcat : (rest.map fun v => v.category).sum ≤ 8) (hcl : cells + mc ≤ R.cells) (hsl : slots + ms ≤ R.slots) (hd : decode q.2.1 pc = .ok (.invokespecial index, 3)) (hC : CN (xl X) q2 mc ms c fs0 Wc) (h : ∀ a : Nat → Nat, TC q X R Q (pc + 3) lv rest (w0 ++ Wc (xcA X) b a) (cells + mc) (slots + ms)) : TC q X R Q pc lv (.ref b :: rest) w cells slots := fun hG H locs ls hP hD hS hl => by
  subst hw
  have hts := hG.2.2.2.2.2.2.1
  have hK := hG.2.2.2.2.2.2.2.1
  have hM := hC (xD X) (xcA X) b H.size
  have hb1 : va_P (xD X) vwCl [(b, .inr (c, fs0))] H := hP.sub [w0.length] (by simp)
  have hFc := va_free (wc := [(b, .inr (c, fs0))]) hD hS hG.2.2.2.2.2.2.2.2.1 [w0.length] app_C
  have hcn := va_cnB (own := q.1.cls) (host := "RankStairs") (index := index) (rm := rmC q2.2.2.2.2 mc ms) (R := R) (mc := mc) (ms := ms) 0 hts (gdM hm.2.2) rfl rfl rfl (hG.2.2.2.2.2.2.2.2.2.2.2.2.2 _ hlk) (hts _ hm.2.1) hm.1.1 ⟨hfr, by
    have := hm.1.2
    show 8 + (q2.2.2.1 + 11) + 100 * q2.2.2.2.2 ≤ R.locals
    omega⟩
  rw [hret] at hcn
  have hr := va_runIN (As := []) (rest := rest) (g := F0 (xm X) pc ls (.ref b :: rest)) (locs := locs) (cells := cells) (slots := slots) (below := xb X) (e := xe X) (meth := xM X) (H := H) ⟨hG.1, hG.2.1, hG.2.2.1, hG.2.2.2.2.2.1, hts⟩ hM ⟨hcn, hnm, hts _ hi⟩ ⟨blindC, fun U hU hW => ⟨rfl, by rw [hU], by rw [hU]; exact hb1, va_K.moved hW.alike hK, NC.warm hW hG.2.2.2.2.2.2.2.2.2.2⟩⟩ rfl rfl hl.1 rfl (lv_room hcat) hd ⟨hcl, hsl⟩
  intro T hT Xs
  obtain ⟨v, st₀, t, T', L, h0, X', hL, e1, e2, ⟨hv, ⟨a, hPt, hDt⟩, hz, hk⟩, st⟩ := hr T hT Xs
  have hv' : v = none := by injection hv
  subst hv'
  rw [h0] at hz hk
  have hk' : ∀ z : Nat, z < H.size → ¬ va_A [(b, .inr (c, fs0))] H.size z → T'.heap[z]? = H[z]? := fun z h1 h2 => by rw [e1]; exact hk z h1 h2
  obtain ⟨hP2, hD2⟩ := va_join (wr := w0) (w1 := Wc (xcA X) b a) hP hD [w0.length] (List.range w0.length) app_C app_at (nd_of _ List.nodup_range) (fun i hi => by simp at hi ⊢; omega) hk' hFc (by rw [e1]; exact hPt) hDt
  obtain ⟨t2, a1, b1⟩ := h a hG T'.heap (locs ++ L) ls hP2 hD2 ⟨Nat.le_trans hS.1 (by rw [e1]; exact hz), fun z h1 h2 => by rw [hk' z (Nat.lt_of_lt_of_le h1 hS.1) (fun y => h2 (hFc z y))]; exact hS.2.1 z h1 h2, fun z hq => by
      rcases List.mem_append.mp hq with h | h
      · exact hS.2.2 z h
      · exact hFc _ (hL z h)⟩ hl T' rfl X'
  exact ⟨t2, st t2 a1, b1⟩
end
section
abbrev fz0 : List Value := [.null, .null]
theorem df0 : ∀ ty0 : Nat → FieldType, (∀ k, k < 2 → parseFieldDescriptor (TX0 k).2.2.1 = some (ty0 k)) → ∀ j, j < 2 → defaultValue (ty0 j) = vp_V fz0 j := by
  intro ty0 h j hj
  rw [← Option.some.inj ((tyX0_ok j hj).symm.trans (h j hj))]
  exact (by decide +kernel : ∀ j, j < 2 → defaultValue (tyX0 j) = vp_V fz0 j) j hj
abbrev fz1 : List Value := [.null, .null]
theorem df1 : ∀ ty0 : Nat → FieldType, (∀ k, k < 2 → parseFieldDescriptor (TX1 k).2.2.1 = some (ty0 k)) → ∀ j, j < 2 → defaultValue (ty0 j) = vp_V fz1 j := by
  intro ty0 h j hj
  rw [← Option.some.inj ((tyX1_ok j hj).symm.trans (h j hj))]
  exact (by decide +kernel : ∀ j, j < 2 → defaultValue (tyX1 j) = vp_V fz1 j) j hj
abbrev fz2 : List Value := [.int 0, .null, .null, .null, .null, .null, .null]
theorem df2 : ∀ ty0 : Nat → FieldType, (∀ k, k < 7 → parseFieldDescriptor (TX2 k).2.2.1 = some (ty0 k)) → ∀ j, j < 7 → defaultValue (ty0 j) = vp_V fz2 j := by
  intro ty0 h j hj
  rw [← Option.some.inj ((tyX2_ok j hj).symm.trans (h j hj))]
  exact (by decide +kernel : ∀ j, j < 7 → defaultValue (tyX2 j) = vp_V fz2 j) j hj
abbrev fz3 : List Value := [.int 0, .int 0, .null, .null, .null, .null]
theorem df3 : ∀ ty0 : Nat → FieldType, (∀ k, k < 6 → parseFieldDescriptor (TX3 k).2.2.1 = some (ty0 k)) → ∀ j, j < 6 → defaultValue (ty0 j) = vp_V fz3 j := by
  intro ty0 h j hj
  rw [← Option.some.inj ((tyX3_ok j hj).symm.trans (h j hj))]
  exact (by decide +kernel : ∀ j, j < 6 → defaultValue (tyX3 j) = vp_V fz3 j) j hj
abbrev fz4 : List Value := [.int 0, .int 0, .int 0, .int 0, .int 0, .null, .null, .null, .null, .null, .null, .null]
theorem df4 : ∀ ty0 : Nat → FieldType, (∀ k, k < 12 → parseFieldDescriptor (TX4 k).2.2.1 = some (ty0 k)) → ∀ j, j < 12 → defaultValue (ty0 j) = vp_V fz4 j := by
  intro ty0 h j hj
  rw [← Option.some.inj ((tyX4_ok j hj).symm.trans (h j hj))]
  exact (by decide +kernel : ∀ j, j < 12 → defaultValue (tyX4 j) = vp_V fz4 j) j hj
abbrev fz5 : List Value := [.int 0, .null, .int 0]
theorem df5 : ∀ ty0 : Nat → FieldType, (∀ k, k < 3 → parseFieldDescriptor (TX5 k).2.2.1 = some (ty0 k)) → ∀ j, j < 3 → defaultValue (ty0 j) = vp_V fz5 j := by
  intro ty0 h j hj
  rw [← Option.some.inj ((tyX5_ok j hj).symm.trans (h j hj))]
  exact (by decide +kernel : ∀ j, j < 3 → defaultValue (tyX5 j) = vp_V fz5 j) j hj
abbrev fz6 : List Value := [.int 0, .int 0, .int 0, .null, .null, .int 0, .int 0, .int 0, .int 0, .int 0]
theorem df6 : ∀ ty0 : Nat → FieldType, (∀ k, k < 10 → parseFieldDescriptor (TX6 k).2.2.1 = some (ty0 k)) → ∀ j, j < 10 → defaultValue (ty0 j) = vp_V fz6 j := by
  intro ty0 h j hj
  rw [← Option.some.inj ((tyX6_ok j hj).symm.trans (h j hj))]
  exact (by decide +kernel : ∀ j, j < 10 → defaultValue (tyX6 j) = vp_V fz6 j) j hj
abbrev fz7 : List Value := [.null, .null, .null, .null, .null, .null, .null, .null, .null, .null, .int 0]
theorem df7 : ∀ ty0 : Nat → FieldType, (∀ k, k < 11 → parseFieldDescriptor (TX7 k).2.2.1 = some (ty0 k)) → ∀ j, j < 11 → defaultValue (ty0 j) = vp_V fz7 j := by
  intro ty0 h j hj
  rw [← Option.some.inj ((tyX7_ok j hj).symm.trans (h j hj))]
  exact (by decide +kernel : ∀ j, j < 11 → defaultValue (tyX7 j) = vp_V fz7 j) j hj
abbrev fz8 : List Value := [.null, .null, .int 0, .null, .int 0, .int 0, .null, .null, .null, .int 0, .int 0, .int 0, .int 0, .null, .int 0, .int 0, .int 0, .int 0, .int 0, .int 0, .int 0, .int 0, .null, .null, .null, .null, .null, .null, .null, .int 0, .null, .null, .null, .null, .int 0]
theorem df8 : ∀ ty0 : Nat → FieldType, (∀ k, k < 35 → parseFieldDescriptor (TX8 k).2.2.1 = some (ty0 k)) → ∀ j, j < 35 → defaultValue (ty0 j) = vp_V fz8 j := by
  intro ty0 h j hj
  rw [← Option.some.inj ((tyX8_ok j hj).symm.trans (h j hj))]
  exact (by decide +kernel : ∀ j, j < 35 → defaultValue (tyX8 j) = vp_V fz8 j) j hj
abbrev qX4_init : mMI := (yX4_init, cX4_init, 1, none, 1)
theorem dX4_init_0 : decode cX4_init 0 = .ok (.aload_n 0, 1) := by decide +kernel
theorem dX4_init_1 : decode cX4_init 1 = .ok (.invokespecial 3, 3) := by decide +kernel
theorem dX4_init_4 : decode cX4_init 4 = .ok (.aload_n 0, 1) := by decide +kernel
theorem dX4_init_5 : decode cX4_init 5 = .ok (.iconst 0, 1) := by decide +kernel
theorem dX4_init_6 : decode cX4_init 6 = .ok (.putfield 9, 3) := by decide +kernel
theorem dX4_init_9 : decode cX4_init 9 = .ok (.aload_n 0, 1) := by decide +kernel
theorem dX4_init_10 : decode cX4_init 10 = .ok (.iconst 0, 1) := by decide +kernel
theorem dX4_init_11 : decode cX4_init 11 = .ok (.putfield 15, 3) := by decide +kernel
theorem dX4_init_14 : decode cX4_init 14 = .ok (.aload_n 0, 1) := by decide +kernel
theorem dX4_init_15 : decode cX4_init 15 = .ok (.iconst 1, 1) := by decide +kernel
theorem dX4_init_16 : decode cX4_init 16 = .ok (.putfield 18, 3) := by decide +kernel
theorem dX4_init_19 : decode cX4_init 19 = .ok (.aload_n 0, 1) := by decide +kernel
theorem dX4_init_20 : decode cX4_init 20 = .ok (.bipush 30, 2) := by decide +kernel
theorem dX4_init_22 : decode cX4_init 22 = .ok (.putfield 21, 3) := by decide +kernel
theorem dX4_init_25 : decode cX4_init 25 = .ok (.aload_n 0, 1) := by decide +kernel
theorem dX4_init_26 : decode cX4_init 26 = .ok (.iconst 0, 1) := by decide +kernel
theorem dX4_init_27 : decode cX4_init 27 = .ok (.putfield 24, 3) := by decide +kernel
theorem dX4_init_30 : decode cX4_init 30 = .ok (.aload_n 0, 1) := by decide +kernel
theorem dX4_init_31 : decode cX4_init 31 = .ok (.bipush 10, 2) := by decide +kernel
theorem dX4_init_33 : decode cX4_init 33 = .ok (.newarray .int, 2) := by decide +kernel
theorem dX4_init_35 : decode cX4_init 35 = .ok (.putfield 27, 3) := by decide +kernel
theorem dX4_init_38 : decode cX4_init 38 = .ok (.aload_n 0, 1) := by decide +kernel
theorem dX4_init_39 : decode cX4_init 39 = .ok (.bipush 10, 2) := by decide +kernel
theorem dX4_init_41 : decode cX4_init 41 = .ok (.newarray .int, 2) := by decide +kernel
theorem dX4_init_43 : decode cX4_init 43 = .ok (.putfield 31, 3) := by decide +kernel
theorem dX4_init_46 : decode cX4_init 46 = .ok (.aload_n 0, 1) := by decide +kernel
theorem dX4_init_47 : decode cX4_init 47 = .ok (.bipush 10, 2) := by decide +kernel
theorem dX4_init_49 : decode cX4_init 49 = .ok (.newarray .int, 2) := by decide +kernel
theorem dX4_init_51 : decode cX4_init 51 = .ok (.putfield 34, 3) := by decide +kernel
theorem dX4_init_54 : decode cX4_init 54 = .ok (.aload_n 0, 1) := by decide +kernel
theorem dX4_init_55 : decode cX4_init 55 = .ok (.iconst 4, 1) := by decide +kernel
theorem dX4_init_56 : decode cX4_init 56 = .ok (.newarray .int, 2) := by decide +kernel
theorem dX4_init_58 : decode cX4_init 58 = .ok (.putfield 37, 3) := by decide +kernel
theorem dX4_init_61 : decode cX4_init 61 = .ok (.aload_n 0, 1) := by decide +kernel
theorem dX4_init_62 : decode cX4_init 62 = .ok (.iconst 4, 1) := by decide +kernel
theorem dX4_init_63 : decode cX4_init 63 = .ok (.newarray .int, 2) := by decide +kernel
theorem dX4_init_65 : decode cX4_init 65 = .ok (.putfield 40, 3) := by decide +kernel
theorem dX4_init_68 : decode cX4_init 68 = .ok (.aload_n 0, 1) := by decide +kernel
theorem dX4_init_69 : decode cX4_init 69 = .ok (.iconst 4, 1) := by decide +kernel
theorem dX4_init_70 : decode cX4_init 70 = .ok (.newarray .int, 2) := by decide +kernel
theorem dX4_init_72 : decode cX4_init 72 = .ok (.putfield 43, 3) := by decide +kernel
theorem dX4_init_75 : decode cX4_init 75 = .ok (.aload_n 0, 1) := by decide +kernel
theorem dX4_init_76 : decode cX4_init 76 = .ok (.iconst 4, 1) := by decide +kernel
theorem dX4_init_77 : decode cX4_init 77 = .ok (.newarray .int, 2) := by decide +kernel
theorem dX4_init_79 : decode cX4_init 79 = .ok (.putfield 46, 3) := by decide +kernel
theorem dX4_init_82 : decode cX4_init 82 = .ok (.return_, 1) := by decide +kernel
theorem mkX4_init : mok qX4_init 0 := ⟨⟨⟨by decide, by decide, by decide +kernel⟩, by decide⟩, gd_mem 53 (by decide +kernel) (by decide +kernel), gd_mem 121 (by decide +kernel) (by decide +kernel)⟩
theorem imX4_init : Cond.instanceMethod qX4_init.1 ∈ gdL := gd_mem 120 (by decide +kernel) (by decide +kernel)
theorem koX4_3 : Cond.methodLink RX4 3 Lib.objectInit ∈ gdL := gd_mem 122 (by decide +kernel) (by decide +kernel)
theorem kfX4_9 : Cond.fieldLink RX4 9 "RankStairs$House" "steps" "I" ∈ gdL := gd_mem 123 (by decide +kernel) (by decide +kernel)
theorem kfX4_15 : Cond.fieldLink RX4 15 "RankStairs$House" "lodgers" "I" ∈ gdL := gd_mem 129 (by decide +kernel) (by decide +kernel)
theorem kfX4_18 : Cond.fieldLink RX4 18 "RankStairs$House" "gapLaw" "I" ∈ gdL := gd_mem 135 (by decide +kernel) (by decide +kernel)
theorem kfX4_21 : Cond.fieldLink RX4 21 "RankStairs$House" "holdLaw" "I" ∈ gdL := gd_mem 138 (by decide +kernel) (by decide +kernel)
theorem kfX4_24 : Cond.fieldLink RX4 24 "RankStairs$House" "dayNumber" "I" ∈ gdL := gd_mem 141 (by decide +kernel) (by decide +kernel)
theorem kfX4_27 : Cond.fieldLink RX4 27 "RankStairs$House" "kinds" "[I" ∈ gdL := gd_mem 144 (by decide +kernel) (by decide +kernel)
theorem kfX4_31 : Cond.fieldLink RX4 31 "RankStairs$House" "years" "[I" ∈ gdL := gd_mem 147 (by decide +kernel) (by decide +kernel)
theorem kfX4_34 : Cond.fieldLink RX4 34 "RankStairs$House" "wears" "[I" ∈ gdL := gd_mem 149 (by decide +kernel) (by decide +kernel)
theorem kfX4_37 : Cond.fieldLink RX4 37 "RankStairs$House" "legsOf" "[I" ∈ gdL := gd_mem 153 (by decide +kernel) (by decide +kernel)
theorem kfX4_40 : Cond.fieldLink RX4 40 "RankStairs$House" "rankOf" "[I" ∈ gdL := gd_mem 155 (by decide +kernel) (by decide +kernel)
theorem kfX4_43 : Cond.fieldLink RX4 43 "RankStairs$House" "loadOf" "[I" ∈ gdL := gd_mem 157 (by decide +kernel) (by decide +kernel)
theorem kfX4_46 : Cond.fieldLink RX4 46 "RankStairs$House" "floorOf" "[I" ∈ gdL := gd_mem 159 (by decide +kernel) (by decide +kernel)
def wcX4_init (cA : Nat → ClassId) (b : Nat) (a : Nat → Nat) : va_W := [(b, .inr (4, [.int (0), .int (0), .int (1), .int (30), .int (0), .ref (a 0), .ref (a 1), .ref (a 2), .ref (a 3), .ref (a 4), .ref (a 5), .ref (a 6)])), ((a 0), .inl (cA 10, 10, .inl (lf []))), ((a 1), .inl (cA 10, 10, .inl (lf []))), ((a 2), .inl (cA 10, 10, .inl (lf []))), ((a 3), .inl (cA 10, 4, .inl (lf []))), ((a 4), .inl (cA 10, 4, .inl (lf []))), ((a 5), .inl (cA 10, 4, .inl (lf []))), ((a 6), .inl (cA 10, 4, .inl (lf [])))]
set_option maxRecDepth 100000 in
set_option maxHeartbeats 4000000 in
theorem cnX4_init (l : Launch) : CN l qX4_init 7 46 4 fz4 wcX4_init := CN_of (by decide) rfl (by decide) (fun X b _ => by
    refine TC_aload_n 0 rfl rfl dX4_init_0 ?_
    refine TC_obj koX4_3 (Nat.le_of_ble_eq_true rfl) (Nat.le_of_ble_eq_true rfl) dX4_init_1 ?_
    refine TC_aload_n 0 rfl rfl dX4_init_4 ?_
    refine TC_iconst (0) (by decide) dX4_init_5 ?_
    refine TC_put (ty := .int) (c := 4) (i := 0) (k := 0) (w' := [(b, .inr (4, [.int (0), .int 0, .int 0, .int 0, .int 0, .null, .null, .null, .null, .null, .null, .null]))]) rfl (by decide) rfl kfX4_9 (by decide) rfl rfl rfl (Nat.le_of_ble_eq_true rfl) rfl dX4_init_6 ?_
    refine TC_aload_n 0 rfl rfl dX4_init_9 ?_
    refine TC_iconst (0) (by decide) dX4_init_10 ?_
    refine TC_put (ty := .int) (c := 4) (i := 0) (k := 1) (w' := [(b, .inr (4, [.int (0), .int (0), .int 0, .int 0, .int 0, .null, .null, .null, .null, .null, .null, .null]))]) rfl (by decide) rfl kfX4_15 (by decide) rfl rfl rfl (Nat.le_of_ble_eq_true rfl) rfl dX4_init_11 ?_
    refine TC_aload_n 0 rfl rfl dX4_init_14 ?_
    refine TC_iconst (1) (by decide) dX4_init_15 ?_
    refine TC_put (ty := .int) (c := 4) (i := 0) (k := 2) (w' := [(b, .inr (4, [.int (0), .int (0), .int (1), .int 0, .int 0, .null, .null, .null, .null, .null, .null, .null]))]) rfl (by decide) rfl kfX4_18 (by decide) rfl rfl rfl (Nat.le_of_ble_eq_true rfl) rfl dX4_init_16 ?_
    refine TC_aload_n 0 rfl rfl dX4_init_19 ?_
    refine TC_bipush (30) (by decide) dX4_init_20 ?_
    refine TC_put (ty := .int) (c := 4) (i := 0) (k := 3) (w' := [(b, .inr (4, [.int (0), .int (0), .int (1), .int (30), .int 0, .null, .null, .null, .null, .null, .null, .null]))]) rfl (by decide) rfl kfX4_21 (by decide) rfl rfl rfl (Nat.le_of_ble_eq_true rfl) rfl dX4_init_22 ?_
    refine TC_aload_n 0 rfl rfl dX4_init_25 ?_
    refine TC_iconst (0) (by decide) dX4_init_26 ?_
    refine TC_put (ty := .int) (c := 4) (i := 0) (k := 4) (w' := [(b, .inr (4, [.int (0), .int (0), .int (1), .int (30), .int (0), .null, .null, .null, .null, .null, .null, .null]))]) rfl (by decide) rfl kfX4_24 (by decide) rfl rfl rfl (Nat.le_of_ble_eq_true rfl) rfl dX4_init_27 ?_
    refine TC_aload_n 0 rfl rfl dX4_init_30 ?_
    refine TC_bipush (10) (by decide) dX4_init_31 ?_
    refine TC_naI 10 (by decide) (by decide) (by decide) (Nat.le_of_ble_eq_true rfl) (Nat.le_of_ble_eq_true rfl) dX4_init_33 (fun z1 => ?_)
    refine TC_w (w' := [(b, .inr (4, [.int (0), .int (0), .int (1), .int (30), .int (0), .null, .null, .null, .null, .null, .null, .null])), (z1, .inl ((xcA X) 10, 10, .inl (lf [])))]) rfl ?_
    refine TC_n (c2 := 1) (s2 := 10) rfl rfl ?_
    refine TC_putF (ty := (.array .int)) (c := 4) (i := 0) (k := 5) (w' := [(b, .inr (4, [.int (0), .int (0), .int (1), .int (30), .int (0), .ref z1, .null, .null, .null, .null, .null, .null])), (z1, .inl ((xcA X) 10, 10, .inl (lf [])))]) rfl (by decide) rfl rfl kfX4_27 (by decide) rfl rfl rfl (Nat.le_of_ble_eq_true rfl) rfl dX4_init_35 ?_
    refine TC_aload_n 0 rfl rfl dX4_init_38 ?_
    refine TC_bipush (10) (by decide) dX4_init_39 ?_
    refine TC_naI 10 (by decide) (by decide) (by decide) (Nat.le_of_ble_eq_true rfl) (Nat.le_of_ble_eq_true rfl) dX4_init_41 (fun z2 => ?_)
    refine TC_w (w' := [(b, .inr (4, [.int (0), .int (0), .int (1), .int (30), .int (0), .ref z1, .null, .null, .null, .null, .null, .null])), (z1, .inl ((xcA X) 10, 10, .inl (lf []))), (z2, .inl ((xcA X) 10, 10, .inl (lf [])))]) rfl ?_
    refine TC_n (c2 := 2) (s2 := 20) rfl rfl ?_
    refine TC_putF (ty := (.array .int)) (c := 4) (i := 0) (k := 6) (w' := [(b, .inr (4, [.int (0), .int (0), .int (1), .int (30), .int (0), .ref z1, .ref z2, .null, .null, .null, .null, .null])), (z1, .inl ((xcA X) 10, 10, .inl (lf []))), (z2, .inl ((xcA X) 10, 10, .inl (lf [])))]) rfl (by decide) rfl rfl kfX4_31 (by decide) rfl rfl rfl (Nat.le_of_ble_eq_true rfl) rfl dX4_init_43 ?_
    refine TC_aload_n 0 rfl rfl dX4_init_46 ?_
    refine TC_bipush (10) (by decide) dX4_init_47 ?_
    refine TC_naI 10 (by decide) (by decide) (by decide) (Nat.le_of_ble_eq_true rfl) (Nat.le_of_ble_eq_true rfl) dX4_init_49 (fun z3 => ?_)
    refine TC_w (w' := [(b, .inr (4, [.int (0), .int (0), .int (1), .int (30), .int (0), .ref z1, .ref z2, .null, .null, .null, .null, .null])), (z1, .inl ((xcA X) 10, 10, .inl (lf []))), (z2, .inl ((xcA X) 10, 10, .inl (lf []))), (z3, .inl ((xcA X) 10, 10, .inl (lf [])))]) rfl ?_
    refine TC_n (c2 := 3) (s2 := 30) rfl rfl ?_
    refine TC_putF (ty := (.array .int)) (c := 4) (i := 0) (k := 7) (w' := [(b, .inr (4, [.int (0), .int (0), .int (1), .int (30), .int (0), .ref z1, .ref z2, .ref z3, .null, .null, .null, .null])), (z1, .inl ((xcA X) 10, 10, .inl (lf []))), (z2, .inl ((xcA X) 10, 10, .inl (lf []))), (z3, .inl ((xcA X) 10, 10, .inl (lf [])))]) rfl (by decide) rfl rfl kfX4_34 (by decide) rfl rfl rfl (Nat.le_of_ble_eq_true rfl) rfl dX4_init_51 ?_
    refine TC_aload_n 0 rfl rfl dX4_init_54 ?_
    refine TC_iconst (4) (by decide) dX4_init_55 ?_
    refine TC_naI 4 (by decide) (by decide) (by decide) (Nat.le_of_ble_eq_true rfl) (Nat.le_of_ble_eq_true rfl) dX4_init_56 (fun z4 => ?_)
    refine TC_w (w' := [(b, .inr (4, [.int (0), .int (0), .int (1), .int (30), .int (0), .ref z1, .ref z2, .ref z3, .null, .null, .null, .null])), (z1, .inl ((xcA X) 10, 10, .inl (lf []))), (z2, .inl ((xcA X) 10, 10, .inl (lf []))), (z3, .inl ((xcA X) 10, 10, .inl (lf []))), (z4, .inl ((xcA X) 10, 4, .inl (lf [])))]) rfl ?_
    refine TC_n (c2 := 4) (s2 := 34) rfl rfl ?_
    refine TC_putF (ty := (.array .int)) (c := 4) (i := 0) (k := 8) (w' := [(b, .inr (4, [.int (0), .int (0), .int (1), .int (30), .int (0), .ref z1, .ref z2, .ref z3, .ref z4, .null, .null, .null])), (z1, .inl ((xcA X) 10, 10, .inl (lf []))), (z2, .inl ((xcA X) 10, 10, .inl (lf []))), (z3, .inl ((xcA X) 10, 10, .inl (lf []))), (z4, .inl ((xcA X) 10, 4, .inl (lf [])))]) rfl (by decide) rfl rfl kfX4_37 (by decide) rfl rfl rfl (Nat.le_of_ble_eq_true rfl) rfl dX4_init_58 ?_
    refine TC_aload_n 0 rfl rfl dX4_init_61 ?_
    refine TC_iconst (4) (by decide) dX4_init_62 ?_
    refine TC_naI 4 (by decide) (by decide) (by decide) (Nat.le_of_ble_eq_true rfl) (Nat.le_of_ble_eq_true rfl) dX4_init_63 (fun z5 => ?_)
    refine TC_w (w' := [(b, .inr (4, [.int (0), .int (0), .int (1), .int (30), .int (0), .ref z1, .ref z2, .ref z3, .ref z4, .null, .null, .null])), (z1, .inl ((xcA X) 10, 10, .inl (lf []))), (z2, .inl ((xcA X) 10, 10, .inl (lf []))), (z3, .inl ((xcA X) 10, 10, .inl (lf []))), (z4, .inl ((xcA X) 10, 4, .inl (lf []))), (z5, .inl ((xcA X) 10, 4, .inl (lf [])))]) rfl ?_
    refine TC_n (c2 := 5) (s2 := 38) rfl rfl ?_
    refine TC_putF (ty := (.array .int)) (c := 4) (i := 0) (k := 9) (w' := [(b, .inr (4, [.int (0), .int (0), .int (1), .int (30), .int (0), .ref z1, .ref z2, .ref z3, .ref z4, .ref z5, .null, .null])), (z1, .inl ((xcA X) 10, 10, .inl (lf []))), (z2, .inl ((xcA X) 10, 10, .inl (lf []))), (z3, .inl ((xcA X) 10, 10, .inl (lf []))), (z4, .inl ((xcA X) 10, 4, .inl (lf []))), (z5, .inl ((xcA X) 10, 4, .inl (lf [])))]) rfl (by decide) rfl rfl kfX4_40 (by decide) rfl rfl rfl (Nat.le_of_ble_eq_true rfl) rfl dX4_init_65 ?_
    refine TC_aload_n 0 rfl rfl dX4_init_68 ?_
    refine TC_iconst (4) (by decide) dX4_init_69 ?_
    refine TC_naI 4 (by decide) (by decide) (by decide) (Nat.le_of_ble_eq_true rfl) (Nat.le_of_ble_eq_true rfl) dX4_init_70 (fun z6 => ?_)
    refine TC_w (w' := [(b, .inr (4, [.int (0), .int (0), .int (1), .int (30), .int (0), .ref z1, .ref z2, .ref z3, .ref z4, .ref z5, .null, .null])), (z1, .inl ((xcA X) 10, 10, .inl (lf []))), (z2, .inl ((xcA X) 10, 10, .inl (lf []))), (z3, .inl ((xcA X) 10, 10, .inl (lf []))), (z4, .inl ((xcA X) 10, 4, .inl (lf []))), (z5, .inl ((xcA X) 10, 4, .inl (lf []))), (z6, .inl ((xcA X) 10, 4, .inl (lf [])))]) rfl ?_
    refine TC_n (c2 := 6) (s2 := 42) rfl rfl ?_
    refine TC_putF (ty := (.array .int)) (c := 4) (i := 0) (k := 10) (w' := [(b, .inr (4, [.int (0), .int (0), .int (1), .int (30), .int (0), .ref z1, .ref z2, .ref z3, .ref z4, .ref z5, .ref z6, .null])), (z1, .inl ((xcA X) 10, 10, .inl (lf []))), (z2, .inl ((xcA X) 10, 10, .inl (lf []))), (z3, .inl ((xcA X) 10, 10, .inl (lf []))), (z4, .inl ((xcA X) 10, 4, .inl (lf []))), (z5, .inl ((xcA X) 10, 4, .inl (lf []))), (z6, .inl ((xcA X) 10, 4, .inl (lf [])))]) rfl (by decide) rfl rfl kfX4_43 (by decide) rfl rfl rfl (Nat.le_of_ble_eq_true rfl) rfl dX4_init_72 ?_
    refine TC_aload_n 0 rfl rfl dX4_init_75 ?_
    refine TC_iconst (4) (by decide) dX4_init_76 ?_
    refine TC_naI 4 (by decide) (by decide) (by decide) (Nat.le_of_ble_eq_true rfl) (Nat.le_of_ble_eq_true rfl) dX4_init_77 (fun z7 => ?_)
    refine TC_w (w' := [(b, .inr (4, [.int (0), .int (0), .int (1), .int (30), .int (0), .ref z1, .ref z2, .ref z3, .ref z4, .ref z5, .ref z6, .null])), (z1, .inl ((xcA X) 10, 10, .inl (lf []))), (z2, .inl ((xcA X) 10, 10, .inl (lf []))), (z3, .inl ((xcA X) 10, 10, .inl (lf []))), (z4, .inl ((xcA X) 10, 4, .inl (lf []))), (z5, .inl ((xcA X) 10, 4, .inl (lf []))), (z6, .inl ((xcA X) 10, 4, .inl (lf []))), (z7, .inl ((xcA X) 10, 4, .inl (lf [])))]) rfl ?_
    refine TC_n (c2 := 7) (s2 := 46) rfl rfl ?_
    refine TC_putF (ty := (.array .int)) (c := 4) (i := 0) (k := 11) (w' := [(b, .inr (4, [.int (0), .int (0), .int (1), .int (30), .int (0), .ref z1, .ref z2, .ref z3, .ref z4, .ref z5, .ref z6, .ref z7])), (z1, .inl ((xcA X) 10, 10, .inl (lf []))), (z2, .inl ((xcA X) 10, 10, .inl (lf []))), (z3, .inl ((xcA X) 10, 10, .inl (lf []))), (z4, .inl ((xcA X) 10, 4, .inl (lf []))), (z5, .inl ((xcA X) 10, 4, .inl (lf []))), (z6, .inl ((xcA X) 10, 4, .inl (lf []))), (z7, .inl ((xcA X) 10, 4, .inl (lf [])))]) rfl (by decide) rfl rfl kfX4_46 (by decide) rfl rfl rfl (Nat.le_of_ble_eq_true rfl) rfl dX4_init_79 ?_
    exact TC_ret (fun i => [z1, z2, z3, z4, z5, z6, z7].getD i 0) [0, 1, 2, 3, 4, 5, 6, 7] rfl (by decide) rfl rfl dX4_init_82)
abbrev qX6_init : mMI := (yX6_init, cX6_init, 1, none, 1)
theorem dX6_init_0 : decode cX6_init 0 = .ok (.aload_n 0, 1) := by decide +kernel
theorem dX6_init_1 : decode cX6_init 1 = .ok (.invokespecial 3, 3) := by decide +kernel
theorem dX6_init_4 : decode cX6_init 4 = .ok (.aload_n 0, 1) := by decide +kernel
theorem dX6_init_5 : decode cX6_init 5 = .ok (.iconst 0, 1) := by decide +kernel
theorem dX6_init_6 : decode cX6_init 6 = .ok (.putfield 9, 3) := by decide +kernel
theorem dX6_init_9 : decode cX6_init 9 = .ok (.aload_n 0, 1) := by decide +kernel
theorem dX6_init_10 : decode cX6_init 10 = .ok (.iconst 0, 1) := by decide +kernel
theorem dX6_init_11 : decode cX6_init 11 = .ok (.putfield 15, 3) := by decide +kernel
theorem dX6_init_14 : decode cX6_init 14 = .ok (.aload_n 0, 1) := by decide +kernel
theorem dX6_init_15 : decode cX6_init 15 = .ok (.iconst 0, 1) := by decide +kernel
theorem dX6_init_16 : decode cX6_init 16 = .ok (.putfield 18, 3) := by decide +kernel
theorem dX6_init_19 : decode cX6_init 19 = .ok (.aload_n 0, 1) := by decide +kernel
theorem dX6_init_20 : decode cX6_init 20 = .ok (.sipush 160, 3) := by decide +kernel
theorem dX6_init_23 : decode cX6_init 23 = .ok (.newarray .byte, 2) := by decide +kernel
theorem dX6_init_25 : decode cX6_init 25 = .ok (.putfield 21, 3) := by decide +kernel
theorem dX6_init_28 : decode cX6_init 28 = .ok (.aload_n 0, 1) := by decide +kernel
theorem dX6_init_29 : decode cX6_init 29 = .ok (.iconst 4, 1) := by decide +kernel
theorem dX6_init_30 : decode cX6_init 30 = .ok (.newarray .int, 2) := by decide +kernel
theorem dX6_init_32 : decode cX6_init 32 = .ok (.putfield 25, 3) := by decide +kernel
theorem dX6_init_35 : decode cX6_init 35 = .ok (.aload_n 0, 1) := by decide +kernel
theorem dX6_init_36 : decode cX6_init 36 = .ok (.iconst 0, 1) := by decide +kernel
theorem dX6_init_37 : decode cX6_init 37 = .ok (.putfield 29, 3) := by decide +kernel
theorem dX6_init_40 : decode cX6_init 40 = .ok (.aload_n 0, 1) := by decide +kernel
theorem dX6_init_41 : decode cX6_init 41 = .ok (.iconst 0, 1) := by decide +kernel
theorem dX6_init_42 : decode cX6_init 42 = .ok (.putfield 32, 3) := by decide +kernel
theorem dX6_init_45 : decode cX6_init 45 = .ok (.aload_n 0, 1) := by decide +kernel
theorem dX6_init_46 : decode cX6_init 46 = .ok (.iconst 0, 1) := by decide +kernel
theorem dX6_init_47 : decode cX6_init 47 = .ok (.putfield 35, 3) := by decide +kernel
theorem dX6_init_50 : decode cX6_init 50 = .ok (.aload_n 0, 1) := by decide +kernel
theorem dX6_init_51 : decode cX6_init 51 = .ok (.iconst 0, 1) := by decide +kernel
theorem dX6_init_52 : decode cX6_init 52 = .ok (.putfield 38, 3) := by decide +kernel
theorem dX6_init_55 : decode cX6_init 55 = .ok (.aload_n 0, 1) := by decide +kernel
theorem dX6_init_56 : decode cX6_init 56 = .ok (.iconst 0, 1) := by decide +kernel
theorem dX6_init_57 : decode cX6_init 57 = .ok (.putfield 42, 3) := by decide +kernel
theorem dX6_init_60 : decode cX6_init 60 = .ok (.return_, 1) := by decide +kernel
theorem mkX6_init : mok qX6_init 0 := ⟨⟨⟨by decide, by decide, by decide +kernel⟩, by decide⟩, gd_mem 52 (by decide +kernel) (by decide +kernel), gd_mem 80 (by decide +kernel) (by decide +kernel)⟩
theorem imX6_init : Cond.instanceMethod qX6_init.1 ∈ gdL := gd_mem 79 (by decide +kernel) (by decide +kernel)
theorem koX6_3 : Cond.methodLink RX6 3 Lib.objectInit ∈ gdL := gd_mem 81 (by decide +kernel) (by decide +kernel)
theorem kfX6_9 : Cond.fieldLink RX6 9 "RankStairs$Tape" "length" "I" ∈ gdL := gd_mem 82 (by decide +kernel) (by decide +kernel)
theorem kfX6_15 : Cond.fieldLink RX6 15 "RankStairs$Tape" "found" "I" ∈ gdL := gd_mem 84 (by decide +kernel) (by decide +kernel)
theorem kfX6_18 : Cond.fieldLink RX6 18 "RankStairs$Tape" "foundAt" "I" ∈ gdL := gd_mem 86 (by decide +kernel) (by decide +kernel)
theorem kfX6_21 : Cond.fieldLink RX6 21 "RankStairs$Tape" "bytes" "[B" ∈ gdL := gd_mem 87 (by decide +kernel) (by decide +kernel)
theorem kfX6_25 : Cond.fieldLink RX6 25 "RankStairs$Tape" "numbers" "[I" ∈ gdL := gd_mem 88 (by decide +kernel) (by decide +kernel)
theorem kfX6_29 : Cond.fieldLink RX6 29 "RankStairs$Tape" "place" "I" ∈ gdL := gd_mem 89 (by decide +kernel) (by decide +kernel)
theorem kfX6_32 : Cond.fieldLink RX6 32 "RankStairs$Tape" "token" "I" ∈ gdL := gd_mem 90 (by decide +kernel) (by decide +kernel)
theorem kfX6_35 : Cond.fieldLink RX6 35 "RankStairs$Tape" "tokenAt" "I" ∈ gdL := gd_mem 91 (by decide +kernel) (by decide +kernel)
theorem kfX6_38 : Cond.fieldLink RX6 38 "RankStairs$Tape" "gapTold" "Z" ∈ gdL := gd_mem 92 (by decide +kernel) (by decide +kernel)
theorem kfX6_42 : Cond.fieldLink RX6 42 "RankStairs$Tape" "holdTold" "Z" ∈ gdL := gd_mem 93 (by decide +kernel) (by decide +kernel)
def wcX6_init (cA : Nat → ClassId) (b : Nat) (a : Nat → Nat) : va_W := [(b, .inr (6, [.int (0), .int (0), .int (0), .ref (a 0), .ref (a 1), .int (0), .int (0), .int (0), .int (0), .int (0)])), ((a 0), .inl (cA 9, 160, .inl (lf []))), ((a 1), .inl (cA 10, 4, .inl (lf [])))]
set_option maxRecDepth 100000 in
set_option maxHeartbeats 4000000 in
theorem cnX6_init (l : Launch) : CN l qX6_init 2 164 6 fz6 wcX6_init := CN_of (by decide) rfl (by decide) (fun X b _ => by
    refine TC_aload_n 0 rfl rfl dX6_init_0 ?_
    refine TC_obj koX6_3 (Nat.le_of_ble_eq_true rfl) (Nat.le_of_ble_eq_true rfl) dX6_init_1 ?_
    refine TC_aload_n 0 rfl rfl dX6_init_4 ?_
    refine TC_iconst (0) (by decide) dX6_init_5 ?_
    refine TC_put (ty := .int) (c := 6) (i := 0) (k := 0) (w' := [(b, .inr (6, [.int (0), .int 0, .int 0, .null, .null, .int 0, .int 0, .int 0, .int 0, .int 0]))]) rfl (by decide) rfl kfX6_9 (by decide) rfl rfl rfl (Nat.le_of_ble_eq_true rfl) rfl dX6_init_6 ?_
    refine TC_aload_n 0 rfl rfl dX6_init_9 ?_
    refine TC_iconst (0) (by decide) dX6_init_10 ?_
    refine TC_put (ty := .int) (c := 6) (i := 0) (k := 1) (w' := [(b, .inr (6, [.int (0), .int (0), .int 0, .null, .null, .int 0, .int 0, .int 0, .int 0, .int 0]))]) rfl (by decide) rfl kfX6_15 (by decide) rfl rfl rfl (Nat.le_of_ble_eq_true rfl) rfl dX6_init_11 ?_
    refine TC_aload_n 0 rfl rfl dX6_init_14 ?_
    refine TC_iconst (0) (by decide) dX6_init_15 ?_
    refine TC_put (ty := .int) (c := 6) (i := 0) (k := 2) (w' := [(b, .inr (6, [.int (0), .int (0), .int (0), .null, .null, .int 0, .int 0, .int 0, .int 0, .int 0]))]) rfl (by decide) rfl kfX6_18 (by decide) rfl rfl rfl (Nat.le_of_ble_eq_true rfl) rfl dX6_init_16 ?_
    refine TC_aload_n 0 rfl rfl dX6_init_19 ?_
    refine TC_sipush (160) (by decide) dX6_init_20 ?_
    refine TC_naB 160 (by decide) (by decide) (by decide) (Nat.le_of_ble_eq_true rfl) (Nat.le_of_ble_eq_true rfl) dX6_init_23 (fun z1 => ?_)
    refine TC_w (w' := [(b, .inr (6, [.int (0), .int (0), .int (0), .null, .null, .int 0, .int 0, .int 0, .int 0, .int 0])), (z1, .inl ((xcA X) 9, 160, .inl (lf [])))]) rfl ?_
    refine TC_n (c2 := 1) (s2 := 160) rfl rfl ?_
    refine TC_putF (ty := (.array .byte)) (c := 6) (i := 0) (k := 3) (w' := [(b, .inr (6, [.int (0), .int (0), .int (0), .ref z1, .null, .int 0, .int 0, .int 0, .int 0, .int 0])), (z1, .inl ((xcA X) 9, 160, .inl (lf [])))]) rfl (by decide) rfl rfl kfX6_21 (by decide) rfl rfl rfl (Nat.le_of_ble_eq_true rfl) rfl dX6_init_25 ?_
    refine TC_aload_n 0 rfl rfl dX6_init_28 ?_
    refine TC_iconst (4) (by decide) dX6_init_29 ?_
    refine TC_naI 4 (by decide) (by decide) (by decide) (Nat.le_of_ble_eq_true rfl) (Nat.le_of_ble_eq_true rfl) dX6_init_30 (fun z2 => ?_)
    refine TC_w (w' := [(b, .inr (6, [.int (0), .int (0), .int (0), .ref z1, .null, .int 0, .int 0, .int 0, .int 0, .int 0])), (z1, .inl ((xcA X) 9, 160, .inl (lf []))), (z2, .inl ((xcA X) 10, 4, .inl (lf [])))]) rfl ?_
    refine TC_n (c2 := 2) (s2 := 164) rfl rfl ?_
    refine TC_putF (ty := (.array .int)) (c := 6) (i := 0) (k := 4) (w' := [(b, .inr (6, [.int (0), .int (0), .int (0), .ref z1, .ref z2, .int 0, .int 0, .int 0, .int 0, .int 0])), (z1, .inl ((xcA X) 9, 160, .inl (lf []))), (z2, .inl ((xcA X) 10, 4, .inl (lf [])))]) rfl (by decide) rfl rfl kfX6_25 (by decide) rfl rfl rfl (Nat.le_of_ble_eq_true rfl) rfl dX6_init_32 ?_
    refine TC_aload_n 0 rfl rfl dX6_init_35 ?_
    refine TC_iconst (0) (by decide) dX6_init_36 ?_
    refine TC_put (ty := .int) (c := 6) (i := 0) (k := 5) (w' := [(b, .inr (6, [.int (0), .int (0), .int (0), .ref z1, .ref z2, .int (0), .int 0, .int 0, .int 0, .int 0])), (z1, .inl ((xcA X) 9, 160, .inl (lf []))), (z2, .inl ((xcA X) 10, 4, .inl (lf [])))]) rfl (by decide) rfl kfX6_29 (by decide) rfl rfl rfl (Nat.le_of_ble_eq_true rfl) rfl dX6_init_37 ?_
    refine TC_aload_n 0 rfl rfl dX6_init_40 ?_
    refine TC_iconst (0) (by decide) dX6_init_41 ?_
    refine TC_put (ty := .int) (c := 6) (i := 0) (k := 6) (w' := [(b, .inr (6, [.int (0), .int (0), .int (0), .ref z1, .ref z2, .int (0), .int (0), .int 0, .int 0, .int 0])), (z1, .inl ((xcA X) 9, 160, .inl (lf []))), (z2, .inl ((xcA X) 10, 4, .inl (lf [])))]) rfl (by decide) rfl kfX6_32 (by decide) rfl rfl rfl (Nat.le_of_ble_eq_true rfl) rfl dX6_init_42 ?_
    refine TC_aload_n 0 rfl rfl dX6_init_45 ?_
    refine TC_iconst (0) (by decide) dX6_init_46 ?_
    refine TC_put (ty := .int) (c := 6) (i := 0) (k := 7) (w' := [(b, .inr (6, [.int (0), .int (0), .int (0), .ref z1, .ref z2, .int (0), .int (0), .int (0), .int 0, .int 0])), (z1, .inl ((xcA X) 9, 160, .inl (lf []))), (z2, .inl ((xcA X) 10, 4, .inl (lf [])))]) rfl (by decide) rfl kfX6_35 (by decide) rfl rfl rfl (Nat.le_of_ble_eq_true rfl) rfl dX6_init_47 ?_
    refine TC_aload_n 0 rfl rfl dX6_init_50 ?_
    refine TC_iconst (0) (by decide) dX6_init_51 ?_
    refine TC_put (ty := .boolean) (c := 6) (i := 0) (k := 8) (w' := [(b, .inr (6, [.int (0), .int (0), .int (0), .ref z1, .ref z2, .int (0), .int (0), .int (0), .int (0), .int 0])), (z1, .inl ((xcA X) 9, 160, .inl (lf []))), (z2, .inl ((xcA X) 10, 4, .inl (lf [])))]) rfl (by decide) rfl kfX6_38 (by decide) rfl rfl rfl (Nat.le_of_ble_eq_true rfl) rfl dX6_init_52 ?_
    refine TC_aload_n 0 rfl rfl dX6_init_55 ?_
    refine TC_iconst (0) (by decide) dX6_init_56 ?_
    refine TC_put (ty := .boolean) (c := 6) (i := 0) (k := 9) (w' := [(b, .inr (6, [.int (0), .int (0), .int (0), .ref z1, .ref z2, .int (0), .int (0), .int (0), .int (0), .int (0)])), (z1, .inl ((xcA X) 9, 160, .inl (lf []))), (z2, .inl ((xcA X) 10, 4, .inl (lf [])))]) rfl (by decide) rfl kfX6_42 (by decide) rfl rfl rfl (Nat.le_of_ble_eq_true rfl) rfl dX6_init_57 ?_
    exact TC_ret (fun i => [z1, z2].getD i 0) [0, 1, 2] rfl (by decide) rfl rfl dX6_init_60)
abbrev qX5_init : mMI := (yX5_init, cX5_init, 1, none, 1)
theorem dX5_init_0 : decode cX5_init 0 = .ok (.aload_n 0, 1) := by decide +kernel
theorem dX5_init_1 : decode cX5_init 1 = .ok (.invokespecial 1, 3) := by decide +kernel
theorem dX5_init_4 : decode cX5_init 4 = .ok (.aload_n 0, 1) := by decide +kernel
theorem dX5_init_5 : decode cX5_init 5 = .ok (.iconst 0, 1) := by decide +kernel
theorem dX5_init_6 : decode cX5_init 6 = .ok (.putfield 7, 3) := by decide +kernel
theorem dX5_init_9 : decode cX5_init 9 = .ok (.aload_n 0, 1) := by decide +kernel
theorem dX5_init_10 : decode cX5_init 10 = .ok (.bipush 40, 2) := by decide +kernel
theorem dX5_init_12 : decode cX5_init 12 = .ok (.newarray .int, 2) := by decide +kernel
theorem dX5_init_14 : decode cX5_init 14 = .ok (.putfield 13, 3) := by decide +kernel
theorem dX5_init_17 : decode cX5_init 17 = .ok (.aload_n 0, 1) := by decide +kernel
theorem dX5_init_18 : decode cX5_init 18 = .ok (.iconst (-1), 1) := by decide +kernel
theorem dX5_init_19 : decode cX5_init 19 = .ok (.putfield 17, 3) := by decide +kernel
theorem dX5_init_22 : decode cX5_init 22 = .ok (.return_, 1) := by decide +kernel
theorem mkX5_init : mok qX5_init 0 := ⟨⟨⟨by decide, by decide, by decide +kernel⟩, by decide⟩, gd_mem 58 (by decide +kernel) (by decide +kernel), gd_mem 286 (by decide +kernel) (by decide +kernel)⟩
theorem imX5_init : Cond.instanceMethod qX5_init.1 ∈ gdL := gd_mem 285 (by decide +kernel) (by decide +kernel)
theorem koX5_1 : Cond.methodLink RX5 1 Lib.objectInit ∈ gdL := gd_mem 287 (by decide +kernel) (by decide +kernel)
theorem kfX5_7 : Cond.fieldLink RX5 7 "RankStairs$Sheet" "size" "I" ∈ gdL := gd_mem 288 (by decide +kernel) (by decide +kernel)
theorem kfX5_13 : Cond.fieldLink RX5 13 "RankStairs$Sheet" "cells" "[I" ∈ gdL := gd_mem 290 (by decide +kernel) (by decide +kernel)
theorem kfX5_17 : Cond.fieldLink RX5 17 "RankStairs$Sheet" "itsLane" "I" ∈ gdL := gd_mem 292 (by decide +kernel) (by decide +kernel)
def wcX5_init (cA : Nat → ClassId) (b : Nat) (a : Nat → Nat) : va_W := [(b, .inr (5, [.int (0), .ref (a 0), .int (-1)])), ((a 0), .inl (cA 10, 40, .inl (lf [])))]
set_option maxRecDepth 100000 in
set_option maxHeartbeats 4000000 in
theorem cnX5_init (l : Launch) : CN l qX5_init 1 40 5 fz5 wcX5_init := CN_of (by decide) rfl (by decide) (fun X b _ => by
    refine TC_aload_n 0 rfl rfl dX5_init_0 ?_
    refine TC_obj koX5_1 (Nat.le_of_ble_eq_true rfl) (Nat.le_of_ble_eq_true rfl) dX5_init_1 ?_
    refine TC_aload_n 0 rfl rfl dX5_init_4 ?_
    refine TC_iconst (0) (by decide) dX5_init_5 ?_
    refine TC_put (ty := .int) (c := 5) (i := 0) (k := 0) (w' := [(b, .inr (5, [.int (0), .null, .int 0]))]) rfl (by decide) rfl kfX5_7 (by decide) rfl rfl rfl (Nat.le_of_ble_eq_true rfl) rfl dX5_init_6 ?_
    refine TC_aload_n 0 rfl rfl dX5_init_9 ?_
    refine TC_bipush (40) (by decide) dX5_init_10 ?_
    refine TC_naI 40 (by decide) (by decide) (by decide) (Nat.le_of_ble_eq_true rfl) (Nat.le_of_ble_eq_true rfl) dX5_init_12 (fun z1 => ?_)
    refine TC_w (w' := [(b, .inr (5, [.int (0), .null, .int 0])), (z1, .inl ((xcA X) 10, 40, .inl (lf [])))]) rfl ?_
    refine TC_n (c2 := 1) (s2 := 40) rfl rfl ?_
    refine TC_putF (ty := (.array .int)) (c := 5) (i := 0) (k := 1) (w' := [(b, .inr (5, [.int (0), .ref z1, .int 0])), (z1, .inl ((xcA X) 10, 40, .inl (lf [])))]) rfl (by decide) rfl rfl kfX5_13 (by decide) rfl rfl rfl (Nat.le_of_ble_eq_true rfl) rfl dX5_init_14 ?_
    refine TC_aload_n 0 rfl rfl dX5_init_17 ?_
    refine TC_iconst (-1) (by decide) dX5_init_18 ?_
    refine TC_put (ty := .int) (c := 5) (i := 0) (k := 2) (w' := [(b, .inr (5, [.int (0), .ref z1, .int (-1)])), (z1, .inl ((xcA X) 10, 40, .inl (lf [])))]) rfl (by decide) rfl kfX5_17 (by decide) rfl rfl rfl (Nat.le_of_ble_eq_true rfl) rfl dX5_init_19 ?_
    exact TC_ret (fun i => [z1].getD i 0) [0, 1] rfl (by decide) rfl rfl dX5_init_22)
abbrev qX1_init : mMI := (yX1_init, cX1_init, 1, none, 1)
theorem dX1_init_0 : decode cX1_init 0 = .ok (.aload_n 0, 1) := by decide +kernel
theorem dX1_init_1 : decode cX1_init 1 = .ok (.invokespecial 3, 3) := by decide +kernel
theorem dX1_init_4 : decode cX1_init 4 = .ok (.aload_n 0, 1) := by decide +kernel
theorem dX1_init_5 : decode cX1_init 5 = .ok (.bipush 10, 2) := by decide +kernel
theorem dX1_init_7 : decode cX1_init 7 = .ok (.newarray .int, 2) := by decide +kernel
theorem dX1_init_9 : decode cX1_init 9 = .ok (.putfield 9, 3) := by decide +kernel
theorem dX1_init_12 : decode cX1_init 12 = .ok (.aload_n 0, 1) := by decide +kernel
theorem dX1_init_13 : decode cX1_init 13 = .ok (.bipush 10, 2) := by decide +kernel
theorem dX1_init_15 : decode cX1_init 15 = .ok (.newarray .int, 2) := by decide +kernel
theorem dX1_init_17 : decode cX1_init 17 = .ok (.putfield 15, 3) := by decide +kernel
theorem dX1_init_20 : decode cX1_init 20 = .ok (.return_, 1) := by decide +kernel
theorem mkX1_init : mok qX1_init 0 := ⟨⟨⟨by decide, by decide, by decide +kernel⟩, by decide⟩, gd_mem 54 (by decide +kernel) (by decide +kernel), gd_mem 195 (by decide +kernel) (by decide +kernel)⟩
theorem imX1_init : Cond.instanceMethod qX1_init.1 ∈ gdL := gd_mem 194 (by decide +kernel) (by decide +kernel)
theorem koX1_3 : Cond.methodLink RX1 3 Lib.objectInit ∈ gdL := gd_mem 196 (by decide +kernel) (by decide +kernel)
theorem kfX1_9 : Cond.fieldLink RX1 9 "RankStairs$Climber" "paths" "[I" ∈ gdL := gd_mem 197 (by decide +kernel) (by decide +kernel)
theorem kfX1_15 : Cond.fieldLink RX1 15 "RankStairs$Climber" "row" "[I" ∈ gdL := gd_mem 198 (by decide +kernel) (by decide +kernel)
def wcX1_init (cA : Nat → ClassId) (b : Nat) (a : Nat → Nat) : va_W := [(b, .inr (1, [.ref (a 0), .ref (a 1)])), ((a 0), .inl (cA 10, 10, .inl (lf []))), ((a 1), .inl (cA 10, 10, .inl (lf [])))]
set_option maxRecDepth 100000 in
set_option maxHeartbeats 4000000 in
theorem cnX1_init (l : Launch) : CN l qX1_init 2 20 1 fz1 wcX1_init := CN_of (by decide) rfl (by decide) (fun X b _ => by
    refine TC_aload_n 0 rfl rfl dX1_init_0 ?_
    refine TC_obj koX1_3 (Nat.le_of_ble_eq_true rfl) (Nat.le_of_ble_eq_true rfl) dX1_init_1 ?_
    refine TC_aload_n 0 rfl rfl dX1_init_4 ?_
    refine TC_bipush (10) (by decide) dX1_init_5 ?_
    refine TC_naI 10 (by decide) (by decide) (by decide) (Nat.le_of_ble_eq_true rfl) (Nat.le_of_ble_eq_true rfl) dX1_init_7 (fun z1 => ?_)
    refine TC_w (w' := [(b, .inr (1, fz1)), (z1, .inl ((xcA X) 10, 10, .inl (lf [])))]) rfl ?_
    refine TC_n (c2 := 1) (s2 := 10) rfl rfl ?_
    refine TC_putF (ty := (.array .int)) (c := 1) (i := 0) (k := 0) (w' := [(b, .inr (1, [.ref z1, .null])), (z1, .inl ((xcA X) 10, 10, .inl (lf [])))]) rfl (by decide) rfl rfl kfX1_9 (by decide) rfl rfl rfl (Nat.le_of_ble_eq_true rfl) rfl dX1_init_9 ?_
    refine TC_aload_n 0 rfl rfl dX1_init_12 ?_
    refine TC_bipush (10) (by decide) dX1_init_13 ?_
    refine TC_naI 10 (by decide) (by decide) (by decide) (Nat.le_of_ble_eq_true rfl) (Nat.le_of_ble_eq_true rfl) dX1_init_15 (fun z2 => ?_)
    refine TC_w (w' := [(b, .inr (1, [.ref z1, .null])), (z1, .inl ((xcA X) 10, 10, .inl (lf []))), (z2, .inl ((xcA X) 10, 10, .inl (lf [])))]) rfl ?_
    refine TC_n (c2 := 2) (s2 := 20) rfl rfl ?_
    refine TC_putF (ty := (.array .int)) (c := 1) (i := 0) (k := 1) (w' := [(b, .inr (1, [.ref z1, .ref z2])), (z1, .inl ((xcA X) 10, 10, .inl (lf []))), (z2, .inl ((xcA X) 10, 10, .inl (lf [])))]) rfl (by decide) rfl rfl kfX1_15 (by decide) rfl rfl rfl (Nat.le_of_ble_eq_true rfl) rfl dX1_init_17 ?_
    exact TC_ret (fun i => [z1, z2].getD i 0) [0, 1, 2] rfl (by decide) rfl rfl dX1_init_20)
abbrev qX3_init : mMI := (yX3_init, cX3_init, 1, none, 1)
theorem dX3_init_0 : decode cX3_init 0 = .ok (.aload_n 0, 1) := by decide +kernel
theorem dX3_init_1 : decode cX3_init 1 = .ok (.invokespecial 3, 3) := by decide +kernel
theorem dX3_init_4 : decode cX3_init 4 = .ok (.aload_n 0, 1) := by decide +kernel
theorem dX3_init_5 : decode cX3_init 5 = .ok (.iconst 0, 1) := by decide +kernel
theorem dX3_init_6 : decode cX3_init 6 = .ok (.putfield 9, 3) := by decide +kernel
theorem dX3_init_9 : decode cX3_init 9 = .ok (.aload_n 0, 1) := by decide +kernel
theorem dX3_init_10 : decode cX3_init 10 = .ok (.iconst 0, 1) := by decide +kernel
theorem dX3_init_11 : decode cX3_init 11 = .ok (.putfield 15, 3) := by decide +kernel
theorem dX3_init_14 : decode cX3_init 14 = .ok (.aload_n 0, 1) := by decide +kernel
theorem dX3_init_15 : decode cX3_init 15 = .ok (.iconst 4, 1) := by decide +kernel
theorem dX3_init_16 : decode cX3_init 16 = .ok (.newarray .int, 2) := by decide +kernel
theorem dX3_init_18 : decode cX3_init 18 = .ok (.putfield 18, 3) := by decide +kernel
theorem dX3_init_21 : decode cX3_init 21 = .ok (.aload_n 0, 1) := by decide +kernel
theorem dX3_init_22 : decode cX3_init 22 = .ok (.iconst 4, 1) := by decide +kernel
theorem dX3_init_23 : decode cX3_init 23 = .ok (.newarray .int, 2) := by decide +kernel
theorem dX3_init_25 : decode cX3_init 25 = .ok (.putfield 22, 3) := by decide +kernel
theorem dX3_init_28 : decode cX3_init 28 = .ok (.aload_n 0, 1) := by decide +kernel
theorem dX3_init_29 : decode cX3_init 29 = .ok (.bipush 10, 2) := by decide +kernel
theorem dX3_init_31 : decode cX3_init 31 = .ok (.newarray .int, 2) := by decide +kernel
theorem dX3_init_33 : decode cX3_init 33 = .ok (.putfield 25, 3) := by decide +kernel
theorem dX3_init_36 : decode cX3_init 36 = .ok (.aload_n 0, 1) := by decide +kernel
theorem dX3_init_37 : decode cX3_init 37 = .ok (.bipush 16, 2) := by decide +kernel
theorem dX3_init_39 : decode cX3_init 39 = .ok (.newarray .int, 2) := by decide +kernel
theorem dX3_init_41 : decode cX3_init 41 = .ok (.putfield 28, 3) := by decide +kernel
theorem dX3_init_44 : decode cX3_init 44 = .ok (.return_, 1) := by decide +kernel
theorem mkX3_init : mok qX3_init 0 := ⟨⟨⟨by decide, by decide, by decide +kernel⟩, by decide⟩, gd_mem 55 (by decide +kernel) (by decide +kernel), gd_mem 209 (by decide +kernel) (by decide +kernel)⟩
theorem imX3_init : Cond.instanceMethod qX3_init.1 ∈ gdL := gd_mem 208 (by decide +kernel) (by decide +kernel)
theorem koX3_3 : Cond.methodLink RX3 3 Lib.objectInit ∈ gdL := gd_mem 210 (by decide +kernel) (by decide +kernel)
theorem kfX3_9 : Cond.fieldLink RX3 9 "RankStairs$Exchange" "bestHave" "I" ∈ gdL := gd_mem 211 (by decide +kernel) (by decide +kernel)
theorem kfX3_15 : Cond.fieldLink RX3 15 "RankStairs$Exchange" "bestSteps" "I" ∈ gdL := gd_mem 213 (by decide +kernel) (by decide +kernel)
theorem kfX3_18 : Cond.fieldLink RX3 18 "RankStairs$Exchange" "bestTakes" "[I" ∈ gdL := gd_mem 215 (by decide +kernel) (by decide +kernel)
theorem kfX3_22 : Cond.fieldLink RX3 22 "RankStairs$Exchange" "takes" "[I" ∈ gdL := gd_mem 217 (by decide +kernel) (by decide +kernel)
theorem kfX3_25 : Cond.fieldLink RX3 25 "RankStairs$Exchange" "paths" "[I" ∈ gdL := gd_mem 218 (by decide +kernel) (by decide +kernel)
theorem kfX3_28 : Cond.fieldLink RX3 28 "RankStairs$Exchange" "lengths" "[I" ∈ gdL := gd_mem 219 (by decide +kernel) (by decide +kernel)
def wcX3_init (cA : Nat → ClassId) (b : Nat) (a : Nat → Nat) : va_W := [(b, .inr (3, [.int (0), .int (0), .ref (a 0), .ref (a 1), .ref (a 2), .ref (a 3)])), ((a 0), .inl (cA 10, 4, .inl (lf []))), ((a 1), .inl (cA 10, 4, .inl (lf []))), ((a 2), .inl (cA 10, 10, .inl (lf []))), ((a 3), .inl (cA 10, 16, .inl (lf [])))]
set_option maxRecDepth 100000 in
set_option maxHeartbeats 4000000 in
theorem cnX3_init (l : Launch) : CN l qX3_init 4 34 3 fz3 wcX3_init := CN_of (by decide) rfl (by decide) (fun X b _ => by
    refine TC_aload_n 0 rfl rfl dX3_init_0 ?_
    refine TC_obj koX3_3 (Nat.le_of_ble_eq_true rfl) (Nat.le_of_ble_eq_true rfl) dX3_init_1 ?_
    refine TC_aload_n 0 rfl rfl dX3_init_4 ?_
    refine TC_iconst (0) (by decide) dX3_init_5 ?_
    refine TC_put (ty := .int) (c := 3) (i := 0) (k := 0) (w' := [(b, .inr (3, [.int (0), .int 0, .null, .null, .null, .null]))]) rfl (by decide) rfl kfX3_9 (by decide) rfl rfl rfl (Nat.le_of_ble_eq_true rfl) rfl dX3_init_6 ?_
    refine TC_aload_n 0 rfl rfl dX3_init_9 ?_
    refine TC_iconst (0) (by decide) dX3_init_10 ?_
    refine TC_put (ty := .int) (c := 3) (i := 0) (k := 1) (w' := [(b, .inr (3, [.int (0), .int (0), .null, .null, .null, .null]))]) rfl (by decide) rfl kfX3_15 (by decide) rfl rfl rfl (Nat.le_of_ble_eq_true rfl) rfl dX3_init_11 ?_
    refine TC_aload_n 0 rfl rfl dX3_init_14 ?_
    refine TC_iconst (4) (by decide) dX3_init_15 ?_
    refine TC_naI 4 (by decide) (by decide) (by decide) (Nat.le_of_ble_eq_true rfl) (Nat.le_of_ble_eq_true rfl) dX3_init_16 (fun z1 => ?_)
    refine TC_w (w' := [(b, .inr (3, [.int (0), .int (0), .null, .null, .null, .null])), (z1, .inl ((xcA X) 10, 4, .inl (lf [])))]) rfl ?_
    refine TC_n (c2 := 1) (s2 := 4) rfl rfl ?_
    refine TC_putF (ty := (.array .int)) (c := 3) (i := 0) (k := 2) (w' := [(b, .inr (3, [.int (0), .int (0), .ref z1, .null, .null, .null])), (z1, .inl ((xcA X) 10, 4, .inl (lf [])))]) rfl (by decide) rfl rfl kfX3_18 (by decide) rfl rfl rfl (Nat.le_of_ble_eq_true rfl) rfl dX3_init_18 ?_
    refine TC_aload_n 0 rfl rfl dX3_init_21 ?_
    refine TC_iconst (4) (by decide) dX3_init_22 ?_
    refine TC_naI 4 (by decide) (by decide) (by decide) (Nat.le_of_ble_eq_true rfl) (Nat.le_of_ble_eq_true rfl) dX3_init_23 (fun z2 => ?_)
    refine TC_w (w' := [(b, .inr (3, [.int (0), .int (0), .ref z1, .null, .null, .null])), (z1, .inl ((xcA X) 10, 4, .inl (lf []))), (z2, .inl ((xcA X) 10, 4, .inl (lf [])))]) rfl ?_
    refine TC_n (c2 := 2) (s2 := 8) rfl rfl ?_
    refine TC_putF (ty := (.array .int)) (c := 3) (i := 0) (k := 3) (w' := [(b, .inr (3, [.int (0), .int (0), .ref z1, .ref z2, .null, .null])), (z1, .inl ((xcA X) 10, 4, .inl (lf []))), (z2, .inl ((xcA X) 10, 4, .inl (lf [])))]) rfl (by decide) rfl rfl kfX3_22 (by decide) rfl rfl rfl (Nat.le_of_ble_eq_true rfl) rfl dX3_init_25 ?_
    refine TC_aload_n 0 rfl rfl dX3_init_28 ?_
    refine TC_bipush (10) (by decide) dX3_init_29 ?_
    refine TC_naI 10 (by decide) (by decide) (by decide) (Nat.le_of_ble_eq_true rfl) (Nat.le_of_ble_eq_true rfl) dX3_init_31 (fun z3 => ?_)
    refine TC_w (w' := [(b, .inr (3, [.int (0), .int (0), .ref z1, .ref z2, .null, .null])), (z1, .inl ((xcA X) 10, 4, .inl (lf []))), (z2, .inl ((xcA X) 10, 4, .inl (lf []))), (z3, .inl ((xcA X) 10, 10, .inl (lf [])))]) rfl ?_
    refine TC_n (c2 := 3) (s2 := 18) rfl rfl ?_
    refine TC_putF (ty := (.array .int)) (c := 3) (i := 0) (k := 4) (w' := [(b, .inr (3, [.int (0), .int (0), .ref z1, .ref z2, .ref z3, .null])), (z1, .inl ((xcA X) 10, 4, .inl (lf []))), (z2, .inl ((xcA X) 10, 4, .inl (lf []))), (z3, .inl ((xcA X) 10, 10, .inl (lf [])))]) rfl (by decide) rfl rfl kfX3_25 (by decide) rfl rfl rfl (Nat.le_of_ble_eq_true rfl) rfl dX3_init_33 ?_
    refine TC_aload_n 0 rfl rfl dX3_init_36 ?_
    refine TC_bipush (16) (by decide) dX3_init_37 ?_
    refine TC_naI 16 (by decide) (by decide) (by decide) (Nat.le_of_ble_eq_true rfl) (Nat.le_of_ble_eq_true rfl) dX3_init_39 (fun z4 => ?_)
    refine TC_w (w' := [(b, .inr (3, [.int (0), .int (0), .ref z1, .ref z2, .ref z3, .null])), (z1, .inl ((xcA X) 10, 4, .inl (lf []))), (z2, .inl ((xcA X) 10, 4, .inl (lf []))), (z3, .inl ((xcA X) 10, 10, .inl (lf []))), (z4, .inl ((xcA X) 10, 16, .inl (lf [])))]) rfl ?_
    refine TC_n (c2 := 4) (s2 := 34) rfl rfl ?_
    refine TC_putF (ty := (.array .int)) (c := 3) (i := 0) (k := 5) (w' := [(b, .inr (3, [.int (0), .int (0), .ref z1, .ref z2, .ref z3, .ref z4])), (z1, .inl ((xcA X) 10, 4, .inl (lf []))), (z2, .inl ((xcA X) 10, 4, .inl (lf []))), (z3, .inl ((xcA X) 10, 10, .inl (lf []))), (z4, .inl ((xcA X) 10, 16, .inl (lf [])))]) rfl (by decide) rfl rfl kfX3_28 (by decide) rfl rfl rfl (Nat.le_of_ble_eq_true rfl) rfl dX3_init_41 ?_
    exact TC_ret (fun i => [z1, z2, z3, z4].getD i 0) [0, 1, 2, 3, 4] rfl (by decide) rfl rfl dX3_init_44)
abbrev qX0_init : mMI := (yX0_init, cX0_init, 1, none, 1)
theorem dX0_init_0 : decode cX0_init 0 = .ok (.aload_n 0, 1) := by decide +kernel
theorem dX0_init_1 : decode cX0_init 1 = .ok (.invokespecial 3, 3) := by decide +kernel
theorem dX0_init_4 : decode cX0_init 4 = .ok (.aload_n 0, 1) := by decide +kernel
theorem dX0_init_5 : decode cX0_init 5 = .ok (.bipush 16, 2) := by decide +kernel
theorem dX0_init_7 : decode cX0_init 7 = .ok (.newarray .long, 2) := by decide +kernel
theorem dX0_init_9 : decode cX0_init 9 = .ok (.putfield 11, 3) := by decide +kernel
theorem dX0_init_12 : decode cX0_init 12 = .ok (.aload_n 0, 1) := by decide +kernel
theorem dX0_init_13 : decode cX0_init 13 = .ok (.bipush 16, 2) := by decide +kernel
theorem dX0_init_15 : decode cX0_init 15 = .ok (.newarray .long, 2) := by decide +kernel
theorem dX0_init_17 : decode cX0_init 17 = .ok (.putfield 15, 3) := by decide +kernel
theorem dX0_init_20 : decode cX0_init 20 = .ok (.return_, 1) := by decide +kernel
theorem mkX0_init : mok qX0_init 0 := ⟨⟨⟨by decide, by decide, by decide +kernel⟩, by decide⟩, gd_mem 56 (by decide +kernel) (by decide +kernel), gd_mem 237 (by decide +kernel) (by decide +kernel)⟩
theorem imX0_init : Cond.instanceMethod qX0_init.1 ∈ gdL := gd_mem 236 (by decide +kernel) (by decide +kernel)
theorem koX0_3 : Cond.methodLink RX0 3 Lib.objectInit ∈ gdL := gd_mem 238 (by decide +kernel) (by decide +kernel)
theorem kfX0_11 : Cond.fieldLink RX0 11 "RankStairs$Chances" "shares" "[J" ∈ gdL := gd_mem 239 (by decide +kernel) (by decide +kernel)
theorem kfX0_15 : Cond.fieldLink RX0 15 "RankStairs$Chances" "above" "[J" ∈ gdL := gd_mem 240 (by decide +kernel) (by decide +kernel)
def wcX0_init (cA : Nat → ClassId) (b : Nat) (a : Nat → Nat) : va_W := [(b, .inr (0, [.ref (a 0), .ref (a 1)])), ((a 0), .inl (cA 11, 16, .inr (.inl (fun _ => 0)))), ((a 1), .inl (cA 11, 16, .inr (.inl (fun _ => 0))))]
set_option maxRecDepth 100000 in
set_option maxHeartbeats 4000000 in
theorem cnX0_init (l : Launch) : CN l qX0_init 2 32 0 fz0 wcX0_init := CN_of (by decide) rfl (by decide) (fun X b _ => by
    refine TC_aload_n 0 rfl rfl dX0_init_0 ?_
    refine TC_obj koX0_3 (Nat.le_of_ble_eq_true rfl) (Nat.le_of_ble_eq_true rfl) dX0_init_1 ?_
    refine TC_aload_n 0 rfl rfl dX0_init_4 ?_
    refine TC_bipush (16) (by decide) dX0_init_5 ?_
    refine TC_naJ 16 (by decide) (by decide) (by decide) (Nat.le_of_ble_eq_true rfl) (Nat.le_of_ble_eq_true rfl) dX0_init_7 (fun z1 => ?_)
    refine TC_w (w' := [(b, .inr (0, fz0)), (z1, .inl ((xcA X) 11, 16, .inr (.inl (fun _ => 0))))]) rfl ?_
    refine TC_n (c2 := 1) (s2 := 16) rfl rfl ?_
    refine TC_putF (ty := (.array .long)) (c := 0) (i := 0) (k := 0) (w' := [(b, .inr (0, [.ref z1, .null])), (z1, .inl ((xcA X) 11, 16, .inr (.inl (fun _ => 0))))]) rfl (by decide) rfl rfl kfX0_11 (by decide) rfl rfl rfl (Nat.le_of_ble_eq_true rfl) rfl dX0_init_9 ?_
    refine TC_aload_n 0 rfl rfl dX0_init_12 ?_
    refine TC_bipush (16) (by decide) dX0_init_13 ?_
    refine TC_naJ 16 (by decide) (by decide) (by decide) (Nat.le_of_ble_eq_true rfl) (Nat.le_of_ble_eq_true rfl) dX0_init_15 (fun z2 => ?_)
    refine TC_w (w' := [(b, .inr (0, [.ref z1, .null])), (z1, .inl ((xcA X) 11, 16, .inr (.inl (fun _ => 0)))), (z2, .inl ((xcA X) 11, 16, .inr (.inl (fun _ => 0))))]) rfl ?_
    refine TC_n (c2 := 2) (s2 := 32) rfl rfl ?_
    refine TC_putF (ty := (.array .long)) (c := 0) (i := 0) (k := 1) (w' := [(b, .inr (0, [.ref z1, .ref z2])), (z1, .inl ((xcA X) 11, 16, .inr (.inl (fun _ => 0)))), (z2, .inl ((xcA X) 11, 16, .inr (.inl (fun _ => 0))))]) rfl (by decide) rfl rfl kfX0_15 (by decide) rfl rfl rfl (Nat.le_of_ble_eq_true rfl) rfl dX0_init_17 ?_
    exact TC_ret (fun i => [z1, z2].getD i 0) [0, 1, 2] rfl (by decide) rfl rfl dX0_init_20)
abbrev qX2_init : mMI := (yX2_init, cX2_init, 1, none, 2)
theorem dX2_init_0 : decode cX2_init 0 = .ok (.aload_n 0, 1) := by decide +kernel
theorem dX2_init_1 : decode cX2_init 1 = .ok (.invokespecial 3, 3) := by decide +kernel
theorem dX2_init_4 : decode cX2_init 4 = .ok (.aload_n 0, 1) := by decide +kernel
theorem dX2_init_5 : decode cX2_init 5 = .ok (.iconst 0, 1) := by decide +kernel
theorem dX2_init_6 : decode cX2_init 6 = .ok (.putfield 9, 3) := by decide +kernel
theorem dX2_init_9 : decode cX2_init 9 = .ok (.aload_n 0, 1) := by decide +kernel
theorem dX2_init_10 : decode cX2_init 10 = .ok (.iconst 4, 1) := by decide +kernel
theorem dX2_init_11 : decode cX2_init 11 = .ok (.newarray .int, 2) := by decide +kernel
theorem dX2_init_13 : decode cX2_init 13 = .ok (.putfield 15, 3) := by decide +kernel
theorem dX2_init_16 : decode cX2_init 16 = .ok (.aload_n 0, 1) := by decide +kernel
theorem dX2_init_17 : decode cX2_init 17 = .ok (.bipush 6, 2) := by decide +kernel
theorem dX2_init_19 : decode cX2_init 19 = .ok (.newarray .int, 2) := by decide +kernel
theorem dX2_init_21 : decode cX2_init 21 = .ok (.putfield 19, 3) := by decide +kernel
theorem dX2_init_24 : decode cX2_init 24 = .ok (.aload_n 0, 1) := by decide +kernel
theorem dX2_init_25 : decode cX2_init 25 = .ok (.bipush 6, 2) := by decide +kernel
theorem dX2_init_27 : decode cX2_init 27 = .ok (.newarray .int, 2) := by decide +kernel
theorem dX2_init_29 : decode cX2_init 29 = .ok (.putfield 22, 3) := by decide +kernel
theorem dX2_init_32 : decode cX2_init 32 = .ok (.aload_n 0, 1) := by decide +kernel
theorem dX2_init_33 : decode cX2_init 33 = .ok (.new 25, 3) := by decide +kernel
theorem dX2_init_36 : decode cX2_init 36 = .ok (.dup, 1) := by decide +kernel
theorem dX2_init_37 : decode cX2_init 37 = .ok (.invokespecial 27, 3) := by decide +kernel
theorem dX2_init_40 : decode cX2_init 40 = .ok (.putfield 28, 3) := by decide +kernel
theorem dX2_init_43 : decode cX2_init 43 = .ok (.aload_n 0, 1) := by decide +kernel
theorem dX2_init_44 : decode cX2_init 44 = .ok (.iconst 5, 1) := by decide +kernel
theorem dX2_init_45 : decode cX2_init 45 = .ok (.bipush 10, 2) := by decide +kernel
theorem dX2_init_47 : decode cX2_init 47 = .ok (.multianewarray 32 2, 4) := by decide +kernel
theorem dX2_init_51 : decode cX2_init 51 = .ok (.putfield 34, 3) := by decide +kernel
theorem dX2_init_54 : decode cX2_init 54 = .ok (.aload_n 0, 1) := by decide +kernel
theorem dX2_init_55 : decode cX2_init 55 = .ok (.iconst 4, 1) := by decide +kernel
theorem dX2_init_56 : decode cX2_init 56 = .ok (.bipush 10, 2) := by decide +kernel
theorem dX2_init_58 : decode cX2_init 58 = .ok (.multianewarray 32 2, 4) := by decide +kernel
theorem dX2_init_62 : decode cX2_init 62 = .ok (.putfield 37, 3) := by decide +kernel
theorem dX2_init_65 : decode cX2_init 65 = .ok (.return_, 1) := by decide +kernel
theorem mkX2_init : mok qX2_init 0 := ⟨⟨⟨by decide, by decide, by decide +kernel⟩, by decide⟩, gd_mem 57 (by decide +kernel) (by decide +kernel), gd_mem 251 (by decide +kernel) (by decide +kernel)⟩
theorem imX2_init : Cond.instanceMethod qX2_init.1 ∈ gdL := gd_mem 250 (by decide +kernel) (by decide +kernel)
theorem koX2_3 : Cond.methodLink RX2 3 Lib.objectInit ∈ gdL := gd_mem 252 (by decide +kernel) (by decide +kernel)
theorem kfX2_9 : Cond.fieldLink RX2 9 "RankStairs$Dust" "seen" "I" ∈ gdL := gd_mem 257 (by decide +kernel) (by decide +kernel)
theorem kfX2_15 : Cond.fieldLink RX2 15 "RankStairs$Dust" "floorBits" "[I" ∈ gdL := gd_mem 259 (by decide +kernel) (by decide +kernel)
theorem kfX2_19 : Cond.fieldLink RX2 19 "RankStairs$Dust" "seenSteps" "[I" ∈ gdL := gd_mem 261 (by decide +kernel) (by decide +kernel)
theorem kfX2_22 : Cond.fieldLink RX2 22 "RankStairs$Dust" "seenMore" "[I" ∈ gdL := gd_mem 262 (by decide +kernel) (by decide +kernel)
theorem kcX2_25 : Cond.classLink RX2 25 RX4 ∈ gdL := gd_mem 253 (by decide +kernel) (by decide +kernel)
theorem ki4 : Cond.instantiable RX4 12 ∈ gdL := gd_mem 118 (by decide +kernel) (by decide +kernel)
theorem kn4 : Cond.initialized RX4 ∈ gdL := gd_mem 53 (by decide +kernel) (by decide +kernel)
theorem kfX2_28 : Cond.fieldLink RX2 28 "RankStairs$Dust" "trial" "LRankStairs$House;" ∈ gdL := gd_mem 263 (by decide +kernel) (by decide +kernel)
theorem kcX2_32 : Cond.classLink RX2 32 "[[I" ∈ gdL := gd_mem 255 (by decide +kernel) (by decide +kernel)
theorem kfX2_34 : Cond.fieldLink RX2 34 "RankStairs$Dust" "wearsAt" "[[I" ∈ gdL := gd_mem 264 (by decide +kernel) (by decide +kernel)
theorem kfX2_37 : Cond.fieldLink RX2 37 "RankStairs$Dust" "pathsAt" "[[I" ∈ gdL := gd_mem 265 (by decide +kernel) (by decide +kernel)
def wcX2_init (cA : Nat → ClassId) (b : Nat) (a : Nat → Nat) : va_W := [(b, .inr (2, [.int (0), .ref (a 0), .ref (a 1), .ref (a 2), .ref (a 3), .ref (a 11), .ref (a 17)])), ((a 0), .inl (cA 10, 4, .inl (lf []))), ((a 1), .inl (cA 10, 6, .inl (lf []))), ((a 2), .inl (cA 10, 6, .inl (lf []))), ((a 3), .inr (4, [.int (0), .int (0), .int (1), .int (30), .int (0), .ref (a 4), .ref (a 5), .ref (a 6), .ref (a 7), .ref (a 8), .ref (a 9), .ref (a 10)])), ((a 4), .inl (cA 10, 10, .inl (lf []))), ((a 5), .inl (cA 10, 10, .inl (lf []))), ((a 6), .inl (cA 10, 10, .inl (lf []))), ((a 7), .inl (cA 10, 4, .inl (lf []))), ((a 8), .inl (cA 10, 4, .inl (lf []))), ((a 9), .inl (cA 10, 4, .inl (lf []))), ((a 10), .inl (cA 10, 4, .inl (lf []))), ((a 11), .inl (cA 15, 5, .inr (.inr (.inr (.inr (gq [(a 12), (a 13), (a 14), (a 15), (a 16)])))))), ((a 12), .inl (cA 10, 10, .inl (lf []))), ((a 13), .inl (cA 10, 10, .inl (lf []))), ((a 14), .inl (cA 10, 10, .inl (lf []))), ((a 15), .inl (cA 10, 10, .inl (lf []))), ((a 16), .inl (cA 10, 10, .inl (lf []))), ((a 17), .inl (cA 15, 4, .inr (.inr (.inr (.inr (gq [(a 18), (a 19), (a 20), (a 21)])))))), ((a 18), .inl (cA 10, 10, .inl (lf []))), ((a 19), .inl (cA 10, 10, .inl (lf []))), ((a 20), .inl (cA 10, 10, .inl (lf []))), ((a 21), .inl (cA 10, 10, .inl (lf [])))]
set_option maxRecDepth 100000 in
set_option maxHeartbeats 4000000 in
theorem cnX2_init (l : Launch) : CN l qX2_init 22 173 2 fz2 wcX2_init := CN_of (by decide) rfl (by decide) (fun X b _ => by
    refine TC_aload_n 0 rfl rfl dX2_init_0 ?_
    refine TC_obj koX2_3 (Nat.le_of_ble_eq_true rfl) (Nat.le_of_ble_eq_true rfl) dX2_init_1 ?_
    refine TC_aload_n 0 rfl rfl dX2_init_4 ?_
    refine TC_iconst (0) (by decide) dX2_init_5 ?_
    refine TC_put (ty := .int) (c := 2) (i := 0) (k := 0) (w' := [(b, .inr (2, [.int (0), .null, .null, .null, .null, .null, .null]))]) rfl (by decide) rfl kfX2_9 (by decide) rfl rfl rfl (Nat.le_of_ble_eq_true rfl) rfl dX2_init_6 ?_
    refine TC_aload_n 0 rfl rfl dX2_init_9 ?_
    refine TC_iconst (4) (by decide) dX2_init_10 ?_
    refine TC_naI 4 (by decide) (by decide) (by decide) (Nat.le_of_ble_eq_true rfl) (Nat.le_of_ble_eq_true rfl) dX2_init_11 (fun z1 => ?_)
    refine TC_w (w' := [(b, .inr (2, [.int (0), .null, .null, .null, .null, .null, .null])), (z1, .inl ((xcA X) 10, 4, .inl (lf [])))]) rfl ?_
    refine TC_n (c2 := 1) (s2 := 4) rfl rfl ?_
    refine TC_putF (ty := (.array .int)) (c := 2) (i := 0) (k := 1) (w' := [(b, .inr (2, [.int (0), .ref z1, .null, .null, .null, .null, .null])), (z1, .inl ((xcA X) 10, 4, .inl (lf [])))]) rfl (by decide) rfl rfl kfX2_15 (by decide) rfl rfl rfl (Nat.le_of_ble_eq_true rfl) rfl dX2_init_13 ?_
    refine TC_aload_n 0 rfl rfl dX2_init_16 ?_
    refine TC_bipush (6) (by decide) dX2_init_17 ?_
    refine TC_naI 6 (by decide) (by decide) (by decide) (Nat.le_of_ble_eq_true rfl) (Nat.le_of_ble_eq_true rfl) dX2_init_19 (fun z2 => ?_)
    refine TC_w (w' := [(b, .inr (2, [.int (0), .ref z1, .null, .null, .null, .null, .null])), (z1, .inl ((xcA X) 10, 4, .inl (lf []))), (z2, .inl ((xcA X) 10, 6, .inl (lf [])))]) rfl ?_
    refine TC_n (c2 := 2) (s2 := 10) rfl rfl ?_
    refine TC_putF (ty := (.array .int)) (c := 2) (i := 0) (k := 2) (w' := [(b, .inr (2, [.int (0), .ref z1, .ref z2, .null, .null, .null, .null])), (z1, .inl ((xcA X) 10, 4, .inl (lf []))), (z2, .inl ((xcA X) 10, 6, .inl (lf [])))]) rfl (by decide) rfl rfl kfX2_19 (by decide) rfl rfl rfl (Nat.le_of_ble_eq_true rfl) rfl dX2_init_21 ?_
    refine TC_aload_n 0 rfl rfl dX2_init_24 ?_
    refine TC_bipush (6) (by decide) dX2_init_25 ?_
    refine TC_naI 6 (by decide) (by decide) (by decide) (Nat.le_of_ble_eq_true rfl) (Nat.le_of_ble_eq_true rfl) dX2_init_27 (fun z3 => ?_)
    refine TC_w (w' := [(b, .inr (2, [.int (0), .ref z1, .ref z2, .null, .null, .null, .null])), (z1, .inl ((xcA X) 10, 4, .inl (lf []))), (z2, .inl ((xcA X) 10, 6, .inl (lf []))), (z3, .inl ((xcA X) 10, 6, .inl (lf [])))]) rfl ?_
    refine TC_n (c2 := 3) (s2 := 16) rfl rfl ?_
    refine TC_putF (ty := (.array .int)) (c := 2) (i := 0) (k := 3) (w' := [(b, .inr (2, [.int (0), .ref z1, .ref z2, .ref z3, .null, .null, .null])), (z1, .inl ((xcA X) 10, 4, .inl (lf []))), (z2, .inl ((xcA X) 10, 6, .inl (lf []))), (z3, .inl ((xcA X) 10, 6, .inl (lf [])))]) rfl (by decide) rfl rfl kfX2_22 (by decide) rfl rfl rfl (Nat.le_of_ble_eq_true rfl) rfl dX2_init_29 ?_
    refine TC_aload_n 0 rfl rfl dX2_init_32 ?_
    refine TC_new (c := 4) (fs := fz4) rfl df4 kcX2_25 ki4 kn4 (Nat.le_of_ble_eq_true rfl) (Nat.le_of_ble_eq_true rfl) dX2_init_33 (fun z4 => ?_)
    refine TC_w (w' := [(b, .inr (2, [.int (0), .ref z1, .ref z2, .ref z3, .null, .null, .null])), (z1, .inl ((xcA X) 10, 4, .inl (lf []))), (z2, .inl ((xcA X) 10, 6, .inl (lf []))), (z3, .inl ((xcA X) 10, 6, .inl (lf []))), (z4, .inr (4, fz4))]) rfl ?_
    refine TC_n (c2 := 4) (s2 := 28) rfl rfl ?_
    refine TC_dup rfl dX2_init_36 ?_
    refine TC_callN (q := qX2_init) (index := 27) (b := z4) (c := 4) [(b, .inr (2, [.int (0), .ref z1, .ref z2, .ref z3, .null, .null, .null])), (z1, .inl ((xcA X) 10, 4, .inl (lf []))), (z2, .inl ((xcA X) 10, 6, .inl (lf []))), (z3, .inl ((xcA X) 10, 6, .inl (lf [])))] [.ref z4, .ref b] (by simp only [List.cons_append, List.nil_append]) mkX4_init imX4_init rfl rfl (by decide +kernel) (Nat.le_of_ble_eq_true rfl) (Nat.le_of_ble_eq_true rfl) (Nat.le_of_ble_eq_true rfl) (Nat.le_of_ble_eq_true rfl) (Nat.le_of_ble_eq_true rfl) dX2_init_37 (cnX4_init _) (fun a5 => ?_)
    refine TC_w (w' := [(b, .inr (2, [.int (0), .ref z1, .ref z2, .ref z3, .null, .null, .null])), (z1, .inl ((xcA X) 10, 4, .inl (lf []))), (z2, .inl ((xcA X) 10, 6, .inl (lf []))), (z3, .inl ((xcA X) 10, 6, .inl (lf []))), (z4, .inr (4, [.int (0), .int (0), .int (1), .int (30), .int (0), .ref (a5 0), .ref (a5 1), .ref (a5 2), .ref (a5 3), .ref (a5 4), .ref (a5 5), .ref (a5 6)])), ((a5 0), .inl ((xcA X) 10, 10, .inl (lf []))), ((a5 1), .inl ((xcA X) 10, 10, .inl (lf []))), ((a5 2), .inl ((xcA X) 10, 10, .inl (lf []))), ((a5 3), .inl ((xcA X) 10, 4, .inl (lf []))), ((a5 4), .inl ((xcA X) 10, 4, .inl (lf []))), ((a5 5), .inl ((xcA X) 10, 4, .inl (lf []))), ((a5 6), .inl ((xcA X) 10, 4, .inl (lf [])))]) (by simp only [wcX4_init, List.cons_append, List.nil_append]) ?_
    refine TC_n (c2 := 11) (s2 := 74) rfl rfl ?_
    refine TC_putF (ty := (.object "RankStairs$House")) (c := 2) (i := 0) (k := 4) (w' := [(b, .inr (2, [.int (0), .ref z1, .ref z2, .ref z3, .ref z4, .null, .null])), (z1, .inl ((xcA X) 10, 4, .inl (lf []))), (z2, .inl ((xcA X) 10, 6, .inl (lf []))), (z3, .inl ((xcA X) 10, 6, .inl (lf []))), (z4, .inr (4, [.int (0), .int (0), .int (1), .int (30), .int (0), .ref (a5 0), .ref (a5 1), .ref (a5 2), .ref (a5 3), .ref (a5 4), .ref (a5 5), .ref (a5 6)])), ((a5 0), .inl ((xcA X) 10, 10, .inl (lf []))), ((a5 1), .inl ((xcA X) 10, 10, .inl (lf []))), ((a5 2), .inl ((xcA X) 10, 10, .inl (lf []))), ((a5 3), .inl ((xcA X) 10, 4, .inl (lf []))), ((a5 4), .inl ((xcA X) 10, 4, .inl (lf []))), ((a5 5), .inl ((xcA X) 10, 4, .inl (lf []))), ((a5 6), .inl ((xcA X) 10, 4, .inl (lf [])))]) rfl (by decide) rfl rfl kfX2_28 (by decide) rfl rfl rfl (Nat.le_of_ble_eq_true rfl) rfl dX2_init_40 ?_
    refine TC_aload_n 0 rfl rfl dX2_init_43 ?_
    refine TC_iconst (5) (by decide) dX2_init_44 ?_
    refine TC_bipush (10) (by decide) dX2_init_45 ?_
    refine TC_mna 5 10 (by decide) (by decide) (by decide) (by decide) (by decide) (by decide) (by decide) kcX2_32 (Nat.le_of_ble_eq_true rfl) (Nat.le_of_ble_eq_true rfl) dX2_init_47 (fun z6 r7 => ?_)
    refine TC_w (w' := [(b, .inr (2, [.int (0), .ref z1, .ref z2, .ref z3, .ref z4, .null, .null])), (z1, .inl ((xcA X) 10, 4, .inl (lf []))), (z2, .inl ((xcA X) 10, 6, .inl (lf []))), (z3, .inl ((xcA X) 10, 6, .inl (lf []))), (z4, .inr (4, [.int (0), .int (0), .int (1), .int (30), .int (0), .ref (a5 0), .ref (a5 1), .ref (a5 2), .ref (a5 3), .ref (a5 4), .ref (a5 5), .ref (a5 6)])), ((a5 0), .inl ((xcA X) 10, 10, .inl (lf []))), ((a5 1), .inl ((xcA X) 10, 10, .inl (lf []))), ((a5 2), .inl ((xcA X) 10, 10, .inl (lf []))), ((a5 3), .inl ((xcA X) 10, 4, .inl (lf []))), ((a5 4), .inl ((xcA X) 10, 4, .inl (lf []))), ((a5 5), .inl ((xcA X) 10, 4, .inl (lf []))), ((a5 6), .inl ((xcA X) 10, 4, .inl (lf []))), (z6, .inl ((xcA X) 15, 5, .inr (.inr (.inr (.inr (gq [(r7 0), (r7 1), (r7 2), (r7 3), (r7 4)])))))), ((r7 0), .inl ((xcA X) 10, 10, .inl (lf []))), ((r7 1), .inl ((xcA X) 10, 10, .inl (lf []))), ((r7 2), .inl ((xcA X) 10, 10, .inl (lf []))), ((r7 3), .inl ((xcA X) 10, 10, .inl (lf []))), ((r7 4), .inl ((xcA X) 10, 10, .inl (lf [])))]) rfl ?_
    refine TC_n (c2 := 17) (s2 := 129) rfl rfl ?_
    refine TC_putF (ty := (.array (.array .int))) (c := 2) (i := 0) (k := 5) (w' := [(b, .inr (2, [.int (0), .ref z1, .ref z2, .ref z3, .ref z4, .ref z6, .null])), (z1, .inl ((xcA X) 10, 4, .inl (lf []))), (z2, .inl ((xcA X) 10, 6, .inl (lf []))), (z3, .inl ((xcA X) 10, 6, .inl (lf []))), (z4, .inr (4, [.int (0), .int (0), .int (1), .int (30), .int (0), .ref (a5 0), .ref (a5 1), .ref (a5 2), .ref (a5 3), .ref (a5 4), .ref (a5 5), .ref (a5 6)])), ((a5 0), .inl ((xcA X) 10, 10, .inl (lf []))), ((a5 1), .inl ((xcA X) 10, 10, .inl (lf []))), ((a5 2), .inl ((xcA X) 10, 10, .inl (lf []))), ((a5 3), .inl ((xcA X) 10, 4, .inl (lf []))), ((a5 4), .inl ((xcA X) 10, 4, .inl (lf []))), ((a5 5), .inl ((xcA X) 10, 4, .inl (lf []))), ((a5 6), .inl ((xcA X) 10, 4, .inl (lf []))), (z6, .inl ((xcA X) 15, 5, .inr (.inr (.inr (.inr (gq [(r7 0), (r7 1), (r7 2), (r7 3), (r7 4)])))))), ((r7 0), .inl ((xcA X) 10, 10, .inl (lf []))), ((r7 1), .inl ((xcA X) 10, 10, .inl (lf []))), ((r7 2), .inl ((xcA X) 10, 10, .inl (lf []))), ((r7 3), .inl ((xcA X) 10, 10, .inl (lf []))), ((r7 4), .inl ((xcA X) 10, 10, .inl (lf [])))]) rfl (by decide) rfl rfl kfX2_34 (by decide) rfl rfl rfl (Nat.le_of_ble_eq_true rfl) rfl dX2_init_51 ?_
    refine TC_aload_n 0 rfl rfl dX2_init_54 ?_
    refine TC_iconst (4) (by decide) dX2_init_55 ?_
    refine TC_bipush (10) (by decide) dX2_init_56 ?_
    refine TC_mna 4 10 (by decide) (by decide) (by decide) (by decide) (by decide) (by decide) (by decide) kcX2_32 (Nat.le_of_ble_eq_true rfl) (Nat.le_of_ble_eq_true rfl) dX2_init_58 (fun z8 r9 => ?_)
    refine TC_w (w' := [(b, .inr (2, [.int (0), .ref z1, .ref z2, .ref z3, .ref z4, .ref z6, .null])), (z1, .inl ((xcA X) 10, 4, .inl (lf []))), (z2, .inl ((xcA X) 10, 6, .inl (lf []))), (z3, .inl ((xcA X) 10, 6, .inl (lf []))), (z4, .inr (4, [.int (0), .int (0), .int (1), .int (30), .int (0), .ref (a5 0), .ref (a5 1), .ref (a5 2), .ref (a5 3), .ref (a5 4), .ref (a5 5), .ref (a5 6)])), ((a5 0), .inl ((xcA X) 10, 10, .inl (lf []))), ((a5 1), .inl ((xcA X) 10, 10, .inl (lf []))), ((a5 2), .inl ((xcA X) 10, 10, .inl (lf []))), ((a5 3), .inl ((xcA X) 10, 4, .inl (lf []))), ((a5 4), .inl ((xcA X) 10, 4, .inl (lf []))), ((a5 5), .inl ((xcA X) 10, 4, .inl (lf []))), ((a5 6), .inl ((xcA X) 10, 4, .inl (lf []))), (z6, .inl ((xcA X) 15, 5, .inr (.inr (.inr (.inr (gq [(r7 0), (r7 1), (r7 2), (r7 3), (r7 4)])))))), ((r7 0), .inl ((xcA X) 10, 10, .inl (lf []))), ((r7 1), .inl ((xcA X) 10, 10, .inl (lf []))), ((r7 2), .inl ((xcA X) 10, 10, .inl (lf []))), ((r7 3), .inl ((xcA X) 10, 10, .inl (lf []))), ((r7 4), .inl ((xcA X) 10, 10, .inl (lf []))), (z8, .inl ((xcA X) 15, 4, .inr (.inr (.inr (.inr (gq [(r9 0), (r9 1), (r9 2), (r9 3)])))))), ((r9 0), .inl ((xcA X) 10, 10, .inl (lf []))), ((r9 1), .inl ((xcA X) 10, 10, .inl (lf []))), ((r9 2), .inl ((xcA X) 10, 10, .inl (lf []))), ((r9 3), .inl ((xcA X) 10, 10, .inl (lf [])))]) rfl ?_
    refine TC_n (c2 := 22) (s2 := 173) rfl rfl ?_
    refine TC_putF (ty := (.array (.array .int))) (c := 2) (i := 0) (k := 6) (w' := [(b, .inr (2, [.int (0), .ref z1, .ref z2, .ref z3, .ref z4, .ref z6, .ref z8])), (z1, .inl ((xcA X) 10, 4, .inl (lf []))), (z2, .inl ((xcA X) 10, 6, .inl (lf []))), (z3, .inl ((xcA X) 10, 6, .inl (lf []))), (z4, .inr (4, [.int (0), .int (0), .int (1), .int (30), .int (0), .ref (a5 0), .ref (a5 1), .ref (a5 2), .ref (a5 3), .ref (a5 4), .ref (a5 5), .ref (a5 6)])), ((a5 0), .inl ((xcA X) 10, 10, .inl (lf []))), ((a5 1), .inl ((xcA X) 10, 10, .inl (lf []))), ((a5 2), .inl ((xcA X) 10, 10, .inl (lf []))), ((a5 3), .inl ((xcA X) 10, 4, .inl (lf []))), ((a5 4), .inl ((xcA X) 10, 4, .inl (lf []))), ((a5 5), .inl ((xcA X) 10, 4, .inl (lf []))), ((a5 6), .inl ((xcA X) 10, 4, .inl (lf []))), (z6, .inl ((xcA X) 15, 5, .inr (.inr (.inr (.inr (gq [(r7 0), (r7 1), (r7 2), (r7 3), (r7 4)])))))), ((r7 0), .inl ((xcA X) 10, 10, .inl (lf []))), ((r7 1), .inl ((xcA X) 10, 10, .inl (lf []))), ((r7 2), .inl ((xcA X) 10, 10, .inl (lf []))), ((r7 3), .inl ((xcA X) 10, 10, .inl (lf []))), ((r7 4), .inl ((xcA X) 10, 10, .inl (lf []))), (z8, .inl ((xcA X) 15, 4, .inr (.inr (.inr (.inr (gq [(r9 0), (r9 1), (r9 2), (r9 3)])))))), ((r9 0), .inl ((xcA X) 10, 10, .inl (lf []))), ((r9 1), .inl ((xcA X) 10, 10, .inl (lf []))), ((r9 2), .inl ((xcA X) 10, 10, .inl (lf []))), ((r9 3), .inl ((xcA X) 10, 10, .inl (lf [])))]) rfl (by decide) rfl rfl kfX2_37 (by decide) rfl rfl rfl (Nat.le_of_ble_eq_true rfl) rfl dX2_init_62 ?_
    exact TC_ret (fun i => [z1, z2, z3, z4, (a5 0), (a5 1), (a5 2), (a5 3), (a5 4), (a5 5), (a5 6), z6, (r7 0), (r7 1), (r7 2), (r7 3), (r7 4), z8, (r9 0), (r9 1), (r9 2), (r9 3)].getD i 0) [0, 1, 2, 3, 4, 5, 6, 7, 8, 9, 10, 11, 12, 13, 14, 15, 16, 17, 18, 19, 20, 21, 22] rfl (by decide) rfl rfl dX2_init_65)
abbrev qX7_init : mMI := (yX7_init, cX7_init, 2, none, 3)
theorem dX7_init_0 : decode cX7_init 0 = .ok (.aload_n 0, 1) := by decide +kernel
theorem dX7_init_1 : decode cX7_init 1 = .ok (.invokespecial 1, 3) := by decide +kernel
theorem dX7_init_4 : decode cX7_init 4 = .ok (.aload_n 0, 1) := by decide +kernel
theorem dX7_init_5 : decode cX7_init 5 = .ok (.new 7, 3) := by decide +kernel
theorem dX7_init_8 : decode cX7_init 8 = .ok (.dup, 1) := by decide +kernel
theorem dX7_init_9 : decode cX7_init 9 = .ok (.invokespecial 9, 3) := by decide +kernel
theorem dX7_init_12 : decode cX7_init 12 = .ok (.putfield 10, 3) := by decide +kernel
theorem dX7_init_15 : decode cX7_init 15 = .ok (.aload_n 0, 1) := by decide +kernel
theorem dX7_init_16 : decode cX7_init 16 = .ok (.new 16, 3) := by decide +kernel
theorem dX7_init_19 : decode cX7_init 19 = .ok (.dup, 1) := by decide +kernel
theorem dX7_init_20 : decode cX7_init 20 = .ok (.invokespecial 18, 3) := by decide +kernel
theorem dX7_init_23 : decode cX7_init 23 = .ok (.putfield 19, 3) := by decide +kernel
theorem dX7_init_26 : decode cX7_init 26 = .ok (.aload_n 0, 1) := by decide +kernel
theorem dX7_init_27 : decode cX7_init 27 = .ok (.new 16, 3) := by decide +kernel
theorem dX7_init_30 : decode cX7_init 30 = .ok (.dup, 1) := by decide +kernel
theorem dX7_init_31 : decode cX7_init 31 = .ok (.invokespecial 18, 3) := by decide +kernel
theorem dX7_init_34 : decode cX7_init 34 = .ok (.putfield 23, 3) := by decide +kernel
theorem dX7_init_37 : decode cX7_init 37 = .ok (.aload_n 0, 1) := by decide +kernel
theorem dX7_init_38 : decode cX7_init 38 = .ok (.iconst 2, 1) := by decide +kernel
theorem dX7_init_39 : decode cX7_init 39 = .ok (.anewarray 16, 3) := by decide +kernel
theorem dX7_init_42 : decode cX7_init 42 = .ok (.putfield 26, 3) := by decide +kernel
theorem dX7_init_45 : decode cX7_init 45 = .ok (.aload_n 0, 1) := by decide +kernel
theorem dX7_init_46 : decode cX7_init 46 = .ok (.iconst 2, 1) := by decide +kernel
theorem dX7_init_47 : decode cX7_init 47 = .ok (.newarray .boolean, 2) := by decide +kernel
theorem dX7_init_49 : decode cX7_init 49 = .ok (.putfield 30, 3) := by decide +kernel
theorem dX7_init_52 : decode cX7_init 52 = .ok (.aload_n 0, 1) := by decide +kernel
theorem dX7_init_53 : decode cX7_init 53 = .ok (.new 34, 3) := by decide +kernel
theorem dX7_init_56 : decode cX7_init 56 = .ok (.dup, 1) := by decide +kernel
theorem dX7_init_57 : decode cX7_init 57 = .ok (.invokespecial 36, 3) := by decide +kernel
theorem dX7_init_60 : decode cX7_init 60 = .ok (.putfield 37, 3) := by decide +kernel
theorem dX7_init_63 : decode cX7_init 63 = .ok (.aload_n 0, 1) := by decide +kernel
theorem dX7_init_64 : decode cX7_init 64 = .ok (.new 41, 3) := by decide +kernel
theorem dX7_init_67 : decode cX7_init 67 = .ok (.dup, 1) := by decide +kernel
theorem dX7_init_68 : decode cX7_init 68 = .ok (.invokespecial 43, 3) := by decide +kernel
theorem dX7_init_71 : decode cX7_init 71 = .ok (.putfield 44, 3) := by decide +kernel
theorem dX7_init_74 : decode cX7_init 74 = .ok (.aload_n 0, 1) := by decide +kernel
theorem dX7_init_75 : decode cX7_init 75 = .ok (.new 48, 3) := by decide +kernel
theorem dX7_init_78 : decode cX7_init 78 = .ok (.dup, 1) := by decide +kernel
theorem dX7_init_79 : decode cX7_init 79 = .ok (.invokespecial 50, 3) := by decide +kernel
theorem dX7_init_82 : decode cX7_init 82 = .ok (.putfield 51, 3) := by decide +kernel
theorem dX7_init_85 : decode cX7_init 85 = .ok (.aload_n 0, 1) := by decide +kernel
theorem dX7_init_86 : decode cX7_init 86 = .ok (.new 55, 3) := by decide +kernel
theorem dX7_init_89 : decode cX7_init 89 = .ok (.dup, 1) := by decide +kernel
theorem dX7_init_90 : decode cX7_init 90 = .ok (.invokespecial 57, 3) := by decide +kernel
theorem dX7_init_93 : decode cX7_init 93 = .ok (.putfield 58, 3) := by decide +kernel
theorem dX7_init_96 : decode cX7_init 96 = .ok (.aload_n 0, 1) := by decide +kernel
theorem dX7_init_97 : decode cX7_init 97 = .ok (.iconst 4, 1) := by decide +kernel
theorem dX7_init_98 : decode cX7_init 98 = .ok (.anewarray 62, 3) := by decide +kernel
theorem dX7_init_101 : decode cX7_init 101 = .ok (.putfield 64, 3) := by decide +kernel
theorem dX7_init_104 : decode cX7_init 104 = .ok (.aload_n 0, 1) := by decide +kernel
theorem dX7_init_105 : decode cX7_init 105 = .ok (.iconst 0, 1) := by decide +kernel
theorem dX7_init_106 : decode cX7_init 106 = .ok (.putfield 68, 3) := by decide +kernel
theorem dX7_init_109 : decode cX7_init 109 = .ok (.iconst 0, 1) := by decide +kernel
theorem dX7_init_110 : decode cX7_init 110 = .ok (.istore_n 1, 1) := by decide +kernel
theorem dX7_init_111 : decode cX7_init 111 = .ok (.iload_n 1, 1) := by decide +kernel
theorem dX7_init_112 : decode cX7_init 112 = .ok (.iconst 2, 1) := by decide +kernel
theorem dX7_init_113 : decode cX7_init 113 = .ok (.if_icmp .ge 22, 3) := by decide +kernel
theorem dX7_init_116 : decode cX7_init 116 = .ok (.aload_n 0, 1) := by decide +kernel
theorem dX7_init_117 : decode cX7_init 117 = .ok (.getfield 26, 3) := by decide +kernel
theorem dX7_init_120 : decode cX7_init 120 = .ok (.iload_n 1, 1) := by decide +kernel
theorem dX7_init_121 : decode cX7_init 121 = .ok (.new 16, 3) := by decide +kernel
theorem dX7_init_124 : decode cX7_init 124 = .ok (.dup, 1) := by decide +kernel
theorem dX7_init_125 : decode cX7_init 125 = .ok (.invokespecial 18, 3) := by decide +kernel
theorem dX7_init_128 : decode cX7_init 128 = .ok (.aastore, 1) := by decide +kernel
theorem dX7_init_129 : decode cX7_init 129 = .ok (.iinc 1 1, 3) := by decide +kernel
theorem dX7_init_132 : decode cX7_init 132 = .ok (.goto (-21), 3) := by decide +kernel
theorem dX7_init_135 : decode cX7_init 135 = .ok (.iconst 0, 1) := by decide +kernel
theorem dX7_init_136 : decode cX7_init 136 = .ok (.istore_n 1, 1) := by decide +kernel
theorem dX7_init_137 : decode cX7_init 137 = .ok (.iload_n 1, 1) := by decide +kernel
theorem dX7_init_138 : decode cX7_init 138 = .ok (.iconst 4, 1) := by decide +kernel
theorem dX7_init_139 : decode cX7_init 139 = .ok (.if_icmp .ge 22, 3) := by decide +kernel
theorem dX7_init_142 : decode cX7_init 142 = .ok (.aload_n 0, 1) := by decide +kernel
theorem dX7_init_143 : decode cX7_init 143 = .ok (.getfield 64, 3) := by decide +kernel
theorem dX7_init_146 : decode cX7_init 146 = .ok (.iload_n 1, 1) := by decide +kernel
theorem dX7_init_147 : decode cX7_init 147 = .ok (.new 62, 3) := by decide +kernel
theorem dX7_init_150 : decode cX7_init 150 = .ok (.dup, 1) := by decide +kernel
theorem dX7_init_151 : decode cX7_init 151 = .ok (.invokespecial 72, 3) := by decide +kernel
theorem dX7_init_154 : decode cX7_init 154 = .ok (.aastore, 1) := by decide +kernel
theorem dX7_init_155 : decode cX7_init 155 = .ok (.iinc 1 1, 3) := by decide +kernel
theorem dX7_init_158 : decode cX7_init 158 = .ok (.goto (-21), 3) := by decide +kernel
theorem dX7_init_161 : decode cX7_init 161 = .ok (.return_, 1) := by decide +kernel
theorem mkX7_init : mok qX7_init 0 := ⟨⟨⟨by decide, by decide, by decide +kernel⟩, by decide⟩, gd_mem 51 (by decide +kernel) (by decide +kernel), gd_mem 72 (by decide +kernel) (by decide +kernel)⟩
theorem imX7_init : Cond.instanceMethod qX7_init.1 ∈ gdL := gd_mem 71 (by decide +kernel) (by decide +kernel)
theorem koX7_1 : Cond.methodLink RX7 1 Lib.objectInit ∈ gdL := gd_mem 73 (by decide +kernel) (by decide +kernel)
theorem kcX7_7 : Cond.classLink RX7 7 RX6 ∈ gdL := gd_mem 76 (by decide +kernel) (by decide +kernel)
theorem ki6 : Cond.instantiable RX6 10 ∈ gdL := gd_mem 77 (by decide +kernel) (by decide +kernel)
theorem kn6 : Cond.initialized RX6 ∈ gdL := gd_mem 52 (by decide +kernel) (by decide +kernel)
theorem kfX7_10 : Cond.fieldLink RX7 10 "RankStairs" "tape" "LRankStairs$Tape;" ∈ gdL := gd_mem 300 (by decide +kernel) (by decide +kernel)
theorem kcX7_16 : Cond.classLink RX7 16 RX4 ∈ gdL := gd_mem 117 (by decide +kernel) (by decide +kernel)
theorem kfX7_19 : Cond.fieldLink RX7 19 "RankStairs" "now" "LRankStairs$House;" ∈ gdL := gd_mem 301 (by decide +kernel) (by decide +kernel)
theorem kfX7_23 : Cond.fieldLink RX7 23 "RankStairs" "trial" "LRankStairs$House;" ∈ gdL := gd_mem 302 (by decide +kernel) (by decide +kernel)
theorem kfX7_26 : Cond.fieldLink RX7 26 "RankStairs" "images" "[LRankStairs$House;" ∈ gdL := gd_mem 303 (by decide +kernel) (by decide +kernel)
theorem kfX7_30 : Cond.fieldLink RX7 30 "RankStairs" "kept" "[Z" ∈ gdL := gd_mem 304 (by decide +kernel) (by decide +kernel)
theorem kcX7_34 : Cond.classLink RX7 34 RX1 ∈ gdL := gd_mem 191 (by decide +kernel) (by decide +kernel)
theorem ki1 : Cond.instantiable RX1 2 ∈ gdL := gd_mem 192 (by decide +kernel) (by decide +kernel)
theorem kn1 : Cond.initialized RX1 ∈ gdL := gd_mem 54 (by decide +kernel) (by decide +kernel)
theorem kfX7_37 : Cond.fieldLink RX7 37 "RankStairs" "climber" "LRankStairs$Climber;" ∈ gdL := gd_mem 305 (by decide +kernel) (by decide +kernel)
theorem kcX7_41 : Cond.classLink RX7 41 RX3 ∈ gdL := gd_mem 205 (by decide +kernel) (by decide +kernel)
theorem ki3 : Cond.instantiable RX3 6 ∈ gdL := gd_mem 206 (by decide +kernel) (by decide +kernel)
theorem kn3 : Cond.initialized RX3 ∈ gdL := gd_mem 55 (by decide +kernel) (by decide +kernel)
theorem kfX7_44 : Cond.fieldLink RX7 44 "RankStairs" "exchange" "LRankStairs$Exchange;" ∈ gdL := gd_mem 306 (by decide +kernel) (by decide +kernel)
theorem kcX7_48 : Cond.classLink RX7 48 RX0 ∈ gdL := gd_mem 233 (by decide +kernel) (by decide +kernel)
theorem ki0 : Cond.instantiable RX0 2 ∈ gdL := gd_mem 234 (by decide +kernel) (by decide +kernel)
theorem kn0 : Cond.initialized RX0 ∈ gdL := gd_mem 56 (by decide +kernel) (by decide +kernel)
theorem kfX7_51 : Cond.fieldLink RX7 51 "RankStairs" "chances" "LRankStairs$Chances;" ∈ gdL := gd_mem 307 (by decide +kernel) (by decide +kernel)
theorem kcX7_55 : Cond.classLink RX7 55 RX2 ∈ gdL := gd_mem 247 (by decide +kernel) (by decide +kernel)
theorem ki2 : Cond.instantiable RX2 7 ∈ gdL := gd_mem 248 (by decide +kernel) (by decide +kernel)
theorem kn2 : Cond.initialized RX2 ∈ gdL := gd_mem 57 (by decide +kernel) (by decide +kernel)
theorem kfX7_58 : Cond.fieldLink RX7 58 "RankStairs" "dust" "LRankStairs$Dust;" ∈ gdL := gd_mem 308 (by decide +kernel) (by decide +kernel)
theorem kcX7_62 : Cond.classLink RX7 62 RX5 ∈ gdL := gd_mem 281 (by decide +kernel) (by decide +kernel)
theorem kfX7_64 : Cond.fieldLink RX7 64 "RankStairs" "sheets" "[LRankStairs$Sheet;" ∈ gdL := gd_mem 309 (by decide +kernel) (by decide +kernel)
theorem kfX7_68 : Cond.fieldLink RX7 68 "RankStairs" "readFault" "I" ∈ gdL := gd_mem 310 (by decide +kernel) (by decide +kernel)
theorem ki5 : Cond.instantiable RX5 3 ∈ gdL := gd_mem 283 (by decide +kernel) (by decide +kernel)
theorem kn5 : Cond.initialized RX5 ∈ gdL := gd_mem 58 (by decide +kernel) (by decide +kernel)
def wcX7_init (cA : Nat → ClassId) (b : Nat) (a : Nat → Nat) : va_W := [(b, .inr (7, [.ref (a 0), .ref (a 3), .ref (a 11), .ref (a 19), .ref (a 20), .ref (a 21), .ref (a 24), .ref (a 29), .ref (a 32), .ref (a 55), .int (0)])), ((a 0), .inr (6, [.int (0), .int (0), .int (0), .ref (a 1), .ref (a 2), .int (0), .int (0), .int (0), .int (0), .int (0)])), ((a 1), .inl (cA 9, 160, .inl (lf []))), ((a 2), .inl (cA 10, 4, .inl (lf []))), ((a 3), .inr (4, [.int (0), .int (0), .int (1), .int (30), .int (0), .ref (a 4), .ref (a 5), .ref (a 6), .ref (a 7), .ref (a 8), .ref (a 9), .ref (a 10)])), ((a 4), .inl (cA 10, 10, .inl (lf []))), ((a 5), .inl (cA 10, 10, .inl (lf []))), ((a 6), .inl (cA 10, 10, .inl (lf []))), ((a 7), .inl (cA 10, 4, .inl (lf []))), ((a 8), .inl (cA 10, 4, .inl (lf []))), ((a 9), .inl (cA 10, 4, .inl (lf []))), ((a 10), .inl (cA 10, 4, .inl (lf []))), ((a 11), .inr (4, [.int (0), .int (0), .int (1), .int (30), .int (0), .ref (a 12), .ref (a 13), .ref (a 14), .ref (a 15), .ref (a 16), .ref (a 17), .ref (a 18)])), ((a 12), .inl (cA 10, 10, .inl (lf []))), ((a 13), .inl (cA 10, 10, .inl (lf []))), ((a 14), .inl (cA 10, 10, .inl (lf []))), ((a 15), .inl (cA 10, 4, .inl (lf []))), ((a 16), .inl (cA 10, 4, .inl (lf []))), ((a 17), .inl (cA 10, 4, .inl (lf []))), ((a 18), .inl (cA 10, 4, .inl (lf []))), ((a 19), .inl (cA 13, 2, .inr (.inr (.inr (.inr (va_up (va_up (fun _ => none) 0 (some (a 56))) 1 (some (a 64)))))))), ((a 20), .inl (cA 12, 2, .inl (lf []))), ((a 21), .inr (1, [.ref (a 22), .ref (a 23)])), ((a 22), .inl (cA 10, 10, .inl (lf []))), ((a 23), .inl (cA 10, 10, .inl (lf []))), ((a 24), .inr (3, [.int (0), .int (0), .ref (a 25), .ref (a 26), .ref (a 27), .ref (a 28)])), ((a 25), .inl (cA 10, 4, .inl (lf []))), ((a 26), .inl (cA 10, 4, .inl (lf []))), ((a 27), .inl (cA 10, 10, .inl (lf []))), ((a 28), .inl (cA 10, 16, .inl (lf []))), ((a 29), .inr (0, [.ref (a 30), .ref (a 31)])), ((a 30), .inl (cA 11, 16, .inr (.inl (fun _ => 0)))), ((a 31), .inl (cA 11, 16, .inr (.inl (fun _ => 0)))), ((a 32), .inr (2, [.int (0), .ref (a 33), .ref (a 34), .ref (a 35), .ref (a 36), .ref (a 44), .ref (a 50)])), ((a 33), .inl (cA 10, 4, .inl (lf []))), ((a 34), .inl (cA 10, 6, .inl (lf []))), ((a 35), .inl (cA 10, 6, .inl (lf []))), ((a 36), .inr (4, [.int (0), .int (0), .int (1), .int (30), .int (0), .ref (a 37), .ref (a 38), .ref (a 39), .ref (a 40), .ref (a 41), .ref (a 42), .ref (a 43)])), ((a 37), .inl (cA 10, 10, .inl (lf []))), ((a 38), .inl (cA 10, 10, .inl (lf []))), ((a 39), .inl (cA 10, 10, .inl (lf []))), ((a 40), .inl (cA 10, 4, .inl (lf []))), ((a 41), .inl (cA 10, 4, .inl (lf []))), ((a 42), .inl (cA 10, 4, .inl (lf []))), ((a 43), .inl (cA 10, 4, .inl (lf []))), ((a 44), .inl (cA 15, 5, .inr (.inr (.inr (.inr (gq [(a 45), (a 46), (a 47), (a 48), (a 49)])))))), ((a 45), .inl (cA 10, 10, .inl (lf []))), ((a 46), .inl (cA 10, 10, .inl (lf []))), ((a 47), .inl (cA 10, 10, .inl (lf []))), ((a 48), .inl (cA 10, 10, .inl (lf []))), ((a 49), .inl (cA 10, 10, .inl (lf []))), ((a 50), .inl (cA 15, 4, .inr (.inr (.inr (.inr (gq [(a 51), (a 52), (a 53), (a 54)])))))), ((a 51), .inl (cA 10, 10, .inl (lf []))), ((a 52), .inl (cA 10, 10, .inl (lf []))), ((a 53), .inl (cA 10, 10, .inl (lf []))), ((a 54), .inl (cA 10, 10, .inl (lf []))), ((a 55), .inl (cA 14, 4, .inr (.inr (.inr (.inr (va_up (va_up (va_up (va_up (fun _ => none) 0 (some (a 72))) 1 (some (a 74))) 2 (some (a 76))) 3 (some (a 78)))))))), ((a 56), .inr (4, [.int (0), .int (0), .int (1), .int (30), .int (0), .ref (a 57), .ref (a 58), .ref (a 59), .ref (a 60), .ref (a 61), .ref (a 62), .ref (a 63)])), ((a 57), .inl (cA 10, 10, .inl (lf []))), ((a 58), .inl (cA 10, 10, .inl (lf []))), ((a 59), .inl (cA 10, 10, .inl (lf []))), ((a 60), .inl (cA 10, 4, .inl (lf []))), ((a 61), .inl (cA 10, 4, .inl (lf []))), ((a 62), .inl (cA 10, 4, .inl (lf []))), ((a 63), .inl (cA 10, 4, .inl (lf []))), ((a 64), .inr (4, [.int (0), .int (0), .int (1), .int (30), .int (0), .ref (a 65), .ref (a 66), .ref (a 67), .ref (a 68), .ref (a 69), .ref (a 70), .ref (a 71)])), ((a 65), .inl (cA 10, 10, .inl (lf []))), ((a 66), .inl (cA 10, 10, .inl (lf []))), ((a 67), .inl (cA 10, 10, .inl (lf []))), ((a 68), .inl (cA 10, 4, .inl (lf []))), ((a 69), .inl (cA 10, 4, .inl (lf []))), ((a 70), .inl (cA 10, 4, .inl (lf []))), ((a 71), .inl (cA 10, 4, .inl (lf []))), ((a 72), .inr (5, [.int (0), .ref (a 73), .int (-1)])), ((a 73), .inl (cA 10, 40, .inl (lf []))), ((a 74), .inr (5, [.int (0), .ref (a 75), .int (-1)])), ((a 75), .inl (cA 10, 40, .inl (lf []))), ((a 76), .inr (5, [.int (0), .ref (a 77), .int (-1)])), ((a 77), .inl (cA 10, 40, .inl (lf []))), ((a 78), .inr (5, [.int (0), .ref (a 79), .int (-1)])), ((a 79), .inl (cA 10, 40, .inl (lf [])))]
set_option maxRecDepth 100000 in
set_option maxHeartbeats 4000000 in
theorem cnX7_init (l : Launch) : CN l qX7_init 80 862 7 fz7 wcX7_init := CN_of (by decide) rfl (by decide) (fun X b _ => by
    refine TC_aload_n 0 rfl rfl dX7_init_0 ?_
    refine TC_obj koX7_1 (Nat.le_of_ble_eq_true rfl) (Nat.le_of_ble_eq_true rfl) dX7_init_1 ?_
    refine TC_aload_n 0 rfl rfl dX7_init_4 ?_
    refine TC_new (c := 6) (fs := fz6) rfl df6 kcX7_7 ki6 kn6 (Nat.le_of_ble_eq_true rfl) (Nat.le_of_ble_eq_true rfl) dX7_init_5 (fun z1 => ?_)
    refine TC_w (w' := [(b, .inr (7, fz7)), (z1, .inr (6, fz6))]) rfl ?_
    refine TC_n (c2 := 1) (s2 := 10) rfl rfl ?_
    refine TC_dup rfl dX7_init_8 ?_
    refine TC_callN (q := qX7_init) (index := 9) (b := z1) (c := 6) [(b, .inr (7, fz7))] [.ref z1, .ref b] (by simp only [List.cons_append, List.nil_append]) mkX6_init imX6_init rfl rfl (by decide +kernel) (Nat.le_of_ble_eq_true rfl) (Nat.le_of_ble_eq_true rfl) (Nat.le_of_ble_eq_true rfl) (Nat.le_of_ble_eq_true rfl) (Nat.le_of_ble_eq_true rfl) dX7_init_9 (cnX6_init _) (fun a2 => ?_)
    refine TC_w (w' := [(b, .inr (7, fz7)), (z1, .inr (6, [.int (0), .int (0), .int (0), .ref (a2 0), .ref (a2 1), .int (0), .int (0), .int (0), .int (0), .int (0)])), ((a2 0), .inl ((xcA X) 9, 160, .inl (lf []))), ((a2 1), .inl ((xcA X) 10, 4, .inl (lf [])))]) (by simp only [wcX6_init, List.cons_append, List.nil_append]) ?_
    refine TC_n (c2 := 3) (s2 := 174) rfl rfl ?_
    refine TC_putF (ty := (.object "RankStairs$Tape")) (c := 7) (i := 0) (k := 0) (w' := [(b, .inr (7, [.ref z1, .null, .null, .null, .null, .null, .null, .null, .null, .null, .int 0])), (z1, .inr (6, [.int (0), .int (0), .int (0), .ref (a2 0), .ref (a2 1), .int (0), .int (0), .int (0), .int (0), .int (0)])), ((a2 0), .inl ((xcA X) 9, 160, .inl (lf []))), ((a2 1), .inl ((xcA X) 10, 4, .inl (lf [])))]) rfl (by decide) rfl rfl kfX7_10 (by decide) rfl rfl rfl (Nat.le_of_ble_eq_true rfl) rfl dX7_init_12 ?_
    refine TC_aload_n 0 rfl rfl dX7_init_15 ?_
    refine TC_new (c := 4) (fs := fz4) rfl df4 kcX7_16 ki4 kn4 (Nat.le_of_ble_eq_true rfl) (Nat.le_of_ble_eq_true rfl) dX7_init_16 (fun z3 => ?_)
    refine TC_w (w' := [(b, .inr (7, [.ref z1, .null, .null, .null, .null, .null, .null, .null, .null, .null, .int 0])), (z1, .inr (6, [.int (0), .int (0), .int (0), .ref (a2 0), .ref (a2 1), .int (0), .int (0), .int (0), .int (0), .int (0)])), ((a2 0), .inl ((xcA X) 9, 160, .inl (lf []))), ((a2 1), .inl ((xcA X) 10, 4, .inl (lf []))), (z3, .inr (4, fz4))]) rfl ?_
    refine TC_n (c2 := 4) (s2 := 186) rfl rfl ?_
    refine TC_dup rfl dX7_init_19 ?_
    refine TC_callN (q := qX7_init) (index := 18) (b := z3) (c := 4) [(b, .inr (7, [.ref z1, .null, .null, .null, .null, .null, .null, .null, .null, .null, .int 0])), (z1, .inr (6, [.int (0), .int (0), .int (0), .ref (a2 0), .ref (a2 1), .int (0), .int (0), .int (0), .int (0), .int (0)])), ((a2 0), .inl ((xcA X) 9, 160, .inl (lf []))), ((a2 1), .inl ((xcA X) 10, 4, .inl (lf [])))] [.ref z3, .ref b] (by simp only [List.cons_append, List.nil_append]) mkX4_init imX4_init rfl rfl (by decide +kernel) (Nat.le_of_ble_eq_true rfl) (Nat.le_of_ble_eq_true rfl) (Nat.le_of_ble_eq_true rfl) (Nat.le_of_ble_eq_true rfl) (Nat.le_of_ble_eq_true rfl) dX7_init_20 (cnX4_init _) (fun a4 => ?_)
    refine TC_w (w' := [(b, .inr (7, [.ref z1, .null, .null, .null, .null, .null, .null, .null, .null, .null, .int 0])), (z1, .inr (6, [.int (0), .int (0), .int (0), .ref (a2 0), .ref (a2 1), .int (0), .int (0), .int (0), .int (0), .int (0)])), ((a2 0), .inl ((xcA X) 9, 160, .inl (lf []))), ((a2 1), .inl ((xcA X) 10, 4, .inl (lf []))), (z3, .inr (4, [.int (0), .int (0), .int (1), .int (30), .int (0), .ref (a4 0), .ref (a4 1), .ref (a4 2), .ref (a4 3), .ref (a4 4), .ref (a4 5), .ref (a4 6)])), ((a4 0), .inl ((xcA X) 10, 10, .inl (lf []))), ((a4 1), .inl ((xcA X) 10, 10, .inl (lf []))), ((a4 2), .inl ((xcA X) 10, 10, .inl (lf []))), ((a4 3), .inl ((xcA X) 10, 4, .inl (lf []))), ((a4 4), .inl ((xcA X) 10, 4, .inl (lf []))), ((a4 5), .inl ((xcA X) 10, 4, .inl (lf []))), ((a4 6), .inl ((xcA X) 10, 4, .inl (lf [])))]) (by simp only [wcX4_init, List.cons_append, List.nil_append]) ?_
    refine TC_n (c2 := 11) (s2 := 232) rfl rfl ?_
    refine TC_putF (ty := (.object "RankStairs$House")) (c := 7) (i := 0) (k := 1) (w' := [(b, .inr (7, [.ref z1, .ref z3, .null, .null, .null, .null, .null, .null, .null, .null, .int 0])), (z1, .inr (6, [.int (0), .int (0), .int (0), .ref (a2 0), .ref (a2 1), .int (0), .int (0), .int (0), .int (0), .int (0)])), ((a2 0), .inl ((xcA X) 9, 160, .inl (lf []))), ((a2 1), .inl ((xcA X) 10, 4, .inl (lf []))), (z3, .inr (4, [.int (0), .int (0), .int (1), .int (30), .int (0), .ref (a4 0), .ref (a4 1), .ref (a4 2), .ref (a4 3), .ref (a4 4), .ref (a4 5), .ref (a4 6)])), ((a4 0), .inl ((xcA X) 10, 10, .inl (lf []))), ((a4 1), .inl ((xcA X) 10, 10, .inl (lf []))), ((a4 2), .inl ((xcA X) 10, 10, .inl (lf []))), ((a4 3), .inl ((xcA X) 10, 4, .inl (lf []))), ((a4 4), .inl ((xcA X) 10, 4, .inl (lf []))), ((a4 5), .inl ((xcA X) 10, 4, .inl (lf []))), ((a4 6), .inl ((xcA X) 10, 4, .inl (lf [])))]) rfl (by decide) rfl rfl kfX7_19 (by decide) rfl rfl rfl (Nat.le_of_ble_eq_true rfl) rfl dX7_init_23 ?_
    refine TC_aload_n 0 rfl rfl dX7_init_26 ?_
    refine TC_new (c := 4) (fs := fz4) rfl df4 kcX7_16 ki4 kn4 (Nat.le_of_ble_eq_true rfl) (Nat.le_of_ble_eq_true rfl) dX7_init_27 (fun z5 => ?_)
    refine TC_w (w' := [(b, .inr (7, [.ref z1, .ref z3, .null, .null, .null, .null, .null, .null, .null, .null, .int 0])), (z1, .inr (6, [.int (0), .int (0), .int (0), .ref (a2 0), .ref (a2 1), .int (0), .int (0), .int (0), .int (0), .int (0)])), ((a2 0), .inl ((xcA X) 9, 160, .inl (lf []))), ((a2 1), .inl ((xcA X) 10, 4, .inl (lf []))), (z3, .inr (4, [.int (0), .int (0), .int (1), .int (30), .int (0), .ref (a4 0), .ref (a4 1), .ref (a4 2), .ref (a4 3), .ref (a4 4), .ref (a4 5), .ref (a4 6)])), ((a4 0), .inl ((xcA X) 10, 10, .inl (lf []))), ((a4 1), .inl ((xcA X) 10, 10, .inl (lf []))), ((a4 2), .inl ((xcA X) 10, 10, .inl (lf []))), ((a4 3), .inl ((xcA X) 10, 4, .inl (lf []))), ((a4 4), .inl ((xcA X) 10, 4, .inl (lf []))), ((a4 5), .inl ((xcA X) 10, 4, .inl (lf []))), ((a4 6), .inl ((xcA X) 10, 4, .inl (lf []))), (z5, .inr (4, fz4))]) rfl ?_
    refine TC_n (c2 := 12) (s2 := 244) rfl rfl ?_
    refine TC_dup rfl dX7_init_30 ?_
    refine TC_callN (q := qX7_init) (index := 18) (b := z5) (c := 4) [(b, .inr (7, [.ref z1, .ref z3, .null, .null, .null, .null, .null, .null, .null, .null, .int 0])), (z1, .inr (6, [.int (0), .int (0), .int (0), .ref (a2 0), .ref (a2 1), .int (0), .int (0), .int (0), .int (0), .int (0)])), ((a2 0), .inl ((xcA X) 9, 160, .inl (lf []))), ((a2 1), .inl ((xcA X) 10, 4, .inl (lf []))), (z3, .inr (4, [.int (0), .int (0), .int (1), .int (30), .int (0), .ref (a4 0), .ref (a4 1), .ref (a4 2), .ref (a4 3), .ref (a4 4), .ref (a4 5), .ref (a4 6)])), ((a4 0), .inl ((xcA X) 10, 10, .inl (lf []))), ((a4 1), .inl ((xcA X) 10, 10, .inl (lf []))), ((a4 2), .inl ((xcA X) 10, 10, .inl (lf []))), ((a4 3), .inl ((xcA X) 10, 4, .inl (lf []))), ((a4 4), .inl ((xcA X) 10, 4, .inl (lf []))), ((a4 5), .inl ((xcA X) 10, 4, .inl (lf []))), ((a4 6), .inl ((xcA X) 10, 4, .inl (lf [])))] [.ref z5, .ref b] (by simp only [List.cons_append, List.nil_append]) mkX4_init imX4_init rfl rfl (by decide +kernel) (Nat.le_of_ble_eq_true rfl) (Nat.le_of_ble_eq_true rfl) (Nat.le_of_ble_eq_true rfl) (Nat.le_of_ble_eq_true rfl) (Nat.le_of_ble_eq_true rfl) dX7_init_31 (cnX4_init _) (fun a6 => ?_)
    refine TC_w (w' := [(b, .inr (7, [.ref z1, .ref z3, .null, .null, .null, .null, .null, .null, .null, .null, .int 0])), (z1, .inr (6, [.int (0), .int (0), .int (0), .ref (a2 0), .ref (a2 1), .int (0), .int (0), .int (0), .int (0), .int (0)])), ((a2 0), .inl ((xcA X) 9, 160, .inl (lf []))), ((a2 1), .inl ((xcA X) 10, 4, .inl (lf []))), (z3, .inr (4, [.int (0), .int (0), .int (1), .int (30), .int (0), .ref (a4 0), .ref (a4 1), .ref (a4 2), .ref (a4 3), .ref (a4 4), .ref (a4 5), .ref (a4 6)])), ((a4 0), .inl ((xcA X) 10, 10, .inl (lf []))), ((a4 1), .inl ((xcA X) 10, 10, .inl (lf []))), ((a4 2), .inl ((xcA X) 10, 10, .inl (lf []))), ((a4 3), .inl ((xcA X) 10, 4, .inl (lf []))), ((a4 4), .inl ((xcA X) 10, 4, .inl (lf []))), ((a4 5), .inl ((xcA X) 10, 4, .inl (lf []))), ((a4 6), .inl ((xcA X) 10, 4, .inl (lf []))), (z5, .inr (4, [.int (0), .int (0), .int (1), .int (30), .int (0), .ref (a6 0), .ref (a6 1), .ref (a6 2), .ref (a6 3), .ref (a6 4), .ref (a6 5), .ref (a6 6)])), ((a6 0), .inl ((xcA X) 10, 10, .inl (lf []))), ((a6 1), .inl ((xcA X) 10, 10, .inl (lf []))), ((a6 2), .inl ((xcA X) 10, 10, .inl (lf []))), ((a6 3), .inl ((xcA X) 10, 4, .inl (lf []))), ((a6 4), .inl ((xcA X) 10, 4, .inl (lf []))), ((a6 5), .inl ((xcA X) 10, 4, .inl (lf []))), ((a6 6), .inl ((xcA X) 10, 4, .inl (lf [])))]) (by simp only [wcX4_init, List.cons_append, List.nil_append]) ?_
    refine TC_n (c2 := 19) (s2 := 290) rfl rfl ?_
    refine TC_putF (ty := (.object "RankStairs$House")) (c := 7) (i := 0) (k := 2) (w' := [(b, .inr (7, [.ref z1, .ref z3, .ref z5, .null, .null, .null, .null, .null, .null, .null, .int 0])), (z1, .inr (6, [.int (0), .int (0), .int (0), .ref (a2 0), .ref (a2 1), .int (0), .int (0), .int (0), .int (0), .int (0)])), ((a2 0), .inl ((xcA X) 9, 160, .inl (lf []))), ((a2 1), .inl ((xcA X) 10, 4, .inl (lf []))), (z3, .inr (4, [.int (0), .int (0), .int (1), .int (30), .int (0), .ref (a4 0), .ref (a4 1), .ref (a4 2), .ref (a4 3), .ref (a4 4), .ref (a4 5), .ref (a4 6)])), ((a4 0), .inl ((xcA X) 10, 10, .inl (lf []))), ((a4 1), .inl ((xcA X) 10, 10, .inl (lf []))), ((a4 2), .inl ((xcA X) 10, 10, .inl (lf []))), ((a4 3), .inl ((xcA X) 10, 4, .inl (lf []))), ((a4 4), .inl ((xcA X) 10, 4, .inl (lf []))), ((a4 5), .inl ((xcA X) 10, 4, .inl (lf []))), ((a4 6), .inl ((xcA X) 10, 4, .inl (lf []))), (z5, .inr (4, [.int (0), .int (0), .int (1), .int (30), .int (0), .ref (a6 0), .ref (a6 1), .ref (a6 2), .ref (a6 3), .ref (a6 4), .ref (a6 5), .ref (a6 6)])), ((a6 0), .inl ((xcA X) 10, 10, .inl (lf []))), ((a6 1), .inl ((xcA X) 10, 10, .inl (lf []))), ((a6 2), .inl ((xcA X) 10, 10, .inl (lf []))), ((a6 3), .inl ((xcA X) 10, 4, .inl (lf []))), ((a6 4), .inl ((xcA X) 10, 4, .inl (lf []))), ((a6 5), .inl ((xcA X) 10, 4, .inl (lf []))), ((a6 6), .inl ((xcA X) 10, 4, .inl (lf [])))]) rfl (by decide) rfl rfl kfX7_23 (by decide) rfl rfl rfl (Nat.le_of_ble_eq_true rfl) rfl dX7_init_34 ?_
    refine TC_aload_n 0 rfl rfl dX7_init_37 ?_
    refine TC_iconst (2) (by decide) dX7_init_38 ?_
    refine TC_nqH 2 (by decide) (by decide) (by decide) kcX7_16 (Nat.le_of_ble_eq_true rfl) (Nat.le_of_ble_eq_true rfl) dX7_init_39 (fun z7 => ?_)
    refine TC_w (w' := [(b, .inr (7, [.ref z1, .ref z3, .ref z5, .null, .null, .null, .null, .null, .null, .null, .int 0])), (z1, .inr (6, [.int (0), .int (0), .int (0), .ref (a2 0), .ref (a2 1), .int (0), .int (0), .int (0), .int (0), .int (0)])), ((a2 0), .inl ((xcA X) 9, 160, .inl (lf []))), ((a2 1), .inl ((xcA X) 10, 4, .inl (lf []))), (z3, .inr (4, [.int (0), .int (0), .int (1), .int (30), .int (0), .ref (a4 0), .ref (a4 1), .ref (a4 2), .ref (a4 3), .ref (a4 4), .ref (a4 5), .ref (a4 6)])), ((a4 0), .inl ((xcA X) 10, 10, .inl (lf []))), ((a4 1), .inl ((xcA X) 10, 10, .inl (lf []))), ((a4 2), .inl ((xcA X) 10, 10, .inl (lf []))), ((a4 3), .inl ((xcA X) 10, 4, .inl (lf []))), ((a4 4), .inl ((xcA X) 10, 4, .inl (lf []))), ((a4 5), .inl ((xcA X) 10, 4, .inl (lf []))), ((a4 6), .inl ((xcA X) 10, 4, .inl (lf []))), (z5, .inr (4, [.int (0), .int (0), .int (1), .int (30), .int (0), .ref (a6 0), .ref (a6 1), .ref (a6 2), .ref (a6 3), .ref (a6 4), .ref (a6 5), .ref (a6 6)])), ((a6 0), .inl ((xcA X) 10, 10, .inl (lf []))), ((a6 1), .inl ((xcA X) 10, 10, .inl (lf []))), ((a6 2), .inl ((xcA X) 10, 10, .inl (lf []))), ((a6 3), .inl ((xcA X) 10, 4, .inl (lf []))), ((a6 4), .inl ((xcA X) 10, 4, .inl (lf []))), ((a6 5), .inl ((xcA X) 10, 4, .inl (lf []))), ((a6 6), .inl ((xcA X) 10, 4, .inl (lf []))), (z7, .inl ((xcA X) 13, 2, .inr (.inr (.inr (.inr (fun _ => none))))))]) rfl ?_
    refine TC_n (c2 := 20) (s2 := 292) rfl rfl ?_
    refine TC_putF (ty := (.array (.object "RankStairs$House"))) (c := 7) (i := 0) (k := 3) (w' := [(b, .inr (7, [.ref z1, .ref z3, .ref z5, .ref z7, .null, .null, .null, .null, .null, .null, .int 0])), (z1, .inr (6, [.int (0), .int (0), .int (0), .ref (a2 0), .ref (a2 1), .int (0), .int (0), .int (0), .int (0), .int (0)])), ((a2 0), .inl ((xcA X) 9, 160, .inl (lf []))), ((a2 1), .inl ((xcA X) 10, 4, .inl (lf []))), (z3, .inr (4, [.int (0), .int (0), .int (1), .int (30), .int (0), .ref (a4 0), .ref (a4 1), .ref (a4 2), .ref (a4 3), .ref (a4 4), .ref (a4 5), .ref (a4 6)])), ((a4 0), .inl ((xcA X) 10, 10, .inl (lf []))), ((a4 1), .inl ((xcA X) 10, 10, .inl (lf []))), ((a4 2), .inl ((xcA X) 10, 10, .inl (lf []))), ((a4 3), .inl ((xcA X) 10, 4, .inl (lf []))), ((a4 4), .inl ((xcA X) 10, 4, .inl (lf []))), ((a4 5), .inl ((xcA X) 10, 4, .inl (lf []))), ((a4 6), .inl ((xcA X) 10, 4, .inl (lf []))), (z5, .inr (4, [.int (0), .int (0), .int (1), .int (30), .int (0), .ref (a6 0), .ref (a6 1), .ref (a6 2), .ref (a6 3), .ref (a6 4), .ref (a6 5), .ref (a6 6)])), ((a6 0), .inl ((xcA X) 10, 10, .inl (lf []))), ((a6 1), .inl ((xcA X) 10, 10, .inl (lf []))), ((a6 2), .inl ((xcA X) 10, 10, .inl (lf []))), ((a6 3), .inl ((xcA X) 10, 4, .inl (lf []))), ((a6 4), .inl ((xcA X) 10, 4, .inl (lf []))), ((a6 5), .inl ((xcA X) 10, 4, .inl (lf []))), ((a6 6), .inl ((xcA X) 10, 4, .inl (lf []))), (z7, .inl ((xcA X) 13, 2, .inr (.inr (.inr (.inr (fun _ => none))))))]) rfl (by decide) rfl rfl kfX7_26 (by decide) rfl rfl rfl (Nat.le_of_ble_eq_true rfl) rfl dX7_init_42 ?_
    refine TC_aload_n 0 rfl rfl dX7_init_45 ?_
    refine TC_iconst (2) (by decide) dX7_init_46 ?_
    refine TC_naZ 2 (by decide) (by decide) (by decide) (Nat.le_of_ble_eq_true rfl) (Nat.le_of_ble_eq_true rfl) dX7_init_47 (fun z8 => ?_)
    refine TC_w (w' := [(b, .inr (7, [.ref z1, .ref z3, .ref z5, .ref z7, .null, .null, .null, .null, .null, .null, .int 0])), (z1, .inr (6, [.int (0), .int (0), .int (0), .ref (a2 0), .ref (a2 1), .int (0), .int (0), .int (0), .int (0), .int (0)])), ((a2 0), .inl ((xcA X) 9, 160, .inl (lf []))), ((a2 1), .inl ((xcA X) 10, 4, .inl (lf []))), (z3, .inr (4, [.int (0), .int (0), .int (1), .int (30), .int (0), .ref (a4 0), .ref (a4 1), .ref (a4 2), .ref (a4 3), .ref (a4 4), .ref (a4 5), .ref (a4 6)])), ((a4 0), .inl ((xcA X) 10, 10, .inl (lf []))), ((a4 1), .inl ((xcA X) 10, 10, .inl (lf []))), ((a4 2), .inl ((xcA X) 10, 10, .inl (lf []))), ((a4 3), .inl ((xcA X) 10, 4, .inl (lf []))), ((a4 4), .inl ((xcA X) 10, 4, .inl (lf []))), ((a4 5), .inl ((xcA X) 10, 4, .inl (lf []))), ((a4 6), .inl ((xcA X) 10, 4, .inl (lf []))), (z5, .inr (4, [.int (0), .int (0), .int (1), .int (30), .int (0), .ref (a6 0), .ref (a6 1), .ref (a6 2), .ref (a6 3), .ref (a6 4), .ref (a6 5), .ref (a6 6)])), ((a6 0), .inl ((xcA X) 10, 10, .inl (lf []))), ((a6 1), .inl ((xcA X) 10, 10, .inl (lf []))), ((a6 2), .inl ((xcA X) 10, 10, .inl (lf []))), ((a6 3), .inl ((xcA X) 10, 4, .inl (lf []))), ((a6 4), .inl ((xcA X) 10, 4, .inl (lf []))), ((a6 5), .inl ((xcA X) 10, 4, .inl (lf []))), ((a6 6), .inl ((xcA X) 10, 4, .inl (lf []))), (z7, .inl ((xcA X) 13, 2, .inr (.inr (.inr (.inr (fun _ => none)))))), (z8, .inl ((xcA X) 12, 2, .inl (lf [])))]) rfl ?_
    refine TC_n (c2 := 21) (s2 := 294) rfl rfl ?_
    refine TC_putF (ty := (.array .boolean)) (c := 7) (i := 0) (k := 4) (w' := [(b, .inr (7, [.ref z1, .ref z3, .ref z5, .ref z7, .ref z8, .null, .null, .null, .null, .null, .int 0])), (z1, .inr (6, [.int (0), .int (0), .int (0), .ref (a2 0), .ref (a2 1), .int (0), .int (0), .int (0), .int (0), .int (0)])), ((a2 0), .inl ((xcA X) 9, 160, .inl (lf []))), ((a2 1), .inl ((xcA X) 10, 4, .inl (lf []))), (z3, .inr (4, [.int (0), .int (0), .int (1), .int (30), .int (0), .ref (a4 0), .ref (a4 1), .ref (a4 2), .ref (a4 3), .ref (a4 4), .ref (a4 5), .ref (a4 6)])), ((a4 0), .inl ((xcA X) 10, 10, .inl (lf []))), ((a4 1), .inl ((xcA X) 10, 10, .inl (lf []))), ((a4 2), .inl ((xcA X) 10, 10, .inl (lf []))), ((a4 3), .inl ((xcA X) 10, 4, .inl (lf []))), ((a4 4), .inl ((xcA X) 10, 4, .inl (lf []))), ((a4 5), .inl ((xcA X) 10, 4, .inl (lf []))), ((a4 6), .inl ((xcA X) 10, 4, .inl (lf []))), (z5, .inr (4, [.int (0), .int (0), .int (1), .int (30), .int (0), .ref (a6 0), .ref (a6 1), .ref (a6 2), .ref (a6 3), .ref (a6 4), .ref (a6 5), .ref (a6 6)])), ((a6 0), .inl ((xcA X) 10, 10, .inl (lf []))), ((a6 1), .inl ((xcA X) 10, 10, .inl (lf []))), ((a6 2), .inl ((xcA X) 10, 10, .inl (lf []))), ((a6 3), .inl ((xcA X) 10, 4, .inl (lf []))), ((a6 4), .inl ((xcA X) 10, 4, .inl (lf []))), ((a6 5), .inl ((xcA X) 10, 4, .inl (lf []))), ((a6 6), .inl ((xcA X) 10, 4, .inl (lf []))), (z7, .inl ((xcA X) 13, 2, .inr (.inr (.inr (.inr (fun _ => none)))))), (z8, .inl ((xcA X) 12, 2, .inl (lf [])))]) rfl (by decide) rfl rfl kfX7_30 (by decide) rfl rfl rfl (Nat.le_of_ble_eq_true rfl) rfl dX7_init_49 ?_
    refine TC_aload_n 0 rfl rfl dX7_init_52 ?_
    refine TC_new (c := 1) (fs := fz1) rfl df1 kcX7_34 ki1 kn1 (Nat.le_of_ble_eq_true rfl) (Nat.le_of_ble_eq_true rfl) dX7_init_53 (fun z9 => ?_)
    refine TC_w (w' := [(b, .inr (7, [.ref z1, .ref z3, .ref z5, .ref z7, .ref z8, .null, .null, .null, .null, .null, .int 0])), (z1, .inr (6, [.int (0), .int (0), .int (0), .ref (a2 0), .ref (a2 1), .int (0), .int (0), .int (0), .int (0), .int (0)])), ((a2 0), .inl ((xcA X) 9, 160, .inl (lf []))), ((a2 1), .inl ((xcA X) 10, 4, .inl (lf []))), (z3, .inr (4, [.int (0), .int (0), .int (1), .int (30), .int (0), .ref (a4 0), .ref (a4 1), .ref (a4 2), .ref (a4 3), .ref (a4 4), .ref (a4 5), .ref (a4 6)])), ((a4 0), .inl ((xcA X) 10, 10, .inl (lf []))), ((a4 1), .inl ((xcA X) 10, 10, .inl (lf []))), ((a4 2), .inl ((xcA X) 10, 10, .inl (lf []))), ((a4 3), .inl ((xcA X) 10, 4, .inl (lf []))), ((a4 4), .inl ((xcA X) 10, 4, .inl (lf []))), ((a4 5), .inl ((xcA X) 10, 4, .inl (lf []))), ((a4 6), .inl ((xcA X) 10, 4, .inl (lf []))), (z5, .inr (4, [.int (0), .int (0), .int (1), .int (30), .int (0), .ref (a6 0), .ref (a6 1), .ref (a6 2), .ref (a6 3), .ref (a6 4), .ref (a6 5), .ref (a6 6)])), ((a6 0), .inl ((xcA X) 10, 10, .inl (lf []))), ((a6 1), .inl ((xcA X) 10, 10, .inl (lf []))), ((a6 2), .inl ((xcA X) 10, 10, .inl (lf []))), ((a6 3), .inl ((xcA X) 10, 4, .inl (lf []))), ((a6 4), .inl ((xcA X) 10, 4, .inl (lf []))), ((a6 5), .inl ((xcA X) 10, 4, .inl (lf []))), ((a6 6), .inl ((xcA X) 10, 4, .inl (lf []))), (z7, .inl ((xcA X) 13, 2, .inr (.inr (.inr (.inr (fun _ => none)))))), (z8, .inl ((xcA X) 12, 2, .inl (lf []))), (z9, .inr (1, fz1))]) rfl ?_
    refine TC_n (c2 := 22) (s2 := 296) rfl rfl ?_
    refine TC_dup rfl dX7_init_56 ?_
    refine TC_callN (q := qX7_init) (index := 36) (b := z9) (c := 1) [(b, .inr (7, [.ref z1, .ref z3, .ref z5, .ref z7, .ref z8, .null, .null, .null, .null, .null, .int 0])), (z1, .inr (6, [.int (0), .int (0), .int (0), .ref (a2 0), .ref (a2 1), .int (0), .int (0), .int (0), .int (0), .int (0)])), ((a2 0), .inl ((xcA X) 9, 160, .inl (lf []))), ((a2 1), .inl ((xcA X) 10, 4, .inl (lf []))), (z3, .inr (4, [.int (0), .int (0), .int (1), .int (30), .int (0), .ref (a4 0), .ref (a4 1), .ref (a4 2), .ref (a4 3), .ref (a4 4), .ref (a4 5), .ref (a4 6)])), ((a4 0), .inl ((xcA X) 10, 10, .inl (lf []))), ((a4 1), .inl ((xcA X) 10, 10, .inl (lf []))), ((a4 2), .inl ((xcA X) 10, 10, .inl (lf []))), ((a4 3), .inl ((xcA X) 10, 4, .inl (lf []))), ((a4 4), .inl ((xcA X) 10, 4, .inl (lf []))), ((a4 5), .inl ((xcA X) 10, 4, .inl (lf []))), ((a4 6), .inl ((xcA X) 10, 4, .inl (lf []))), (z5, .inr (4, [.int (0), .int (0), .int (1), .int (30), .int (0), .ref (a6 0), .ref (a6 1), .ref (a6 2), .ref (a6 3), .ref (a6 4), .ref (a6 5), .ref (a6 6)])), ((a6 0), .inl ((xcA X) 10, 10, .inl (lf []))), ((a6 1), .inl ((xcA X) 10, 10, .inl (lf []))), ((a6 2), .inl ((xcA X) 10, 10, .inl (lf []))), ((a6 3), .inl ((xcA X) 10, 4, .inl (lf []))), ((a6 4), .inl ((xcA X) 10, 4, .inl (lf []))), ((a6 5), .inl ((xcA X) 10, 4, .inl (lf []))), ((a6 6), .inl ((xcA X) 10, 4, .inl (lf []))), (z7, .inl ((xcA X) 13, 2, .inr (.inr (.inr (.inr (fun _ => none)))))), (z8, .inl ((xcA X) 12, 2, .inl (lf [])))] [.ref z9, .ref b] (by simp only [List.cons_append, List.nil_append]) mkX1_init imX1_init rfl rfl (by decide +kernel) (Nat.le_of_ble_eq_true rfl) (Nat.le_of_ble_eq_true rfl) (Nat.le_of_ble_eq_true rfl) (Nat.le_of_ble_eq_true rfl) (Nat.le_of_ble_eq_true rfl) dX7_init_57 (cnX1_init _) (fun a10 => ?_)
    refine TC_w (w' := [(b, .inr (7, [.ref z1, .ref z3, .ref z5, .ref z7, .ref z8, .null, .null, .null, .null, .null, .int 0])), (z1, .inr (6, [.int (0), .int (0), .int (0), .ref (a2 0), .ref (a2 1), .int (0), .int (0), .int (0), .int (0), .int (0)])), ((a2 0), .inl ((xcA X) 9, 160, .inl (lf []))), ((a2 1), .inl ((xcA X) 10, 4, .inl (lf []))), (z3, .inr (4, [.int (0), .int (0), .int (1), .int (30), .int (0), .ref (a4 0), .ref (a4 1), .ref (a4 2), .ref (a4 3), .ref (a4 4), .ref (a4 5), .ref (a4 6)])), ((a4 0), .inl ((xcA X) 10, 10, .inl (lf []))), ((a4 1), .inl ((xcA X) 10, 10, .inl (lf []))), ((a4 2), .inl ((xcA X) 10, 10, .inl (lf []))), ((a4 3), .inl ((xcA X) 10, 4, .inl (lf []))), ((a4 4), .inl ((xcA X) 10, 4, .inl (lf []))), ((a4 5), .inl ((xcA X) 10, 4, .inl (lf []))), ((a4 6), .inl ((xcA X) 10, 4, .inl (lf []))), (z5, .inr (4, [.int (0), .int (0), .int (1), .int (30), .int (0), .ref (a6 0), .ref (a6 1), .ref (a6 2), .ref (a6 3), .ref (a6 4), .ref (a6 5), .ref (a6 6)])), ((a6 0), .inl ((xcA X) 10, 10, .inl (lf []))), ((a6 1), .inl ((xcA X) 10, 10, .inl (lf []))), ((a6 2), .inl ((xcA X) 10, 10, .inl (lf []))), ((a6 3), .inl ((xcA X) 10, 4, .inl (lf []))), ((a6 4), .inl ((xcA X) 10, 4, .inl (lf []))), ((a6 5), .inl ((xcA X) 10, 4, .inl (lf []))), ((a6 6), .inl ((xcA X) 10, 4, .inl (lf []))), (z7, .inl ((xcA X) 13, 2, .inr (.inr (.inr (.inr (fun _ => none)))))), (z8, .inl ((xcA X) 12, 2, .inl (lf []))), (z9, .inr (1, [.ref (a10 0), .ref (a10 1)])), ((a10 0), .inl ((xcA X) 10, 10, .inl (lf []))), ((a10 1), .inl ((xcA X) 10, 10, .inl (lf [])))]) (by simp only [wcX1_init, List.cons_append, List.nil_append]) ?_
    refine TC_n (c2 := 24) (s2 := 316) rfl rfl ?_
    refine TC_putF (ty := (.object "RankStairs$Climber")) (c := 7) (i := 0) (k := 5) (w' := [(b, .inr (7, [.ref z1, .ref z3, .ref z5, .ref z7, .ref z8, .ref z9, .null, .null, .null, .null, .int 0])), (z1, .inr (6, [.int (0), .int (0), .int (0), .ref (a2 0), .ref (a2 1), .int (0), .int (0), .int (0), .int (0), .int (0)])), ((a2 0), .inl ((xcA X) 9, 160, .inl (lf []))), ((a2 1), .inl ((xcA X) 10, 4, .inl (lf []))), (z3, .inr (4, [.int (0), .int (0), .int (1), .int (30), .int (0), .ref (a4 0), .ref (a4 1), .ref (a4 2), .ref (a4 3), .ref (a4 4), .ref (a4 5), .ref (a4 6)])), ((a4 0), .inl ((xcA X) 10, 10, .inl (lf []))), ((a4 1), .inl ((xcA X) 10, 10, .inl (lf []))), ((a4 2), .inl ((xcA X) 10, 10, .inl (lf []))), ((a4 3), .inl ((xcA X) 10, 4, .inl (lf []))), ((a4 4), .inl ((xcA X) 10, 4, .inl (lf []))), ((a4 5), .inl ((xcA X) 10, 4, .inl (lf []))), ((a4 6), .inl ((xcA X) 10, 4, .inl (lf []))), (z5, .inr (4, [.int (0), .int (0), .int (1), .int (30), .int (0), .ref (a6 0), .ref (a6 1), .ref (a6 2), .ref (a6 3), .ref (a6 4), .ref (a6 5), .ref (a6 6)])), ((a6 0), .inl ((xcA X) 10, 10, .inl (lf []))), ((a6 1), .inl ((xcA X) 10, 10, .inl (lf []))), ((a6 2), .inl ((xcA X) 10, 10, .inl (lf []))), ((a6 3), .inl ((xcA X) 10, 4, .inl (lf []))), ((a6 4), .inl ((xcA X) 10, 4, .inl (lf []))), ((a6 5), .inl ((xcA X) 10, 4, .inl (lf []))), ((a6 6), .inl ((xcA X) 10, 4, .inl (lf []))), (z7, .inl ((xcA X) 13, 2, .inr (.inr (.inr (.inr (fun _ => none)))))), (z8, .inl ((xcA X) 12, 2, .inl (lf []))), (z9, .inr (1, [.ref (a10 0), .ref (a10 1)])), ((a10 0), .inl ((xcA X) 10, 10, .inl (lf []))), ((a10 1), .inl ((xcA X) 10, 10, .inl (lf [])))]) rfl (by decide) rfl rfl kfX7_37 (by decide) rfl rfl rfl (Nat.le_of_ble_eq_true rfl) rfl dX7_init_60 ?_
    refine TC_aload_n 0 rfl rfl dX7_init_63 ?_
    refine TC_new (c := 3) (fs := fz3) rfl df3 kcX7_41 ki3 kn3 (Nat.le_of_ble_eq_true rfl) (Nat.le_of_ble_eq_true rfl) dX7_init_64 (fun z11 => ?_)
    refine TC_w (w' := [(b, .inr (7, [.ref z1, .ref z3, .ref z5, .ref z7, .ref z8, .ref z9, .null, .null, .null, .null, .int 0])), (z1, .inr (6, [.int (0), .int (0), .int (0), .ref (a2 0), .ref (a2 1), .int (0), .int (0), .int (0), .int (0), .int (0)])), ((a2 0), .inl ((xcA X) 9, 160, .inl (lf []))), ((a2 1), .inl ((xcA X) 10, 4, .inl (lf []))), (z3, .inr (4, [.int (0), .int (0), .int (1), .int (30), .int (0), .ref (a4 0), .ref (a4 1), .ref (a4 2), .ref (a4 3), .ref (a4 4), .ref (a4 5), .ref (a4 6)])), ((a4 0), .inl ((xcA X) 10, 10, .inl (lf []))), ((a4 1), .inl ((xcA X) 10, 10, .inl (lf []))), ((a4 2), .inl ((xcA X) 10, 10, .inl (lf []))), ((a4 3), .inl ((xcA X) 10, 4, .inl (lf []))), ((a4 4), .inl ((xcA X) 10, 4, .inl (lf []))), ((a4 5), .inl ((xcA X) 10, 4, .inl (lf []))), ((a4 6), .inl ((xcA X) 10, 4, .inl (lf []))), (z5, .inr (4, [.int (0), .int (0), .int (1), .int (30), .int (0), .ref (a6 0), .ref (a6 1), .ref (a6 2), .ref (a6 3), .ref (a6 4), .ref (a6 5), .ref (a6 6)])), ((a6 0), .inl ((xcA X) 10, 10, .inl (lf []))), ((a6 1), .inl ((xcA X) 10, 10, .inl (lf []))), ((a6 2), .inl ((xcA X) 10, 10, .inl (lf []))), ((a6 3), .inl ((xcA X) 10, 4, .inl (lf []))), ((a6 4), .inl ((xcA X) 10, 4, .inl (lf []))), ((a6 5), .inl ((xcA X) 10, 4, .inl (lf []))), ((a6 6), .inl ((xcA X) 10, 4, .inl (lf []))), (z7, .inl ((xcA X) 13, 2, .inr (.inr (.inr (.inr (fun _ => none)))))), (z8, .inl ((xcA X) 12, 2, .inl (lf []))), (z9, .inr (1, [.ref (a10 0), .ref (a10 1)])), ((a10 0), .inl ((xcA X) 10, 10, .inl (lf []))), ((a10 1), .inl ((xcA X) 10, 10, .inl (lf []))), (z11, .inr (3, fz3))]) rfl ?_
    refine TC_n (c2 := 25) (s2 := 322) rfl rfl ?_
    refine TC_dup rfl dX7_init_67 ?_
    refine TC_callN (q := qX7_init) (index := 43) (b := z11) (c := 3) [(b, .inr (7, [.ref z1, .ref z3, .ref z5, .ref z7, .ref z8, .ref z9, .null, .null, .null, .null, .int 0])), (z1, .inr (6, [.int (0), .int (0), .int (0), .ref (a2 0), .ref (a2 1), .int (0), .int (0), .int (0), .int (0), .int (0)])), ((a2 0), .inl ((xcA X) 9, 160, .inl (lf []))), ((a2 1), .inl ((xcA X) 10, 4, .inl (lf []))), (z3, .inr (4, [.int (0), .int (0), .int (1), .int (30), .int (0), .ref (a4 0), .ref (a4 1), .ref (a4 2), .ref (a4 3), .ref (a4 4), .ref (a4 5), .ref (a4 6)])), ((a4 0), .inl ((xcA X) 10, 10, .inl (lf []))), ((a4 1), .inl ((xcA X) 10, 10, .inl (lf []))), ((a4 2), .inl ((xcA X) 10, 10, .inl (lf []))), ((a4 3), .inl ((xcA X) 10, 4, .inl (lf []))), ((a4 4), .inl ((xcA X) 10, 4, .inl (lf []))), ((a4 5), .inl ((xcA X) 10, 4, .inl (lf []))), ((a4 6), .inl ((xcA X) 10, 4, .inl (lf []))), (z5, .inr (4, [.int (0), .int (0), .int (1), .int (30), .int (0), .ref (a6 0), .ref (a6 1), .ref (a6 2), .ref (a6 3), .ref (a6 4), .ref (a6 5), .ref (a6 6)])), ((a6 0), .inl ((xcA X) 10, 10, .inl (lf []))), ((a6 1), .inl ((xcA X) 10, 10, .inl (lf []))), ((a6 2), .inl ((xcA X) 10, 10, .inl (lf []))), ((a6 3), .inl ((xcA X) 10, 4, .inl (lf []))), ((a6 4), .inl ((xcA X) 10, 4, .inl (lf []))), ((a6 5), .inl ((xcA X) 10, 4, .inl (lf []))), ((a6 6), .inl ((xcA X) 10, 4, .inl (lf []))), (z7, .inl ((xcA X) 13, 2, .inr (.inr (.inr (.inr (fun _ => none)))))), (z8, .inl ((xcA X) 12, 2, .inl (lf []))), (z9, .inr (1, [.ref (a10 0), .ref (a10 1)])), ((a10 0), .inl ((xcA X) 10, 10, .inl (lf []))), ((a10 1), .inl ((xcA X) 10, 10, .inl (lf [])))] [.ref z11, .ref b] (by simp only [List.cons_append, List.nil_append]) mkX3_init imX3_init rfl rfl (by decide +kernel) (Nat.le_of_ble_eq_true rfl) (Nat.le_of_ble_eq_true rfl) (Nat.le_of_ble_eq_true rfl) (Nat.le_of_ble_eq_true rfl) (Nat.le_of_ble_eq_true rfl) dX7_init_68 (cnX3_init _) (fun a12 => ?_)
    refine TC_w (w' := [(b, .inr (7, [.ref z1, .ref z3, .ref z5, .ref z7, .ref z8, .ref z9, .null, .null, .null, .null, .int 0])), (z1, .inr (6, [.int (0), .int (0), .int (0), .ref (a2 0), .ref (a2 1), .int (0), .int (0), .int (0), .int (0), .int (0)])), ((a2 0), .inl ((xcA X) 9, 160, .inl (lf []))), ((a2 1), .inl ((xcA X) 10, 4, .inl (lf []))), (z3, .inr (4, [.int (0), .int (0), .int (1), .int (30), .int (0), .ref (a4 0), .ref (a4 1), .ref (a4 2), .ref (a4 3), .ref (a4 4), .ref (a4 5), .ref (a4 6)])), ((a4 0), .inl ((xcA X) 10, 10, .inl (lf []))), ((a4 1), .inl ((xcA X) 10, 10, .inl (lf []))), ((a4 2), .inl ((xcA X) 10, 10, .inl (lf []))), ((a4 3), .inl ((xcA X) 10, 4, .inl (lf []))), ((a4 4), .inl ((xcA X) 10, 4, .inl (lf []))), ((a4 5), .inl ((xcA X) 10, 4, .inl (lf []))), ((a4 6), .inl ((xcA X) 10, 4, .inl (lf []))), (z5, .inr (4, [.int (0), .int (0), .int (1), .int (30), .int (0), .ref (a6 0), .ref (a6 1), .ref (a6 2), .ref (a6 3), .ref (a6 4), .ref (a6 5), .ref (a6 6)])), ((a6 0), .inl ((xcA X) 10, 10, .inl (lf []))), ((a6 1), .inl ((xcA X) 10, 10, .inl (lf []))), ((a6 2), .inl ((xcA X) 10, 10, .inl (lf []))), ((a6 3), .inl ((xcA X) 10, 4, .inl (lf []))), ((a6 4), .inl ((xcA X) 10, 4, .inl (lf []))), ((a6 5), .inl ((xcA X) 10, 4, .inl (lf []))), ((a6 6), .inl ((xcA X) 10, 4, .inl (lf []))), (z7, .inl ((xcA X) 13, 2, .inr (.inr (.inr (.inr (fun _ => none)))))), (z8, .inl ((xcA X) 12, 2, .inl (lf []))), (z9, .inr (1, [.ref (a10 0), .ref (a10 1)])), ((a10 0), .inl ((xcA X) 10, 10, .inl (lf []))), ((a10 1), .inl ((xcA X) 10, 10, .inl (lf []))), (z11, .inr (3, [.int (0), .int (0), .ref (a12 0), .ref (a12 1), .ref (a12 2), .ref (a12 3)])), ((a12 0), .inl ((xcA X) 10, 4, .inl (lf []))), ((a12 1), .inl ((xcA X) 10, 4, .inl (lf []))), ((a12 2), .inl ((xcA X) 10, 10, .inl (lf []))), ((a12 3), .inl ((xcA X) 10, 16, .inl (lf [])))]) (by simp only [wcX3_init, List.cons_append, List.nil_append]) ?_
    refine TC_n (c2 := 29) (s2 := 356) rfl rfl ?_
    refine TC_putF (ty := (.object "RankStairs$Exchange")) (c := 7) (i := 0) (k := 6) (w' := [(b, .inr (7, [.ref z1, .ref z3, .ref z5, .ref z7, .ref z8, .ref z9, .ref z11, .null, .null, .null, .int 0])), (z1, .inr (6, [.int (0), .int (0), .int (0), .ref (a2 0), .ref (a2 1), .int (0), .int (0), .int (0), .int (0), .int (0)])), ((a2 0), .inl ((xcA X) 9, 160, .inl (lf []))), ((a2 1), .inl ((xcA X) 10, 4, .inl (lf []))), (z3, .inr (4, [.int (0), .int (0), .int (1), .int (30), .int (0), .ref (a4 0), .ref (a4 1), .ref (a4 2), .ref (a4 3), .ref (a4 4), .ref (a4 5), .ref (a4 6)])), ((a4 0), .inl ((xcA X) 10, 10, .inl (lf []))), ((a4 1), .inl ((xcA X) 10, 10, .inl (lf []))), ((a4 2), .inl ((xcA X) 10, 10, .inl (lf []))), ((a4 3), .inl ((xcA X) 10, 4, .inl (lf []))), ((a4 4), .inl ((xcA X) 10, 4, .inl (lf []))), ((a4 5), .inl ((xcA X) 10, 4, .inl (lf []))), ((a4 6), .inl ((xcA X) 10, 4, .inl (lf []))), (z5, .inr (4, [.int (0), .int (0), .int (1), .int (30), .int (0), .ref (a6 0), .ref (a6 1), .ref (a6 2), .ref (a6 3), .ref (a6 4), .ref (a6 5), .ref (a6 6)])), ((a6 0), .inl ((xcA X) 10, 10, .inl (lf []))), ((a6 1), .inl ((xcA X) 10, 10, .inl (lf []))), ((a6 2), .inl ((xcA X) 10, 10, .inl (lf []))), ((a6 3), .inl ((xcA X) 10, 4, .inl (lf []))), ((a6 4), .inl ((xcA X) 10, 4, .inl (lf []))), ((a6 5), .inl ((xcA X) 10, 4, .inl (lf []))), ((a6 6), .inl ((xcA X) 10, 4, .inl (lf []))), (z7, .inl ((xcA X) 13, 2, .inr (.inr (.inr (.inr (fun _ => none)))))), (z8, .inl ((xcA X) 12, 2, .inl (lf []))), (z9, .inr (1, [.ref (a10 0), .ref (a10 1)])), ((a10 0), .inl ((xcA X) 10, 10, .inl (lf []))), ((a10 1), .inl ((xcA X) 10, 10, .inl (lf []))), (z11, .inr (3, [.int (0), .int (0), .ref (a12 0), .ref (a12 1), .ref (a12 2), .ref (a12 3)])), ((a12 0), .inl ((xcA X) 10, 4, .inl (lf []))), ((a12 1), .inl ((xcA X) 10, 4, .inl (lf []))), ((a12 2), .inl ((xcA X) 10, 10, .inl (lf []))), ((a12 3), .inl ((xcA X) 10, 16, .inl (lf [])))]) rfl (by decide) rfl rfl kfX7_44 (by decide) rfl rfl rfl (Nat.le_of_ble_eq_true rfl) rfl dX7_init_71 ?_
    refine TC_aload_n 0 rfl rfl dX7_init_74 ?_
    refine TC_new (c := 0) (fs := fz0) rfl df0 kcX7_48 ki0 kn0 (Nat.le_of_ble_eq_true rfl) (Nat.le_of_ble_eq_true rfl) dX7_init_75 (fun z13 => ?_)
    refine TC_w (w' := [(b, .inr (7, [.ref z1, .ref z3, .ref z5, .ref z7, .ref z8, .ref z9, .ref z11, .null, .null, .null, .int 0])), (z1, .inr (6, [.int (0), .int (0), .int (0), .ref (a2 0), .ref (a2 1), .int (0), .int (0), .int (0), .int (0), .int (0)])), ((a2 0), .inl ((xcA X) 9, 160, .inl (lf []))), ((a2 1), .inl ((xcA X) 10, 4, .inl (lf []))), (z3, .inr (4, [.int (0), .int (0), .int (1), .int (30), .int (0), .ref (a4 0), .ref (a4 1), .ref (a4 2), .ref (a4 3), .ref (a4 4), .ref (a4 5), .ref (a4 6)])), ((a4 0), .inl ((xcA X) 10, 10, .inl (lf []))), ((a4 1), .inl ((xcA X) 10, 10, .inl (lf []))), ((a4 2), .inl ((xcA X) 10, 10, .inl (lf []))), ((a4 3), .inl ((xcA X) 10, 4, .inl (lf []))), ((a4 4), .inl ((xcA X) 10, 4, .inl (lf []))), ((a4 5), .inl ((xcA X) 10, 4, .inl (lf []))), ((a4 6), .inl ((xcA X) 10, 4, .inl (lf []))), (z5, .inr (4, [.int (0), .int (0), .int (1), .int (30), .int (0), .ref (a6 0), .ref (a6 1), .ref (a6 2), .ref (a6 3), .ref (a6 4), .ref (a6 5), .ref (a6 6)])), ((a6 0), .inl ((xcA X) 10, 10, .inl (lf []))), ((a6 1), .inl ((xcA X) 10, 10, .inl (lf []))), ((a6 2), .inl ((xcA X) 10, 10, .inl (lf []))), ((a6 3), .inl ((xcA X) 10, 4, .inl (lf []))), ((a6 4), .inl ((xcA X) 10, 4, .inl (lf []))), ((a6 5), .inl ((xcA X) 10, 4, .inl (lf []))), ((a6 6), .inl ((xcA X) 10, 4, .inl (lf []))), (z7, .inl ((xcA X) 13, 2, .inr (.inr (.inr (.inr (fun _ => none)))))), (z8, .inl ((xcA X) 12, 2, .inl (lf []))), (z9, .inr (1, [.ref (a10 0), .ref (a10 1)])), ((a10 0), .inl ((xcA X) 10, 10, .inl (lf []))), ((a10 1), .inl ((xcA X) 10, 10, .inl (lf []))), (z11, .inr (3, [.int (0), .int (0), .ref (a12 0), .ref (a12 1), .ref (a12 2), .ref (a12 3)])), ((a12 0), .inl ((xcA X) 10, 4, .inl (lf []))), ((a12 1), .inl ((xcA X) 10, 4, .inl (lf []))), ((a12 2), .inl ((xcA X) 10, 10, .inl (lf []))), ((a12 3), .inl ((xcA X) 10, 16, .inl (lf []))), (z13, .inr (0, fz0))]) rfl ?_
    refine TC_n (c2 := 30) (s2 := 358) rfl rfl ?_
    refine TC_dup rfl dX7_init_78 ?_
    refine TC_callN (q := qX7_init) (index := 50) (b := z13) (c := 0) [(b, .inr (7, [.ref z1, .ref z3, .ref z5, .ref z7, .ref z8, .ref z9, .ref z11, .null, .null, .null, .int 0])), (z1, .inr (6, [.int (0), .int (0), .int (0), .ref (a2 0), .ref (a2 1), .int (0), .int (0), .int (0), .int (0), .int (0)])), ((a2 0), .inl ((xcA X) 9, 160, .inl (lf []))), ((a2 1), .inl ((xcA X) 10, 4, .inl (lf []))), (z3, .inr (4, [.int (0), .int (0), .int (1), .int (30), .int (0), .ref (a4 0), .ref (a4 1), .ref (a4 2), .ref (a4 3), .ref (a4 4), .ref (a4 5), .ref (a4 6)])), ((a4 0), .inl ((xcA X) 10, 10, .inl (lf []))), ((a4 1), .inl ((xcA X) 10, 10, .inl (lf []))), ((a4 2), .inl ((xcA X) 10, 10, .inl (lf []))), ((a4 3), .inl ((xcA X) 10, 4, .inl (lf []))), ((a4 4), .inl ((xcA X) 10, 4, .inl (lf []))), ((a4 5), .inl ((xcA X) 10, 4, .inl (lf []))), ((a4 6), .inl ((xcA X) 10, 4, .inl (lf []))), (z5, .inr (4, [.int (0), .int (0), .int (1), .int (30), .int (0), .ref (a6 0), .ref (a6 1), .ref (a6 2), .ref (a6 3), .ref (a6 4), .ref (a6 5), .ref (a6 6)])), ((a6 0), .inl ((xcA X) 10, 10, .inl (lf []))), ((a6 1), .inl ((xcA X) 10, 10, .inl (lf []))), ((a6 2), .inl ((xcA X) 10, 10, .inl (lf []))), ((a6 3), .inl ((xcA X) 10, 4, .inl (lf []))), ((a6 4), .inl ((xcA X) 10, 4, .inl (lf []))), ((a6 5), .inl ((xcA X) 10, 4, .inl (lf []))), ((a6 6), .inl ((xcA X) 10, 4, .inl (lf []))), (z7, .inl ((xcA X) 13, 2, .inr (.inr (.inr (.inr (fun _ => none)))))), (z8, .inl ((xcA X) 12, 2, .inl (lf []))), (z9, .inr (1, [.ref (a10 0), .ref (a10 1)])), ((a10 0), .inl ((xcA X) 10, 10, .inl (lf []))), ((a10 1), .inl ((xcA X) 10, 10, .inl (lf []))), (z11, .inr (3, [.int (0), .int (0), .ref (a12 0), .ref (a12 1), .ref (a12 2), .ref (a12 3)])), ((a12 0), .inl ((xcA X) 10, 4, .inl (lf []))), ((a12 1), .inl ((xcA X) 10, 4, .inl (lf []))), ((a12 2), .inl ((xcA X) 10, 10, .inl (lf []))), ((a12 3), .inl ((xcA X) 10, 16, .inl (lf [])))] [.ref z13, .ref b] (by simp only [List.cons_append, List.nil_append]) mkX0_init imX0_init rfl rfl (by decide +kernel) (Nat.le_of_ble_eq_true rfl) (Nat.le_of_ble_eq_true rfl) (Nat.le_of_ble_eq_true rfl) (Nat.le_of_ble_eq_true rfl) (Nat.le_of_ble_eq_true rfl) dX7_init_79 (cnX0_init _) (fun a14 => ?_)
    refine TC_w (w' := [(b, .inr (7, [.ref z1, .ref z3, .ref z5, .ref z7, .ref z8, .ref z9, .ref z11, .null, .null, .null, .int 0])), (z1, .inr (6, [.int (0), .int (0), .int (0), .ref (a2 0), .ref (a2 1), .int (0), .int (0), .int (0), .int (0), .int (0)])), ((a2 0), .inl ((xcA X) 9, 160, .inl (lf []))), ((a2 1), .inl ((xcA X) 10, 4, .inl (lf []))), (z3, .inr (4, [.int (0), .int (0), .int (1), .int (30), .int (0), .ref (a4 0), .ref (a4 1), .ref (a4 2), .ref (a4 3), .ref (a4 4), .ref (a4 5), .ref (a4 6)])), ((a4 0), .inl ((xcA X) 10, 10, .inl (lf []))), ((a4 1), .inl ((xcA X) 10, 10, .inl (lf []))), ((a4 2), .inl ((xcA X) 10, 10, .inl (lf []))), ((a4 3), .inl ((xcA X) 10, 4, .inl (lf []))), ((a4 4), .inl ((xcA X) 10, 4, .inl (lf []))), ((a4 5), .inl ((xcA X) 10, 4, .inl (lf []))), ((a4 6), .inl ((xcA X) 10, 4, .inl (lf []))), (z5, .inr (4, [.int (0), .int (0), .int (1), .int (30), .int (0), .ref (a6 0), .ref (a6 1), .ref (a6 2), .ref (a6 3), .ref (a6 4), .ref (a6 5), .ref (a6 6)])), ((a6 0), .inl ((xcA X) 10, 10, .inl (lf []))), ((a6 1), .inl ((xcA X) 10, 10, .inl (lf []))), ((a6 2), .inl ((xcA X) 10, 10, .inl (lf []))), ((a6 3), .inl ((xcA X) 10, 4, .inl (lf []))), ((a6 4), .inl ((xcA X) 10, 4, .inl (lf []))), ((a6 5), .inl ((xcA X) 10, 4, .inl (lf []))), ((a6 6), .inl ((xcA X) 10, 4, .inl (lf []))), (z7, .inl ((xcA X) 13, 2, .inr (.inr (.inr (.inr (fun _ => none)))))), (z8, .inl ((xcA X) 12, 2, .inl (lf []))), (z9, .inr (1, [.ref (a10 0), .ref (a10 1)])), ((a10 0), .inl ((xcA X) 10, 10, .inl (lf []))), ((a10 1), .inl ((xcA X) 10, 10, .inl (lf []))), (z11, .inr (3, [.int (0), .int (0), .ref (a12 0), .ref (a12 1), .ref (a12 2), .ref (a12 3)])), ((a12 0), .inl ((xcA X) 10, 4, .inl (lf []))), ((a12 1), .inl ((xcA X) 10, 4, .inl (lf []))), ((a12 2), .inl ((xcA X) 10, 10, .inl (lf []))), ((a12 3), .inl ((xcA X) 10, 16, .inl (lf []))), (z13, .inr (0, [.ref (a14 0), .ref (a14 1)])), ((a14 0), .inl ((xcA X) 11, 16, .inr (.inl (fun _ => 0)))), ((a14 1), .inl ((xcA X) 11, 16, .inr (.inl (fun _ => 0))))]) (by simp only [wcX0_init, List.cons_append, List.nil_append]) ?_
    refine TC_n (c2 := 32) (s2 := 390) rfl rfl ?_
    refine TC_putF (ty := (.object "RankStairs$Chances")) (c := 7) (i := 0) (k := 7) (w' := [(b, .inr (7, [.ref z1, .ref z3, .ref z5, .ref z7, .ref z8, .ref z9, .ref z11, .ref z13, .null, .null, .int 0])), (z1, .inr (6, [.int (0), .int (0), .int (0), .ref (a2 0), .ref (a2 1), .int (0), .int (0), .int (0), .int (0), .int (0)])), ((a2 0), .inl ((xcA X) 9, 160, .inl (lf []))), ((a2 1), .inl ((xcA X) 10, 4, .inl (lf []))), (z3, .inr (4, [.int (0), .int (0), .int (1), .int (30), .int (0), .ref (a4 0), .ref (a4 1), .ref (a4 2), .ref (a4 3), .ref (a4 4), .ref (a4 5), .ref (a4 6)])), ((a4 0), .inl ((xcA X) 10, 10, .inl (lf []))), ((a4 1), .inl ((xcA X) 10, 10, .inl (lf []))), ((a4 2), .inl ((xcA X) 10, 10, .inl (lf []))), ((a4 3), .inl ((xcA X) 10, 4, .inl (lf []))), ((a4 4), .inl ((xcA X) 10, 4, .inl (lf []))), ((a4 5), .inl ((xcA X) 10, 4, .inl (lf []))), ((a4 6), .inl ((xcA X) 10, 4, .inl (lf []))), (z5, .inr (4, [.int (0), .int (0), .int (1), .int (30), .int (0), .ref (a6 0), .ref (a6 1), .ref (a6 2), .ref (a6 3), .ref (a6 4), .ref (a6 5), .ref (a6 6)])), ((a6 0), .inl ((xcA X) 10, 10, .inl (lf []))), ((a6 1), .inl ((xcA X) 10, 10, .inl (lf []))), ((a6 2), .inl ((xcA X) 10, 10, .inl (lf []))), ((a6 3), .inl ((xcA X) 10, 4, .inl (lf []))), ((a6 4), .inl ((xcA X) 10, 4, .inl (lf []))), ((a6 5), .inl ((xcA X) 10, 4, .inl (lf []))), ((a6 6), .inl ((xcA X) 10, 4, .inl (lf []))), (z7, .inl ((xcA X) 13, 2, .inr (.inr (.inr (.inr (fun _ => none)))))), (z8, .inl ((xcA X) 12, 2, .inl (lf []))), (z9, .inr (1, [.ref (a10 0), .ref (a10 1)])), ((a10 0), .inl ((xcA X) 10, 10, .inl (lf []))), ((a10 1), .inl ((xcA X) 10, 10, .inl (lf []))), (z11, .inr (3, [.int (0), .int (0), .ref (a12 0), .ref (a12 1), .ref (a12 2), .ref (a12 3)])), ((a12 0), .inl ((xcA X) 10, 4, .inl (lf []))), ((a12 1), .inl ((xcA X) 10, 4, .inl (lf []))), ((a12 2), .inl ((xcA X) 10, 10, .inl (lf []))), ((a12 3), .inl ((xcA X) 10, 16, .inl (lf []))), (z13, .inr (0, [.ref (a14 0), .ref (a14 1)])), ((a14 0), .inl ((xcA X) 11, 16, .inr (.inl (fun _ => 0)))), ((a14 1), .inl ((xcA X) 11, 16, .inr (.inl (fun _ => 0))))]) rfl (by decide) rfl rfl kfX7_51 (by decide) rfl rfl rfl (Nat.le_of_ble_eq_true rfl) rfl dX7_init_82 ?_
    refine TC_aload_n 0 rfl rfl dX7_init_85 ?_
    refine TC_new (c := 2) (fs := fz2) rfl df2 kcX7_55 ki2 kn2 (Nat.le_of_ble_eq_true rfl) (Nat.le_of_ble_eq_true rfl) dX7_init_86 (fun z15 => ?_)
    refine TC_w (w' := [(b, .inr (7, [.ref z1, .ref z3, .ref z5, .ref z7, .ref z8, .ref z9, .ref z11, .ref z13, .null, .null, .int 0])), (z1, .inr (6, [.int (0), .int (0), .int (0), .ref (a2 0), .ref (a2 1), .int (0), .int (0), .int (0), .int (0), .int (0)])), ((a2 0), .inl ((xcA X) 9, 160, .inl (lf []))), ((a2 1), .inl ((xcA X) 10, 4, .inl (lf []))), (z3, .inr (4, [.int (0), .int (0), .int (1), .int (30), .int (0), .ref (a4 0), .ref (a4 1), .ref (a4 2), .ref (a4 3), .ref (a4 4), .ref (a4 5), .ref (a4 6)])), ((a4 0), .inl ((xcA X) 10, 10, .inl (lf []))), ((a4 1), .inl ((xcA X) 10, 10, .inl (lf []))), ((a4 2), .inl ((xcA X) 10, 10, .inl (lf []))), ((a4 3), .inl ((xcA X) 10, 4, .inl (lf []))), ((a4 4), .inl ((xcA X) 10, 4, .inl (lf []))), ((a4 5), .inl ((xcA X) 10, 4, .inl (lf []))), ((a4 6), .inl ((xcA X) 10, 4, .inl (lf []))), (z5, .inr (4, [.int (0), .int (0), .int (1), .int (30), .int (0), .ref (a6 0), .ref (a6 1), .ref (a6 2), .ref (a6 3), .ref (a6 4), .ref (a6 5), .ref (a6 6)])), ((a6 0), .inl ((xcA X) 10, 10, .inl (lf []))), ((a6 1), .inl ((xcA X) 10, 10, .inl (lf []))), ((a6 2), .inl ((xcA X) 10, 10, .inl (lf []))), ((a6 3), .inl ((xcA X) 10, 4, .inl (lf []))), ((a6 4), .inl ((xcA X) 10, 4, .inl (lf []))), ((a6 5), .inl ((xcA X) 10, 4, .inl (lf []))), ((a6 6), .inl ((xcA X) 10, 4, .inl (lf []))), (z7, .inl ((xcA X) 13, 2, .inr (.inr (.inr (.inr (fun _ => none)))))), (z8, .inl ((xcA X) 12, 2, .inl (lf []))), (z9, .inr (1, [.ref (a10 0), .ref (a10 1)])), ((a10 0), .inl ((xcA X) 10, 10, .inl (lf []))), ((a10 1), .inl ((xcA X) 10, 10, .inl (lf []))), (z11, .inr (3, [.int (0), .int (0), .ref (a12 0), .ref (a12 1), .ref (a12 2), .ref (a12 3)])), ((a12 0), .inl ((xcA X) 10, 4, .inl (lf []))), ((a12 1), .inl ((xcA X) 10, 4, .inl (lf []))), ((a12 2), .inl ((xcA X) 10, 10, .inl (lf []))), ((a12 3), .inl ((xcA X) 10, 16, .inl (lf []))), (z13, .inr (0, [.ref (a14 0), .ref (a14 1)])), ((a14 0), .inl ((xcA X) 11, 16, .inr (.inl (fun _ => 0)))), ((a14 1), .inl ((xcA X) 11, 16, .inr (.inl (fun _ => 0)))), (z15, .inr (2, fz2))]) rfl ?_
    refine TC_n (c2 := 33) (s2 := 397) rfl rfl ?_
    refine TC_dup rfl dX7_init_89 ?_
    refine TC_callN (q := qX7_init) (index := 57) (b := z15) (c := 2) [(b, .inr (7, [.ref z1, .ref z3, .ref z5, .ref z7, .ref z8, .ref z9, .ref z11, .ref z13, .null, .null, .int 0])), (z1, .inr (6, [.int (0), .int (0), .int (0), .ref (a2 0), .ref (a2 1), .int (0), .int (0), .int (0), .int (0), .int (0)])), ((a2 0), .inl ((xcA X) 9, 160, .inl (lf []))), ((a2 1), .inl ((xcA X) 10, 4, .inl (lf []))), (z3, .inr (4, [.int (0), .int (0), .int (1), .int (30), .int (0), .ref (a4 0), .ref (a4 1), .ref (a4 2), .ref (a4 3), .ref (a4 4), .ref (a4 5), .ref (a4 6)])), ((a4 0), .inl ((xcA X) 10, 10, .inl (lf []))), ((a4 1), .inl ((xcA X) 10, 10, .inl (lf []))), ((a4 2), .inl ((xcA X) 10, 10, .inl (lf []))), ((a4 3), .inl ((xcA X) 10, 4, .inl (lf []))), ((a4 4), .inl ((xcA X) 10, 4, .inl (lf []))), ((a4 5), .inl ((xcA X) 10, 4, .inl (lf []))), ((a4 6), .inl ((xcA X) 10, 4, .inl (lf []))), (z5, .inr (4, [.int (0), .int (0), .int (1), .int (30), .int (0), .ref (a6 0), .ref (a6 1), .ref (a6 2), .ref (a6 3), .ref (a6 4), .ref (a6 5), .ref (a6 6)])), ((a6 0), .inl ((xcA X) 10, 10, .inl (lf []))), ((a6 1), .inl ((xcA X) 10, 10, .inl (lf []))), ((a6 2), .inl ((xcA X) 10, 10, .inl (lf []))), ((a6 3), .inl ((xcA X) 10, 4, .inl (lf []))), ((a6 4), .inl ((xcA X) 10, 4, .inl (lf []))), ((a6 5), .inl ((xcA X) 10, 4, .inl (lf []))), ((a6 6), .inl ((xcA X) 10, 4, .inl (lf []))), (z7, .inl ((xcA X) 13, 2, .inr (.inr (.inr (.inr (fun _ => none)))))), (z8, .inl ((xcA X) 12, 2, .inl (lf []))), (z9, .inr (1, [.ref (a10 0), .ref (a10 1)])), ((a10 0), .inl ((xcA X) 10, 10, .inl (lf []))), ((a10 1), .inl ((xcA X) 10, 10, .inl (lf []))), (z11, .inr (3, [.int (0), .int (0), .ref (a12 0), .ref (a12 1), .ref (a12 2), .ref (a12 3)])), ((a12 0), .inl ((xcA X) 10, 4, .inl (lf []))), ((a12 1), .inl ((xcA X) 10, 4, .inl (lf []))), ((a12 2), .inl ((xcA X) 10, 10, .inl (lf []))), ((a12 3), .inl ((xcA X) 10, 16, .inl (lf []))), (z13, .inr (0, [.ref (a14 0), .ref (a14 1)])), ((a14 0), .inl ((xcA X) 11, 16, .inr (.inl (fun _ => 0)))), ((a14 1), .inl ((xcA X) 11, 16, .inr (.inl (fun _ => 0))))] [.ref z15, .ref b] (by simp only [List.cons_append, List.nil_append]) mkX2_init imX2_init rfl rfl (by decide +kernel) (Nat.le_of_ble_eq_true rfl) (Nat.le_of_ble_eq_true rfl) (Nat.le_of_ble_eq_true rfl) (Nat.le_of_ble_eq_true rfl) (Nat.le_of_ble_eq_true rfl) dX7_init_90 (cnX2_init _) (fun a16 => ?_)
    refine TC_w (w' := [(b, .inr (7, [.ref z1, .ref z3, .ref z5, .ref z7, .ref z8, .ref z9, .ref z11, .ref z13, .null, .null, .int 0])), (z1, .inr (6, [.int (0), .int (0), .int (0), .ref (a2 0), .ref (a2 1), .int (0), .int (0), .int (0), .int (0), .int (0)])), ((a2 0), .inl ((xcA X) 9, 160, .inl (lf []))), ((a2 1), .inl ((xcA X) 10, 4, .inl (lf []))), (z3, .inr (4, [.int (0), .int (0), .int (1), .int (30), .int (0), .ref (a4 0), .ref (a4 1), .ref (a4 2), .ref (a4 3), .ref (a4 4), .ref (a4 5), .ref (a4 6)])), ((a4 0), .inl ((xcA X) 10, 10, .inl (lf []))), ((a4 1), .inl ((xcA X) 10, 10, .inl (lf []))), ((a4 2), .inl ((xcA X) 10, 10, .inl (lf []))), ((a4 3), .inl ((xcA X) 10, 4, .inl (lf []))), ((a4 4), .inl ((xcA X) 10, 4, .inl (lf []))), ((a4 5), .inl ((xcA X) 10, 4, .inl (lf []))), ((a4 6), .inl ((xcA X) 10, 4, .inl (lf []))), (z5, .inr (4, [.int (0), .int (0), .int (1), .int (30), .int (0), .ref (a6 0), .ref (a6 1), .ref (a6 2), .ref (a6 3), .ref (a6 4), .ref (a6 5), .ref (a6 6)])), ((a6 0), .inl ((xcA X) 10, 10, .inl (lf []))), ((a6 1), .inl ((xcA X) 10, 10, .inl (lf []))), ((a6 2), .inl ((xcA X) 10, 10, .inl (lf []))), ((a6 3), .inl ((xcA X) 10, 4, .inl (lf []))), ((a6 4), .inl ((xcA X) 10, 4, .inl (lf []))), ((a6 5), .inl ((xcA X) 10, 4, .inl (lf []))), ((a6 6), .inl ((xcA X) 10, 4, .inl (lf []))), (z7, .inl ((xcA X) 13, 2, .inr (.inr (.inr (.inr (fun _ => none)))))), (z8, .inl ((xcA X) 12, 2, .inl (lf []))), (z9, .inr (1, [.ref (a10 0), .ref (a10 1)])), ((a10 0), .inl ((xcA X) 10, 10, .inl (lf []))), ((a10 1), .inl ((xcA X) 10, 10, .inl (lf []))), (z11, .inr (3, [.int (0), .int (0), .ref (a12 0), .ref (a12 1), .ref (a12 2), .ref (a12 3)])), ((a12 0), .inl ((xcA X) 10, 4, .inl (lf []))), ((a12 1), .inl ((xcA X) 10, 4, .inl (lf []))), ((a12 2), .inl ((xcA X) 10, 10, .inl (lf []))), ((a12 3), .inl ((xcA X) 10, 16, .inl (lf []))), (z13, .inr (0, [.ref (a14 0), .ref (a14 1)])), ((a14 0), .inl ((xcA X) 11, 16, .inr (.inl (fun _ => 0)))), ((a14 1), .inl ((xcA X) 11, 16, .inr (.inl (fun _ => 0)))), (z15, .inr (2, [.int (0), .ref (a16 0), .ref (a16 1), .ref (a16 2), .ref (a16 3), .ref (a16 11), .ref (a16 17)])), ((a16 0), .inl ((xcA X) 10, 4, .inl (lf []))), ((a16 1), .inl ((xcA X) 10, 6, .inl (lf []))), ((a16 2), .inl ((xcA X) 10, 6, .inl (lf []))), ((a16 3), .inr (4, [.int (0), .int (0), .int (1), .int (30), .int (0), .ref (a16 4), .ref (a16 5), .ref (a16 6), .ref (a16 7), .ref (a16 8), .ref (a16 9), .ref (a16 10)])), ((a16 4), .inl ((xcA X) 10, 10, .inl (lf []))), ((a16 5), .inl ((xcA X) 10, 10, .inl (lf []))), ((a16 6), .inl ((xcA X) 10, 10, .inl (lf []))), ((a16 7), .inl ((xcA X) 10, 4, .inl (lf []))), ((a16 8), .inl ((xcA X) 10, 4, .inl (lf []))), ((a16 9), .inl ((xcA X) 10, 4, .inl (lf []))), ((a16 10), .inl ((xcA X) 10, 4, .inl (lf []))), ((a16 11), .inl ((xcA X) 15, 5, .inr (.inr (.inr (.inr (gq [(a16 12), (a16 13), (a16 14), (a16 15), (a16 16)])))))), ((a16 12), .inl ((xcA X) 10, 10, .inl (lf []))), ((a16 13), .inl ((xcA X) 10, 10, .inl (lf []))), ((a16 14), .inl ((xcA X) 10, 10, .inl (lf []))), ((a16 15), .inl ((xcA X) 10, 10, .inl (lf []))), ((a16 16), .inl ((xcA X) 10, 10, .inl (lf []))), ((a16 17), .inl ((xcA X) 15, 4, .inr (.inr (.inr (.inr (gq [(a16 18), (a16 19), (a16 20), (a16 21)])))))), ((a16 18), .inl ((xcA X) 10, 10, .inl (lf []))), ((a16 19), .inl ((xcA X) 10, 10, .inl (lf []))), ((a16 20), .inl ((xcA X) 10, 10, .inl (lf []))), ((a16 21), .inl ((xcA X) 10, 10, .inl (lf [])))]) (by simp only [wcX2_init, List.cons_append, List.nil_append]) ?_
    refine TC_n (c2 := 55) (s2 := 570) rfl rfl ?_
    refine TC_putF (ty := (.object "RankStairs$Dust")) (c := 7) (i := 0) (k := 8) (w' := [(b, .inr (7, [.ref z1, .ref z3, .ref z5, .ref z7, .ref z8, .ref z9, .ref z11, .ref z13, .ref z15, .null, .int 0])), (z1, .inr (6, [.int (0), .int (0), .int (0), .ref (a2 0), .ref (a2 1), .int (0), .int (0), .int (0), .int (0), .int (0)])), ((a2 0), .inl ((xcA X) 9, 160, .inl (lf []))), ((a2 1), .inl ((xcA X) 10, 4, .inl (lf []))), (z3, .inr (4, [.int (0), .int (0), .int (1), .int (30), .int (0), .ref (a4 0), .ref (a4 1), .ref (a4 2), .ref (a4 3), .ref (a4 4), .ref (a4 5), .ref (a4 6)])), ((a4 0), .inl ((xcA X) 10, 10, .inl (lf []))), ((a4 1), .inl ((xcA X) 10, 10, .inl (lf []))), ((a4 2), .inl ((xcA X) 10, 10, .inl (lf []))), ((a4 3), .inl ((xcA X) 10, 4, .inl (lf []))), ((a4 4), .inl ((xcA X) 10, 4, .inl (lf []))), ((a4 5), .inl ((xcA X) 10, 4, .inl (lf []))), ((a4 6), .inl ((xcA X) 10, 4, .inl (lf []))), (z5, .inr (4, [.int (0), .int (0), .int (1), .int (30), .int (0), .ref (a6 0), .ref (a6 1), .ref (a6 2), .ref (a6 3), .ref (a6 4), .ref (a6 5), .ref (a6 6)])), ((a6 0), .inl ((xcA X) 10, 10, .inl (lf []))), ((a6 1), .inl ((xcA X) 10, 10, .inl (lf []))), ((a6 2), .inl ((xcA X) 10, 10, .inl (lf []))), ((a6 3), .inl ((xcA X) 10, 4, .inl (lf []))), ((a6 4), .inl ((xcA X) 10, 4, .inl (lf []))), ((a6 5), .inl ((xcA X) 10, 4, .inl (lf []))), ((a6 6), .inl ((xcA X) 10, 4, .inl (lf []))), (z7, .inl ((xcA X) 13, 2, .inr (.inr (.inr (.inr (fun _ => none)))))), (z8, .inl ((xcA X) 12, 2, .inl (lf []))), (z9, .inr (1, [.ref (a10 0), .ref (a10 1)])), ((a10 0), .inl ((xcA X) 10, 10, .inl (lf []))), ((a10 1), .inl ((xcA X) 10, 10, .inl (lf []))), (z11, .inr (3, [.int (0), .int (0), .ref (a12 0), .ref (a12 1), .ref (a12 2), .ref (a12 3)])), ((a12 0), .inl ((xcA X) 10, 4, .inl (lf []))), ((a12 1), .inl ((xcA X) 10, 4, .inl (lf []))), ((a12 2), .inl ((xcA X) 10, 10, .inl (lf []))), ((a12 3), .inl ((xcA X) 10, 16, .inl (lf []))), (z13, .inr (0, [.ref (a14 0), .ref (a14 1)])), ((a14 0), .inl ((xcA X) 11, 16, .inr (.inl (fun _ => 0)))), ((a14 1), .inl ((xcA X) 11, 16, .inr (.inl (fun _ => 0)))), (z15, .inr (2, [.int (0), .ref (a16 0), .ref (a16 1), .ref (a16 2), .ref (a16 3), .ref (a16 11), .ref (a16 17)])), ((a16 0), .inl ((xcA X) 10, 4, .inl (lf []))), ((a16 1), .inl ((xcA X) 10, 6, .inl (lf []))), ((a16 2), .inl ((xcA X) 10, 6, .inl (lf []))), ((a16 3), .inr (4, [.int (0), .int (0), .int (1), .int (30), .int (0), .ref (a16 4), .ref (a16 5), .ref (a16 6), .ref (a16 7), .ref (a16 8), .ref (a16 9), .ref (a16 10)])), ((a16 4), .inl ((xcA X) 10, 10, .inl (lf []))), ((a16 5), .inl ((xcA X) 10, 10, .inl (lf []))), ((a16 6), .inl ((xcA X) 10, 10, .inl (lf []))), ((a16 7), .inl ((xcA X) 10, 4, .inl (lf []))), ((a16 8), .inl ((xcA X) 10, 4, .inl (lf []))), ((a16 9), .inl ((xcA X) 10, 4, .inl (lf []))), ((a16 10), .inl ((xcA X) 10, 4, .inl (lf []))), ((a16 11), .inl ((xcA X) 15, 5, .inr (.inr (.inr (.inr (gq [(a16 12), (a16 13), (a16 14), (a16 15), (a16 16)])))))), ((a16 12), .inl ((xcA X) 10, 10, .inl (lf []))), ((a16 13), .inl ((xcA X) 10, 10, .inl (lf []))), ((a16 14), .inl ((xcA X) 10, 10, .inl (lf []))), ((a16 15), .inl ((xcA X) 10, 10, .inl (lf []))), ((a16 16), .inl ((xcA X) 10, 10, .inl (lf []))), ((a16 17), .inl ((xcA X) 15, 4, .inr (.inr (.inr (.inr (gq [(a16 18), (a16 19), (a16 20), (a16 21)])))))), ((a16 18), .inl ((xcA X) 10, 10, .inl (lf []))), ((a16 19), .inl ((xcA X) 10, 10, .inl (lf []))), ((a16 20), .inl ((xcA X) 10, 10, .inl (lf []))), ((a16 21), .inl ((xcA X) 10, 10, .inl (lf [])))]) rfl (by decide) rfl rfl kfX7_58 (by decide) rfl rfl rfl (Nat.le_of_ble_eq_true rfl) rfl dX7_init_93 ?_
    refine TC_aload_n 0 rfl rfl dX7_init_96 ?_
    refine TC_iconst (4) (by decide) dX7_init_97 ?_
    refine TC_nqS 4 (by decide) (by decide) (by decide) kcX7_62 (Nat.le_of_ble_eq_true rfl) (Nat.le_of_ble_eq_true rfl) dX7_init_98 (fun z17 => ?_)
    refine TC_w (w' := [(b, .inr (7, [.ref z1, .ref z3, .ref z5, .ref z7, .ref z8, .ref z9, .ref z11, .ref z13, .ref z15, .null, .int 0])), (z1, .inr (6, [.int (0), .int (0), .int (0), .ref (a2 0), .ref (a2 1), .int (0), .int (0), .int (0), .int (0), .int (0)])), ((a2 0), .inl ((xcA X) 9, 160, .inl (lf []))), ((a2 1), .inl ((xcA X) 10, 4, .inl (lf []))), (z3, .inr (4, [.int (0), .int (0), .int (1), .int (30), .int (0), .ref (a4 0), .ref (a4 1), .ref (a4 2), .ref (a4 3), .ref (a4 4), .ref (a4 5), .ref (a4 6)])), ((a4 0), .inl ((xcA X) 10, 10, .inl (lf []))), ((a4 1), .inl ((xcA X) 10, 10, .inl (lf []))), ((a4 2), .inl ((xcA X) 10, 10, .inl (lf []))), ((a4 3), .inl ((xcA X) 10, 4, .inl (lf []))), ((a4 4), .inl ((xcA X) 10, 4, .inl (lf []))), ((a4 5), .inl ((xcA X) 10, 4, .inl (lf []))), ((a4 6), .inl ((xcA X) 10, 4, .inl (lf []))), (z5, .inr (4, [.int (0), .int (0), .int (1), .int (30), .int (0), .ref (a6 0), .ref (a6 1), .ref (a6 2), .ref (a6 3), .ref (a6 4), .ref (a6 5), .ref (a6 6)])), ((a6 0), .inl ((xcA X) 10, 10, .inl (lf []))), ((a6 1), .inl ((xcA X) 10, 10, .inl (lf []))), ((a6 2), .inl ((xcA X) 10, 10, .inl (lf []))), ((a6 3), .inl ((xcA X) 10, 4, .inl (lf []))), ((a6 4), .inl ((xcA X) 10, 4, .inl (lf []))), ((a6 5), .inl ((xcA X) 10, 4, .inl (lf []))), ((a6 6), .inl ((xcA X) 10, 4, .inl (lf []))), (z7, .inl ((xcA X) 13, 2, .inr (.inr (.inr (.inr (fun _ => none)))))), (z8, .inl ((xcA X) 12, 2, .inl (lf []))), (z9, .inr (1, [.ref (a10 0), .ref (a10 1)])), ((a10 0), .inl ((xcA X) 10, 10, .inl (lf []))), ((a10 1), .inl ((xcA X) 10, 10, .inl (lf []))), (z11, .inr (3, [.int (0), .int (0), .ref (a12 0), .ref (a12 1), .ref (a12 2), .ref (a12 3)])), ((a12 0), .inl ((xcA X) 10, 4, .inl (lf []))), ((a12 1), .inl ((xcA X) 10, 4, .inl (lf []))), ((a12 2), .inl ((xcA X) 10, 10, .inl (lf []))), ((a12 3), .inl ((xcA X) 10, 16, .inl (lf []))), (z13, .inr (0, [.ref (a14 0), .ref (a14 1)])), ((a14 0), .inl ((xcA X) 11, 16, .inr (.inl (fun _ => 0)))), ((a14 1), .inl ((xcA X) 11, 16, .inr (.inl (fun _ => 0)))), (z15, .inr (2, [.int (0), .ref (a16 0), .ref (a16 1), .ref (a16 2), .ref (a16 3), .ref (a16 11), .ref (a16 17)])), ((a16 0), .inl ((xcA X) 10, 4, .inl (lf []))), ((a16 1), .inl ((xcA X) 10, 6, .inl (lf []))), ((a16 2), .inl ((xcA X) 10, 6, .inl (lf []))), ((a16 3), .inr (4, [.int (0), .int (0), .int (1), .int (30), .int (0), .ref (a16 4), .ref (a16 5), .ref (a16 6), .ref (a16 7), .ref (a16 8), .ref (a16 9), .ref (a16 10)])), ((a16 4), .inl ((xcA X) 10, 10, .inl (lf []))), ((a16 5), .inl ((xcA X) 10, 10, .inl (lf []))), ((a16 6), .inl ((xcA X) 10, 10, .inl (lf []))), ((a16 7), .inl ((xcA X) 10, 4, .inl (lf []))), ((a16 8), .inl ((xcA X) 10, 4, .inl (lf []))), ((a16 9), .inl ((xcA X) 10, 4, .inl (lf []))), ((a16 10), .inl ((xcA X) 10, 4, .inl (lf []))), ((a16 11), .inl ((xcA X) 15, 5, .inr (.inr (.inr (.inr (gq [(a16 12), (a16 13), (a16 14), (a16 15), (a16 16)])))))), ((a16 12), .inl ((xcA X) 10, 10, .inl (lf []))), ((a16 13), .inl ((xcA X) 10, 10, .inl (lf []))), ((a16 14), .inl ((xcA X) 10, 10, .inl (lf []))), ((a16 15), .inl ((xcA X) 10, 10, .inl (lf []))), ((a16 16), .inl ((xcA X) 10, 10, .inl (lf []))), ((a16 17), .inl ((xcA X) 15, 4, .inr (.inr (.inr (.inr (gq [(a16 18), (a16 19), (a16 20), (a16 21)])))))), ((a16 18), .inl ((xcA X) 10, 10, .inl (lf []))), ((a16 19), .inl ((xcA X) 10, 10, .inl (lf []))), ((a16 20), .inl ((xcA X) 10, 10, .inl (lf []))), ((a16 21), .inl ((xcA X) 10, 10, .inl (lf []))), (z17, .inl ((xcA X) 14, 4, .inr (.inr (.inr (.inr (fun _ => none))))))]) rfl ?_
    refine TC_n (c2 := 56) (s2 := 574) rfl rfl ?_
    refine TC_putF (ty := (.array (.object "RankStairs$Sheet"))) (c := 7) (i := 0) (k := 9) (w' := [(b, .inr (7, [.ref z1, .ref z3, .ref z5, .ref z7, .ref z8, .ref z9, .ref z11, .ref z13, .ref z15, .ref z17, .int 0])), (z1, .inr (6, [.int (0), .int (0), .int (0), .ref (a2 0), .ref (a2 1), .int (0), .int (0), .int (0), .int (0), .int (0)])), ((a2 0), .inl ((xcA X) 9, 160, .inl (lf []))), ((a2 1), .inl ((xcA X) 10, 4, .inl (lf []))), (z3, .inr (4, [.int (0), .int (0), .int (1), .int (30), .int (0), .ref (a4 0), .ref (a4 1), .ref (a4 2), .ref (a4 3), .ref (a4 4), .ref (a4 5), .ref (a4 6)])), ((a4 0), .inl ((xcA X) 10, 10, .inl (lf []))), ((a4 1), .inl ((xcA X) 10, 10, .inl (lf []))), ((a4 2), .inl ((xcA X) 10, 10, .inl (lf []))), ((a4 3), .inl ((xcA X) 10, 4, .inl (lf []))), ((a4 4), .inl ((xcA X) 10, 4, .inl (lf []))), ((a4 5), .inl ((xcA X) 10, 4, .inl (lf []))), ((a4 6), .inl ((xcA X) 10, 4, .inl (lf []))), (z5, .inr (4, [.int (0), .int (0), .int (1), .int (30), .int (0), .ref (a6 0), .ref (a6 1), .ref (a6 2), .ref (a6 3), .ref (a6 4), .ref (a6 5), .ref (a6 6)])), ((a6 0), .inl ((xcA X) 10, 10, .inl (lf []))), ((a6 1), .inl ((xcA X) 10, 10, .inl (lf []))), ((a6 2), .inl ((xcA X) 10, 10, .inl (lf []))), ((a6 3), .inl ((xcA X) 10, 4, .inl (lf []))), ((a6 4), .inl ((xcA X) 10, 4, .inl (lf []))), ((a6 5), .inl ((xcA X) 10, 4, .inl (lf []))), ((a6 6), .inl ((xcA X) 10, 4, .inl (lf []))), (z7, .inl ((xcA X) 13, 2, .inr (.inr (.inr (.inr (fun _ => none)))))), (z8, .inl ((xcA X) 12, 2, .inl (lf []))), (z9, .inr (1, [.ref (a10 0), .ref (a10 1)])), ((a10 0), .inl ((xcA X) 10, 10, .inl (lf []))), ((a10 1), .inl ((xcA X) 10, 10, .inl (lf []))), (z11, .inr (3, [.int (0), .int (0), .ref (a12 0), .ref (a12 1), .ref (a12 2), .ref (a12 3)])), ((a12 0), .inl ((xcA X) 10, 4, .inl (lf []))), ((a12 1), .inl ((xcA X) 10, 4, .inl (lf []))), ((a12 2), .inl ((xcA X) 10, 10, .inl (lf []))), ((a12 3), .inl ((xcA X) 10, 16, .inl (lf []))), (z13, .inr (0, [.ref (a14 0), .ref (a14 1)])), ((a14 0), .inl ((xcA X) 11, 16, .inr (.inl (fun _ => 0)))), ((a14 1), .inl ((xcA X) 11, 16, .inr (.inl (fun _ => 0)))), (z15, .inr (2, [.int (0), .ref (a16 0), .ref (a16 1), .ref (a16 2), .ref (a16 3), .ref (a16 11), .ref (a16 17)])), ((a16 0), .inl ((xcA X) 10, 4, .inl (lf []))), ((a16 1), .inl ((xcA X) 10, 6, .inl (lf []))), ((a16 2), .inl ((xcA X) 10, 6, .inl (lf []))), ((a16 3), .inr (4, [.int (0), .int (0), .int (1), .int (30), .int (0), .ref (a16 4), .ref (a16 5), .ref (a16 6), .ref (a16 7), .ref (a16 8), .ref (a16 9), .ref (a16 10)])), ((a16 4), .inl ((xcA X) 10, 10, .inl (lf []))), ((a16 5), .inl ((xcA X) 10, 10, .inl (lf []))), ((a16 6), .inl ((xcA X) 10, 10, .inl (lf []))), ((a16 7), .inl ((xcA X) 10, 4, .inl (lf []))), ((a16 8), .inl ((xcA X) 10, 4, .inl (lf []))), ((a16 9), .inl ((xcA X) 10, 4, .inl (lf []))), ((a16 10), .inl ((xcA X) 10, 4, .inl (lf []))), ((a16 11), .inl ((xcA X) 15, 5, .inr (.inr (.inr (.inr (gq [(a16 12), (a16 13), (a16 14), (a16 15), (a16 16)])))))), ((a16 12), .inl ((xcA X) 10, 10, .inl (lf []))), ((a16 13), .inl ((xcA X) 10, 10, .inl (lf []))), ((a16 14), .inl ((xcA X) 10, 10, .inl (lf []))), ((a16 15), .inl ((xcA X) 10, 10, .inl (lf []))), ((a16 16), .inl ((xcA X) 10, 10, .inl (lf []))), ((a16 17), .inl ((xcA X) 15, 4, .inr (.inr (.inr (.inr (gq [(a16 18), (a16 19), (a16 20), (a16 21)])))))), ((a16 18), .inl ((xcA X) 10, 10, .inl (lf []))), ((a16 19), .inl ((xcA X) 10, 10, .inl (lf []))), ((a16 20), .inl ((xcA X) 10, 10, .inl (lf []))), ((a16 21), .inl ((xcA X) 10, 10, .inl (lf []))), (z17, .inl ((xcA X) 14, 4, .inr (.inr (.inr (.inr (fun _ => none))))))]) rfl (by decide) rfl rfl kfX7_64 (by decide) rfl rfl rfl (Nat.le_of_ble_eq_true rfl) rfl dX7_init_101 ?_
    refine TC_aload_n 0 rfl rfl dX7_init_104 ?_
    refine TC_iconst (0) (by decide) dX7_init_105 ?_
    refine TC_put (ty := .int) (c := 7) (i := 0) (k := 10) (w' := [(b, .inr (7, [.ref z1, .ref z3, .ref z5, .ref z7, .ref z8, .ref z9, .ref z11, .ref z13, .ref z15, .ref z17, .int (0)])), (z1, .inr (6, [.int (0), .int (0), .int (0), .ref (a2 0), .ref (a2 1), .int (0), .int (0), .int (0), .int (0), .int (0)])), ((a2 0), .inl ((xcA X) 9, 160, .inl (lf []))), ((a2 1), .inl ((xcA X) 10, 4, .inl (lf []))), (z3, .inr (4, [.int (0), .int (0), .int (1), .int (30), .int (0), .ref (a4 0), .ref (a4 1), .ref (a4 2), .ref (a4 3), .ref (a4 4), .ref (a4 5), .ref (a4 6)])), ((a4 0), .inl ((xcA X) 10, 10, .inl (lf []))), ((a4 1), .inl ((xcA X) 10, 10, .inl (lf []))), ((a4 2), .inl ((xcA X) 10, 10, .inl (lf []))), ((a4 3), .inl ((xcA X) 10, 4, .inl (lf []))), ((a4 4), .inl ((xcA X) 10, 4, .inl (lf []))), ((a4 5), .inl ((xcA X) 10, 4, .inl (lf []))), ((a4 6), .inl ((xcA X) 10, 4, .inl (lf []))), (z5, .inr (4, [.int (0), .int (0), .int (1), .int (30), .int (0), .ref (a6 0), .ref (a6 1), .ref (a6 2), .ref (a6 3), .ref (a6 4), .ref (a6 5), .ref (a6 6)])), ((a6 0), .inl ((xcA X) 10, 10, .inl (lf []))), ((a6 1), .inl ((xcA X) 10, 10, .inl (lf []))), ((a6 2), .inl ((xcA X) 10, 10, .inl (lf []))), ((a6 3), .inl ((xcA X) 10, 4, .inl (lf []))), ((a6 4), .inl ((xcA X) 10, 4, .inl (lf []))), ((a6 5), .inl ((xcA X) 10, 4, .inl (lf []))), ((a6 6), .inl ((xcA X) 10, 4, .inl (lf []))), (z7, .inl ((xcA X) 13, 2, .inr (.inr (.inr (.inr (fun _ => none)))))), (z8, .inl ((xcA X) 12, 2, .inl (lf []))), (z9, .inr (1, [.ref (a10 0), .ref (a10 1)])), ((a10 0), .inl ((xcA X) 10, 10, .inl (lf []))), ((a10 1), .inl ((xcA X) 10, 10, .inl (lf []))), (z11, .inr (3, [.int (0), .int (0), .ref (a12 0), .ref (a12 1), .ref (a12 2), .ref (a12 3)])), ((a12 0), .inl ((xcA X) 10, 4, .inl (lf []))), ((a12 1), .inl ((xcA X) 10, 4, .inl (lf []))), ((a12 2), .inl ((xcA X) 10, 10, .inl (lf []))), ((a12 3), .inl ((xcA X) 10, 16, .inl (lf []))), (z13, .inr (0, [.ref (a14 0), .ref (a14 1)])), ((a14 0), .inl ((xcA X) 11, 16, .inr (.inl (fun _ => 0)))), ((a14 1), .inl ((xcA X) 11, 16, .inr (.inl (fun _ => 0)))), (z15, .inr (2, [.int (0), .ref (a16 0), .ref (a16 1), .ref (a16 2), .ref (a16 3), .ref (a16 11), .ref (a16 17)])), ((a16 0), .inl ((xcA X) 10, 4, .inl (lf []))), ((a16 1), .inl ((xcA X) 10, 6, .inl (lf []))), ((a16 2), .inl ((xcA X) 10, 6, .inl (lf []))), ((a16 3), .inr (4, [.int (0), .int (0), .int (1), .int (30), .int (0), .ref (a16 4), .ref (a16 5), .ref (a16 6), .ref (a16 7), .ref (a16 8), .ref (a16 9), .ref (a16 10)])), ((a16 4), .inl ((xcA X) 10, 10, .inl (lf []))), ((a16 5), .inl ((xcA X) 10, 10, .inl (lf []))), ((a16 6), .inl ((xcA X) 10, 10, .inl (lf []))), ((a16 7), .inl ((xcA X) 10, 4, .inl (lf []))), ((a16 8), .inl ((xcA X) 10, 4, .inl (lf []))), ((a16 9), .inl ((xcA X) 10, 4, .inl (lf []))), ((a16 10), .inl ((xcA X) 10, 4, .inl (lf []))), ((a16 11), .inl ((xcA X) 15, 5, .inr (.inr (.inr (.inr (gq [(a16 12), (a16 13), (a16 14), (a16 15), (a16 16)])))))), ((a16 12), .inl ((xcA X) 10, 10, .inl (lf []))), ((a16 13), .inl ((xcA X) 10, 10, .inl (lf []))), ((a16 14), .inl ((xcA X) 10, 10, .inl (lf []))), ((a16 15), .inl ((xcA X) 10, 10, .inl (lf []))), ((a16 16), .inl ((xcA X) 10, 10, .inl (lf []))), ((a16 17), .inl ((xcA X) 15, 4, .inr (.inr (.inr (.inr (gq [(a16 18), (a16 19), (a16 20), (a16 21)])))))), ((a16 18), .inl ((xcA X) 10, 10, .inl (lf []))), ((a16 19), .inl ((xcA X) 10, 10, .inl (lf []))), ((a16 20), .inl ((xcA X) 10, 10, .inl (lf []))), ((a16 21), .inl ((xcA X) 10, 10, .inl (lf []))), (z17, .inl ((xcA X) 14, 4, .inr (.inr (.inr (.inr (fun _ => none))))))]) rfl (by decide) rfl kfX7_68 (by decide) rfl rfl rfl (Nat.le_of_ble_eq_true rfl) rfl dX7_init_106 ?_
    refine TC_iconst (0) (by decide) dX7_init_109 ?_
    refine TC_istore_n (lv' := [(1, .int (0)), (0, .ref b)]) rfl (Nat.le_of_ble_eq_true rfl) rfl dX7_init_110 ?_
    refine TC_iload_n 0 rfl rfl dX7_init_111 ?_
    refine TC_iconst (2) (by decide) dX7_init_112 ?_
    refine TC_geF 135 (by decide) dX7_init_113 (by decide) ?_
    refine TC_aload_n 1 rfl rfl dX7_init_116 ?_
    refine TC_getR (c := 7) (i := 0) (k := 3) (v := .ref z7) rfl (by decide) rfl kfX7_26 rfl rfl dX7_init_117 ?_
    refine TC_iload_n 0 rfl rfl dX7_init_120 ?_
    refine TC_new (c := 4) (fs := fz4) rfl df4 kcX7_16 ki4 kn4 (Nat.le_of_ble_eq_true rfl) (Nat.le_of_ble_eq_true rfl) dX7_init_121 (fun z18 => ?_)
    refine TC_w (w' := [(b, .inr (7, [.ref z1, .ref z3, .ref z5, .ref z7, .ref z8, .ref z9, .ref z11, .ref z13, .ref z15, .ref z17, .int (0)])), (z1, .inr (6, [.int (0), .int (0), .int (0), .ref (a2 0), .ref (a2 1), .int (0), .int (0), .int (0), .int (0), .int (0)])), ((a2 0), .inl ((xcA X) 9, 160, .inl (lf []))), ((a2 1), .inl ((xcA X) 10, 4, .inl (lf []))), (z3, .inr (4, [.int (0), .int (0), .int (1), .int (30), .int (0), .ref (a4 0), .ref (a4 1), .ref (a4 2), .ref (a4 3), .ref (a4 4), .ref (a4 5), .ref (a4 6)])), ((a4 0), .inl ((xcA X) 10, 10, .inl (lf []))), ((a4 1), .inl ((xcA X) 10, 10, .inl (lf []))), ((a4 2), .inl ((xcA X) 10, 10, .inl (lf []))), ((a4 3), .inl ((xcA X) 10, 4, .inl (lf []))), ((a4 4), .inl ((xcA X) 10, 4, .inl (lf []))), ((a4 5), .inl ((xcA X) 10, 4, .inl (lf []))), ((a4 6), .inl ((xcA X) 10, 4, .inl (lf []))), (z5, .inr (4, [.int (0), .int (0), .int (1), .int (30), .int (0), .ref (a6 0), .ref (a6 1), .ref (a6 2), .ref (a6 3), .ref (a6 4), .ref (a6 5), .ref (a6 6)])), ((a6 0), .inl ((xcA X) 10, 10, .inl (lf []))), ((a6 1), .inl ((xcA X) 10, 10, .inl (lf []))), ((a6 2), .inl ((xcA X) 10, 10, .inl (lf []))), ((a6 3), .inl ((xcA X) 10, 4, .inl (lf []))), ((a6 4), .inl ((xcA X) 10, 4, .inl (lf []))), ((a6 5), .inl ((xcA X) 10, 4, .inl (lf []))), ((a6 6), .inl ((xcA X) 10, 4, .inl (lf []))), (z7, .inl ((xcA X) 13, 2, .inr (.inr (.inr (.inr (fun _ => none)))))), (z8, .inl ((xcA X) 12, 2, .inl (lf []))), (z9, .inr (1, [.ref (a10 0), .ref (a10 1)])), ((a10 0), .inl ((xcA X) 10, 10, .inl (lf []))), ((a10 1), .inl ((xcA X) 10, 10, .inl (lf []))), (z11, .inr (3, [.int (0), .int (0), .ref (a12 0), .ref (a12 1), .ref (a12 2), .ref (a12 3)])), ((a12 0), .inl ((xcA X) 10, 4, .inl (lf []))), ((a12 1), .inl ((xcA X) 10, 4, .inl (lf []))), ((a12 2), .inl ((xcA X) 10, 10, .inl (lf []))), ((a12 3), .inl ((xcA X) 10, 16, .inl (lf []))), (z13, .inr (0, [.ref (a14 0), .ref (a14 1)])), ((a14 0), .inl ((xcA X) 11, 16, .inr (.inl (fun _ => 0)))), ((a14 1), .inl ((xcA X) 11, 16, .inr (.inl (fun _ => 0)))), (z15, .inr (2, [.int (0), .ref (a16 0), .ref (a16 1), .ref (a16 2), .ref (a16 3), .ref (a16 11), .ref (a16 17)])), ((a16 0), .inl ((xcA X) 10, 4, .inl (lf []))), ((a16 1), .inl ((xcA X) 10, 6, .inl (lf []))), ((a16 2), .inl ((xcA X) 10, 6, .inl (lf []))), ((a16 3), .inr (4, [.int (0), .int (0), .int (1), .int (30), .int (0), .ref (a16 4), .ref (a16 5), .ref (a16 6), .ref (a16 7), .ref (a16 8), .ref (a16 9), .ref (a16 10)])), ((a16 4), .inl ((xcA X) 10, 10, .inl (lf []))), ((a16 5), .inl ((xcA X) 10, 10, .inl (lf []))), ((a16 6), .inl ((xcA X) 10, 10, .inl (lf []))), ((a16 7), .inl ((xcA X) 10, 4, .inl (lf []))), ((a16 8), .inl ((xcA X) 10, 4, .inl (lf []))), ((a16 9), .inl ((xcA X) 10, 4, .inl (lf []))), ((a16 10), .inl ((xcA X) 10, 4, .inl (lf []))), ((a16 11), .inl ((xcA X) 15, 5, .inr (.inr (.inr (.inr (gq [(a16 12), (a16 13), (a16 14), (a16 15), (a16 16)])))))), ((a16 12), .inl ((xcA X) 10, 10, .inl (lf []))), ((a16 13), .inl ((xcA X) 10, 10, .inl (lf []))), ((a16 14), .inl ((xcA X) 10, 10, .inl (lf []))), ((a16 15), .inl ((xcA X) 10, 10, .inl (lf []))), ((a16 16), .inl ((xcA X) 10, 10, .inl (lf []))), ((a16 17), .inl ((xcA X) 15, 4, .inr (.inr (.inr (.inr (gq [(a16 18), (a16 19), (a16 20), (a16 21)])))))), ((a16 18), .inl ((xcA X) 10, 10, .inl (lf []))), ((a16 19), .inl ((xcA X) 10, 10, .inl (lf []))), ((a16 20), .inl ((xcA X) 10, 10, .inl (lf []))), ((a16 21), .inl ((xcA X) 10, 10, .inl (lf []))), (z17, .inl ((xcA X) 14, 4, .inr (.inr (.inr (.inr (fun _ => none)))))), (z18, .inr (4, fz4))]) rfl ?_
    refine TC_n (c2 := 57) (s2 := 586) rfl rfl ?_
    refine TC_dup rfl dX7_init_124 ?_
    refine TC_callN (q := qX7_init) (index := 18) (b := z18) (c := 4) [(b, .inr (7, [.ref z1, .ref z3, .ref z5, .ref z7, .ref z8, .ref z9, .ref z11, .ref z13, .ref z15, .ref z17, .int (0)])), (z1, .inr (6, [.int (0), .int (0), .int (0), .ref (a2 0), .ref (a2 1), .int (0), .int (0), .int (0), .int (0), .int (0)])), ((a2 0), .inl ((xcA X) 9, 160, .inl (lf []))), ((a2 1), .inl ((xcA X) 10, 4, .inl (lf []))), (z3, .inr (4, [.int (0), .int (0), .int (1), .int (30), .int (0), .ref (a4 0), .ref (a4 1), .ref (a4 2), .ref (a4 3), .ref (a4 4), .ref (a4 5), .ref (a4 6)])), ((a4 0), .inl ((xcA X) 10, 10, .inl (lf []))), ((a4 1), .inl ((xcA X) 10, 10, .inl (lf []))), ((a4 2), .inl ((xcA X) 10, 10, .inl (lf []))), ((a4 3), .inl ((xcA X) 10, 4, .inl (lf []))), ((a4 4), .inl ((xcA X) 10, 4, .inl (lf []))), ((a4 5), .inl ((xcA X) 10, 4, .inl (lf []))), ((a4 6), .inl ((xcA X) 10, 4, .inl (lf []))), (z5, .inr (4, [.int (0), .int (0), .int (1), .int (30), .int (0), .ref (a6 0), .ref (a6 1), .ref (a6 2), .ref (a6 3), .ref (a6 4), .ref (a6 5), .ref (a6 6)])), ((a6 0), .inl ((xcA X) 10, 10, .inl (lf []))), ((a6 1), .inl ((xcA X) 10, 10, .inl (lf []))), ((a6 2), .inl ((xcA X) 10, 10, .inl (lf []))), ((a6 3), .inl ((xcA X) 10, 4, .inl (lf []))), ((a6 4), .inl ((xcA X) 10, 4, .inl (lf []))), ((a6 5), .inl ((xcA X) 10, 4, .inl (lf []))), ((a6 6), .inl ((xcA X) 10, 4, .inl (lf []))), (z7, .inl ((xcA X) 13, 2, .inr (.inr (.inr (.inr (fun _ => none)))))), (z8, .inl ((xcA X) 12, 2, .inl (lf []))), (z9, .inr (1, [.ref (a10 0), .ref (a10 1)])), ((a10 0), .inl ((xcA X) 10, 10, .inl (lf []))), ((a10 1), .inl ((xcA X) 10, 10, .inl (lf []))), (z11, .inr (3, [.int (0), .int (0), .ref (a12 0), .ref (a12 1), .ref (a12 2), .ref (a12 3)])), ((a12 0), .inl ((xcA X) 10, 4, .inl (lf []))), ((a12 1), .inl ((xcA X) 10, 4, .inl (lf []))), ((a12 2), .inl ((xcA X) 10, 10, .inl (lf []))), ((a12 3), .inl ((xcA X) 10, 16, .inl (lf []))), (z13, .inr (0, [.ref (a14 0), .ref (a14 1)])), ((a14 0), .inl ((xcA X) 11, 16, .inr (.inl (fun _ => 0)))), ((a14 1), .inl ((xcA X) 11, 16, .inr (.inl (fun _ => 0)))), (z15, .inr (2, [.int (0), .ref (a16 0), .ref (a16 1), .ref (a16 2), .ref (a16 3), .ref (a16 11), .ref (a16 17)])), ((a16 0), .inl ((xcA X) 10, 4, .inl (lf []))), ((a16 1), .inl ((xcA X) 10, 6, .inl (lf []))), ((a16 2), .inl ((xcA X) 10, 6, .inl (lf []))), ((a16 3), .inr (4, [.int (0), .int (0), .int (1), .int (30), .int (0), .ref (a16 4), .ref (a16 5), .ref (a16 6), .ref (a16 7), .ref (a16 8), .ref (a16 9), .ref (a16 10)])), ((a16 4), .inl ((xcA X) 10, 10, .inl (lf []))), ((a16 5), .inl ((xcA X) 10, 10, .inl (lf []))), ((a16 6), .inl ((xcA X) 10, 10, .inl (lf []))), ((a16 7), .inl ((xcA X) 10, 4, .inl (lf []))), ((a16 8), .inl ((xcA X) 10, 4, .inl (lf []))), ((a16 9), .inl ((xcA X) 10, 4, .inl (lf []))), ((a16 10), .inl ((xcA X) 10, 4, .inl (lf []))), ((a16 11), .inl ((xcA X) 15, 5, .inr (.inr (.inr (.inr (gq [(a16 12), (a16 13), (a16 14), (a16 15), (a16 16)])))))), ((a16 12), .inl ((xcA X) 10, 10, .inl (lf []))), ((a16 13), .inl ((xcA X) 10, 10, .inl (lf []))), ((a16 14), .inl ((xcA X) 10, 10, .inl (lf []))), ((a16 15), .inl ((xcA X) 10, 10, .inl (lf []))), ((a16 16), .inl ((xcA X) 10, 10, .inl (lf []))), ((a16 17), .inl ((xcA X) 15, 4, .inr (.inr (.inr (.inr (gq [(a16 18), (a16 19), (a16 20), (a16 21)])))))), ((a16 18), .inl ((xcA X) 10, 10, .inl (lf []))), ((a16 19), .inl ((xcA X) 10, 10, .inl (lf []))), ((a16 20), .inl ((xcA X) 10, 10, .inl (lf []))), ((a16 21), .inl ((xcA X) 10, 10, .inl (lf []))), (z17, .inl ((xcA X) 14, 4, .inr (.inr (.inr (.inr (fun _ => none))))))] [.ref z18, .int (0), .ref z7] (by simp only [List.cons_append, List.nil_append]) mkX4_init imX4_init rfl rfl (by decide +kernel) (Nat.le_of_ble_eq_true rfl) (Nat.le_of_ble_eq_true rfl) (Nat.le_of_ble_eq_true rfl) (Nat.le_of_ble_eq_true rfl) (Nat.le_of_ble_eq_true rfl) dX7_init_125 (cnX4_init _) (fun a19 => ?_)
    refine TC_w (w' := [(b, .inr (7, [.ref z1, .ref z3, .ref z5, .ref z7, .ref z8, .ref z9, .ref z11, .ref z13, .ref z15, .ref z17, .int (0)])), (z1, .inr (6, [.int (0), .int (0), .int (0), .ref (a2 0), .ref (a2 1), .int (0), .int (0), .int (0), .int (0), .int (0)])), ((a2 0), .inl ((xcA X) 9, 160, .inl (lf []))), ((a2 1), .inl ((xcA X) 10, 4, .inl (lf []))), (z3, .inr (4, [.int (0), .int (0), .int (1), .int (30), .int (0), .ref (a4 0), .ref (a4 1), .ref (a4 2), .ref (a4 3), .ref (a4 4), .ref (a4 5), .ref (a4 6)])), ((a4 0), .inl ((xcA X) 10, 10, .inl (lf []))), ((a4 1), .inl ((xcA X) 10, 10, .inl (lf []))), ((a4 2), .inl ((xcA X) 10, 10, .inl (lf []))), ((a4 3), .inl ((xcA X) 10, 4, .inl (lf []))), ((a4 4), .inl ((xcA X) 10, 4, .inl (lf []))), ((a4 5), .inl ((xcA X) 10, 4, .inl (lf []))), ((a4 6), .inl ((xcA X) 10, 4, .inl (lf []))), (z5, .inr (4, [.int (0), .int (0), .int (1), .int (30), .int (0), .ref (a6 0), .ref (a6 1), .ref (a6 2), .ref (a6 3), .ref (a6 4), .ref (a6 5), .ref (a6 6)])), ((a6 0), .inl ((xcA X) 10, 10, .inl (lf []))), ((a6 1), .inl ((xcA X) 10, 10, .inl (lf []))), ((a6 2), .inl ((xcA X) 10, 10, .inl (lf []))), ((a6 3), .inl ((xcA X) 10, 4, .inl (lf []))), ((a6 4), .inl ((xcA X) 10, 4, .inl (lf []))), ((a6 5), .inl ((xcA X) 10, 4, .inl (lf []))), ((a6 6), .inl ((xcA X) 10, 4, .inl (lf []))), (z7, .inl ((xcA X) 13, 2, .inr (.inr (.inr (.inr (fun _ => none)))))), (z8, .inl ((xcA X) 12, 2, .inl (lf []))), (z9, .inr (1, [.ref (a10 0), .ref (a10 1)])), ((a10 0), .inl ((xcA X) 10, 10, .inl (lf []))), ((a10 1), .inl ((xcA X) 10, 10, .inl (lf []))), (z11, .inr (3, [.int (0), .int (0), .ref (a12 0), .ref (a12 1), .ref (a12 2), .ref (a12 3)])), ((a12 0), .inl ((xcA X) 10, 4, .inl (lf []))), ((a12 1), .inl ((xcA X) 10, 4, .inl (lf []))), ((a12 2), .inl ((xcA X) 10, 10, .inl (lf []))), ((a12 3), .inl ((xcA X) 10, 16, .inl (lf []))), (z13, .inr (0, [.ref (a14 0), .ref (a14 1)])), ((a14 0), .inl ((xcA X) 11, 16, .inr (.inl (fun _ => 0)))), ((a14 1), .inl ((xcA X) 11, 16, .inr (.inl (fun _ => 0)))), (z15, .inr (2, [.int (0), .ref (a16 0), .ref (a16 1), .ref (a16 2), .ref (a16 3), .ref (a16 11), .ref (a16 17)])), ((a16 0), .inl ((xcA X) 10, 4, .inl (lf []))), ((a16 1), .inl ((xcA X) 10, 6, .inl (lf []))), ((a16 2), .inl ((xcA X) 10, 6, .inl (lf []))), ((a16 3), .inr (4, [.int (0), .int (0), .int (1), .int (30), .int (0), .ref (a16 4), .ref (a16 5), .ref (a16 6), .ref (a16 7), .ref (a16 8), .ref (a16 9), .ref (a16 10)])), ((a16 4), .inl ((xcA X) 10, 10, .inl (lf []))), ((a16 5), .inl ((xcA X) 10, 10, .inl (lf []))), ((a16 6), .inl ((xcA X) 10, 10, .inl (lf []))), ((a16 7), .inl ((xcA X) 10, 4, .inl (lf []))), ((a16 8), .inl ((xcA X) 10, 4, .inl (lf []))), ((a16 9), .inl ((xcA X) 10, 4, .inl (lf []))), ((a16 10), .inl ((xcA X) 10, 4, .inl (lf []))), ((a16 11), .inl ((xcA X) 15, 5, .inr (.inr (.inr (.inr (gq [(a16 12), (a16 13), (a16 14), (a16 15), (a16 16)])))))), ((a16 12), .inl ((xcA X) 10, 10, .inl (lf []))), ((a16 13), .inl ((xcA X) 10, 10, .inl (lf []))), ((a16 14), .inl ((xcA X) 10, 10, .inl (lf []))), ((a16 15), .inl ((xcA X) 10, 10, .inl (lf []))), ((a16 16), .inl ((xcA X) 10, 10, .inl (lf []))), ((a16 17), .inl ((xcA X) 15, 4, .inr (.inr (.inr (.inr (gq [(a16 18), (a16 19), (a16 20), (a16 21)])))))), ((a16 18), .inl ((xcA X) 10, 10, .inl (lf []))), ((a16 19), .inl ((xcA X) 10, 10, .inl (lf []))), ((a16 20), .inl ((xcA X) 10, 10, .inl (lf []))), ((a16 21), .inl ((xcA X) 10, 10, .inl (lf []))), (z17, .inl ((xcA X) 14, 4, .inr (.inr (.inr (.inr (fun _ => none)))))), (z18, .inr (4, [.int (0), .int (0), .int (1), .int (30), .int (0), .ref (a19 0), .ref (a19 1), .ref (a19 2), .ref (a19 3), .ref (a19 4), .ref (a19 5), .ref (a19 6)])), ((a19 0), .inl ((xcA X) 10, 10, .inl (lf []))), ((a19 1), .inl ((xcA X) 10, 10, .inl (lf []))), ((a19 2), .inl ((xcA X) 10, 10, .inl (lf []))), ((a19 3), .inl ((xcA X) 10, 4, .inl (lf []))), ((a19 4), .inl ((xcA X) 10, 4, .inl (lf []))), ((a19 5), .inl ((xcA X) 10, 4, .inl (lf []))), ((a19 6), .inl ((xcA X) 10, 4, .inl (lf [])))]) (by simp only [wcX4_init, List.cons_append, List.nil_append]) ?_
    refine TC_n (c2 := 64) (s2 := 632) rfl rfl ?_
    refine TC_aast (i := 20) (j := 57) (w' := [(b, .inr (7, [.ref z1, .ref z3, .ref z5, .ref z7, .ref z8, .ref z9, .ref z11, .ref z13, .ref z15, .ref z17, .int (0)])), (z1, .inr (6, [.int (0), .int (0), .int (0), .ref (a2 0), .ref (a2 1), .int (0), .int (0), .int (0), .int (0), .int (0)])), ((a2 0), .inl ((xcA X) 9, 160, .inl (lf []))), ((a2 1), .inl ((xcA X) 10, 4, .inl (lf []))), (z3, .inr (4, [.int (0), .int (0), .int (1), .int (30), .int (0), .ref (a4 0), .ref (a4 1), .ref (a4 2), .ref (a4 3), .ref (a4 4), .ref (a4 5), .ref (a4 6)])), ((a4 0), .inl ((xcA X) 10, 10, .inl (lf []))), ((a4 1), .inl ((xcA X) 10, 10, .inl (lf []))), ((a4 2), .inl ((xcA X) 10, 10, .inl (lf []))), ((a4 3), .inl ((xcA X) 10, 4, .inl (lf []))), ((a4 4), .inl ((xcA X) 10, 4, .inl (lf []))), ((a4 5), .inl ((xcA X) 10, 4, .inl (lf []))), ((a4 6), .inl ((xcA X) 10, 4, .inl (lf []))), (z5, .inr (4, [.int (0), .int (0), .int (1), .int (30), .int (0), .ref (a6 0), .ref (a6 1), .ref (a6 2), .ref (a6 3), .ref (a6 4), .ref (a6 5), .ref (a6 6)])), ((a6 0), .inl ((xcA X) 10, 10, .inl (lf []))), ((a6 1), .inl ((xcA X) 10, 10, .inl (lf []))), ((a6 2), .inl ((xcA X) 10, 10, .inl (lf []))), ((a6 3), .inl ((xcA X) 10, 4, .inl (lf []))), ((a6 4), .inl ((xcA X) 10, 4, .inl (lf []))), ((a6 5), .inl ((xcA X) 10, 4, .inl (lf []))), ((a6 6), .inl ((xcA X) 10, 4, .inl (lf []))), (z7, .inl ((xcA X) 13, 2, .inr (.inr (.inr (.inr (va_up (fun _ => none) 0 (some z18))))))), (z8, .inl ((xcA X) 12, 2, .inl (lf []))), (z9, .inr (1, [.ref (a10 0), .ref (a10 1)])), ((a10 0), .inl ((xcA X) 10, 10, .inl (lf []))), ((a10 1), .inl ((xcA X) 10, 10, .inl (lf []))), (z11, .inr (3, [.int (0), .int (0), .ref (a12 0), .ref (a12 1), .ref (a12 2), .ref (a12 3)])), ((a12 0), .inl ((xcA X) 10, 4, .inl (lf []))), ((a12 1), .inl ((xcA X) 10, 4, .inl (lf []))), ((a12 2), .inl ((xcA X) 10, 10, .inl (lf []))), ((a12 3), .inl ((xcA X) 10, 16, .inl (lf []))), (z13, .inr (0, [.ref (a14 0), .ref (a14 1)])), ((a14 0), .inl ((xcA X) 11, 16, .inr (.inl (fun _ => 0)))), ((a14 1), .inl ((xcA X) 11, 16, .inr (.inl (fun _ => 0)))), (z15, .inr (2, [.int (0), .ref (a16 0), .ref (a16 1), .ref (a16 2), .ref (a16 3), .ref (a16 11), .ref (a16 17)])), ((a16 0), .inl ((xcA X) 10, 4, .inl (lf []))), ((a16 1), .inl ((xcA X) 10, 6, .inl (lf []))), ((a16 2), .inl ((xcA X) 10, 6, .inl (lf []))), ((a16 3), .inr (4, [.int (0), .int (0), .int (1), .int (30), .int (0), .ref (a16 4), .ref (a16 5), .ref (a16 6), .ref (a16 7), .ref (a16 8), .ref (a16 9), .ref (a16 10)])), ((a16 4), .inl ((xcA X) 10, 10, .inl (lf []))), ((a16 5), .inl ((xcA X) 10, 10, .inl (lf []))), ((a16 6), .inl ((xcA X) 10, 10, .inl (lf []))), ((a16 7), .inl ((xcA X) 10, 4, .inl (lf []))), ((a16 8), .inl ((xcA X) 10, 4, .inl (lf []))), ((a16 9), .inl ((xcA X) 10, 4, .inl (lf []))), ((a16 10), .inl ((xcA X) 10, 4, .inl (lf []))), ((a16 11), .inl ((xcA X) 15, 5, .inr (.inr (.inr (.inr (gq [(a16 12), (a16 13), (a16 14), (a16 15), (a16 16)])))))), ((a16 12), .inl ((xcA X) 10, 10, .inl (lf []))), ((a16 13), .inl ((xcA X) 10, 10, .inl (lf []))), ((a16 14), .inl ((xcA X) 10, 10, .inl (lf []))), ((a16 15), .inl ((xcA X) 10, 10, .inl (lf []))), ((a16 16), .inl ((xcA X) 10, 10, .inl (lf []))), ((a16 17), .inl ((xcA X) 15, 4, .inr (.inr (.inr (.inr (gq [(a16 18), (a16 19), (a16 20), (a16 21)])))))), ((a16 18), .inl ((xcA X) 10, 10, .inl (lf []))), ((a16 19), .inl ((xcA X) 10, 10, .inl (lf []))), ((a16 20), .inl ((xcA X) 10, 10, .inl (lf []))), ((a16 21), .inl ((xcA X) 10, 10, .inl (lf []))), (z17, .inl ((xcA X) 14, 4, .inr (.inr (.inr (.inr (fun _ => none)))))), (z18, .inr (4, [.int (0), .int (0), .int (1), .int (30), .int (0), .ref (a19 0), .ref (a19 1), .ref (a19 2), .ref (a19 3), .ref (a19 4), .ref (a19 5), .ref (a19 6)])), ((a19 0), .inl ((xcA X) 10, 10, .inl (lf []))), ((a19 1), .inl ((xcA X) 10, 10, .inl (lf []))), ((a19 2), .inl ((xcA X) 10, 10, .inl (lf []))), ((a19 3), .inl ((xcA X) 10, 4, .inl (lf []))), ((a19 4), .inl ((xcA X) 10, 4, .inl (lf []))), ((a19 5), .inl ((xcA X) 10, 4, .inl (lf []))), ((a19 6), .inl ((xcA X) 10, 4, .inl (lf [])))]) 4 13 rfl rfl rfl rfl (by unfold vp_in; decide) rfl dX7_init_128 ?_
    refine TC_iinc (lv' := [(1, .int (1)), (0, .ref b)]) 0 (1) rfl (by decide) (Nat.le_of_ble_eq_true rfl) rfl dX7_init_129 ?_
    refine TC_goto 111 dX7_init_132 (by decide) ?_
    refine TC_iload_n 0 rfl rfl dX7_init_111 ?_
    refine TC_iconst (2) (by decide) dX7_init_112 ?_
    refine TC_geF 135 (by decide) dX7_init_113 (by decide) ?_
    refine TC_aload_n 1 rfl rfl dX7_init_116 ?_
    refine TC_getR (c := 7) (i := 0) (k := 3) (v := .ref z7) rfl (by decide) rfl kfX7_26 rfl rfl dX7_init_117 ?_
    refine TC_iload_n 0 rfl rfl dX7_init_120 ?_
    refine TC_new (c := 4) (fs := fz4) rfl df4 kcX7_16 ki4 kn4 (Nat.le_of_ble_eq_true rfl) (Nat.le_of_ble_eq_true rfl) dX7_init_121 (fun z20 => ?_)
    refine TC_w (w' := [(b, .inr (7, [.ref z1, .ref z3, .ref z5, .ref z7, .ref z8, .ref z9, .ref z11, .ref z13, .ref z15, .ref z17, .int (0)])), (z1, .inr (6, [.int (0), .int (0), .int (0), .ref (a2 0), .ref (a2 1), .int (0), .int (0), .int (0), .int (0), .int (0)])), ((a2 0), .inl ((xcA X) 9, 160, .inl (lf []))), ((a2 1), .inl ((xcA X) 10, 4, .inl (lf []))), (z3, .inr (4, [.int (0), .int (0), .int (1), .int (30), .int (0), .ref (a4 0), .ref (a4 1), .ref (a4 2), .ref (a4 3), .ref (a4 4), .ref (a4 5), .ref (a4 6)])), ((a4 0), .inl ((xcA X) 10, 10, .inl (lf []))), ((a4 1), .inl ((xcA X) 10, 10, .inl (lf []))), ((a4 2), .inl ((xcA X) 10, 10, .inl (lf []))), ((a4 3), .inl ((xcA X) 10, 4, .inl (lf []))), ((a4 4), .inl ((xcA X) 10, 4, .inl (lf []))), ((a4 5), .inl ((xcA X) 10, 4, .inl (lf []))), ((a4 6), .inl ((xcA X) 10, 4, .inl (lf []))), (z5, .inr (4, [.int (0), .int (0), .int (1), .int (30), .int (0), .ref (a6 0), .ref (a6 1), .ref (a6 2), .ref (a6 3), .ref (a6 4), .ref (a6 5), .ref (a6 6)])), ((a6 0), .inl ((xcA X) 10, 10, .inl (lf []))), ((a6 1), .inl ((xcA X) 10, 10, .inl (lf []))), ((a6 2), .inl ((xcA X) 10, 10, .inl (lf []))), ((a6 3), .inl ((xcA X) 10, 4, .inl (lf []))), ((a6 4), .inl ((xcA X) 10, 4, .inl (lf []))), ((a6 5), .inl ((xcA X) 10, 4, .inl (lf []))), ((a6 6), .inl ((xcA X) 10, 4, .inl (lf []))), (z7, .inl ((xcA X) 13, 2, .inr (.inr (.inr (.inr (va_up (fun _ => none) 0 (some z18))))))), (z8, .inl ((xcA X) 12, 2, .inl (lf []))), (z9, .inr (1, [.ref (a10 0), .ref (a10 1)])), ((a10 0), .inl ((xcA X) 10, 10, .inl (lf []))), ((a10 1), .inl ((xcA X) 10, 10, .inl (lf []))), (z11, .inr (3, [.int (0), .int (0), .ref (a12 0), .ref (a12 1), .ref (a12 2), .ref (a12 3)])), ((a12 0), .inl ((xcA X) 10, 4, .inl (lf []))), ((a12 1), .inl ((xcA X) 10, 4, .inl (lf []))), ((a12 2), .inl ((xcA X) 10, 10, .inl (lf []))), ((a12 3), .inl ((xcA X) 10, 16, .inl (lf []))), (z13, .inr (0, [.ref (a14 0), .ref (a14 1)])), ((a14 0), .inl ((xcA X) 11, 16, .inr (.inl (fun _ => 0)))), ((a14 1), .inl ((xcA X) 11, 16, .inr (.inl (fun _ => 0)))), (z15, .inr (2, [.int (0), .ref (a16 0), .ref (a16 1), .ref (a16 2), .ref (a16 3), .ref (a16 11), .ref (a16 17)])), ((a16 0), .inl ((xcA X) 10, 4, .inl (lf []))), ((a16 1), .inl ((xcA X) 10, 6, .inl (lf []))), ((a16 2), .inl ((xcA X) 10, 6, .inl (lf []))), ((a16 3), .inr (4, [.int (0), .int (0), .int (1), .int (30), .int (0), .ref (a16 4), .ref (a16 5), .ref (a16 6), .ref (a16 7), .ref (a16 8), .ref (a16 9), .ref (a16 10)])), ((a16 4), .inl ((xcA X) 10, 10, .inl (lf []))), ((a16 5), .inl ((xcA X) 10, 10, .inl (lf []))), ((a16 6), .inl ((xcA X) 10, 10, .inl (lf []))), ((a16 7), .inl ((xcA X) 10, 4, .inl (lf []))), ((a16 8), .inl ((xcA X) 10, 4, .inl (lf []))), ((a16 9), .inl ((xcA X) 10, 4, .inl (lf []))), ((a16 10), .inl ((xcA X) 10, 4, .inl (lf []))), ((a16 11), .inl ((xcA X) 15, 5, .inr (.inr (.inr (.inr (gq [(a16 12), (a16 13), (a16 14), (a16 15), (a16 16)])))))), ((a16 12), .inl ((xcA X) 10, 10, .inl (lf []))), ((a16 13), .inl ((xcA X) 10, 10, .inl (lf []))), ((a16 14), .inl ((xcA X) 10, 10, .inl (lf []))), ((a16 15), .inl ((xcA X) 10, 10, .inl (lf []))), ((a16 16), .inl ((xcA X) 10, 10, .inl (lf []))), ((a16 17), .inl ((xcA X) 15, 4, .inr (.inr (.inr (.inr (gq [(a16 18), (a16 19), (a16 20), (a16 21)])))))), ((a16 18), .inl ((xcA X) 10, 10, .inl (lf []))), ((a16 19), .inl ((xcA X) 10, 10, .inl (lf []))), ((a16 20), .inl ((xcA X) 10, 10, .inl (lf []))), ((a16 21), .inl ((xcA X) 10, 10, .inl (lf []))), (z17, .inl ((xcA X) 14, 4, .inr (.inr (.inr (.inr (fun _ => none)))))), (z18, .inr (4, [.int (0), .int (0), .int (1), .int (30), .int (0), .ref (a19 0), .ref (a19 1), .ref (a19 2), .ref (a19 3), .ref (a19 4), .ref (a19 5), .ref (a19 6)])), ((a19 0), .inl ((xcA X) 10, 10, .inl (lf []))), ((a19 1), .inl ((xcA X) 10, 10, .inl (lf []))), ((a19 2), .inl ((xcA X) 10, 10, .inl (lf []))), ((a19 3), .inl ((xcA X) 10, 4, .inl (lf []))), ((a19 4), .inl ((xcA X) 10, 4, .inl (lf []))), ((a19 5), .inl ((xcA X) 10, 4, .inl (lf []))), ((a19 6), .inl ((xcA X) 10, 4, .inl (lf []))), (z20, .inr (4, fz4))]) rfl ?_
    refine TC_n (c2 := 65) (s2 := 644) rfl rfl ?_
    refine TC_dup rfl dX7_init_124 ?_
    refine TC_callN (q := qX7_init) (index := 18) (b := z20) (c := 4) [(b, .inr (7, [.ref z1, .ref z3, .ref z5, .ref z7, .ref z8, .ref z9, .ref z11, .ref z13, .ref z15, .ref z17, .int (0)])), (z1, .inr (6, [.int (0), .int (0), .int (0), .ref (a2 0), .ref (a2 1), .int (0), .int (0), .int (0), .int (0), .int (0)])), ((a2 0), .inl ((xcA X) 9, 160, .inl (lf []))), ((a2 1), .inl ((xcA X) 10, 4, .inl (lf []))), (z3, .inr (4, [.int (0), .int (0), .int (1), .int (30), .int (0), .ref (a4 0), .ref (a4 1), .ref (a4 2), .ref (a4 3), .ref (a4 4), .ref (a4 5), .ref (a4 6)])), ((a4 0), .inl ((xcA X) 10, 10, .inl (lf []))), ((a4 1), .inl ((xcA X) 10, 10, .inl (lf []))), ((a4 2), .inl ((xcA X) 10, 10, .inl (lf []))), ((a4 3), .inl ((xcA X) 10, 4, .inl (lf []))), ((a4 4), .inl ((xcA X) 10, 4, .inl (lf []))), ((a4 5), .inl ((xcA X) 10, 4, .inl (lf []))), ((a4 6), .inl ((xcA X) 10, 4, .inl (lf []))), (z5, .inr (4, [.int (0), .int (0), .int (1), .int (30), .int (0), .ref (a6 0), .ref (a6 1), .ref (a6 2), .ref (a6 3), .ref (a6 4), .ref (a6 5), .ref (a6 6)])), ((a6 0), .inl ((xcA X) 10, 10, .inl (lf []))), ((a6 1), .inl ((xcA X) 10, 10, .inl (lf []))), ((a6 2), .inl ((xcA X) 10, 10, .inl (lf []))), ((a6 3), .inl ((xcA X) 10, 4, .inl (lf []))), ((a6 4), .inl ((xcA X) 10, 4, .inl (lf []))), ((a6 5), .inl ((xcA X) 10, 4, .inl (lf []))), ((a6 6), .inl ((xcA X) 10, 4, .inl (lf []))), (z7, .inl ((xcA X) 13, 2, .inr (.inr (.inr (.inr (va_up (fun _ => none) 0 (some z18))))))), (z8, .inl ((xcA X) 12, 2, .inl (lf []))), (z9, .inr (1, [.ref (a10 0), .ref (a10 1)])), ((a10 0), .inl ((xcA X) 10, 10, .inl (lf []))), ((a10 1), .inl ((xcA X) 10, 10, .inl (lf []))), (z11, .inr (3, [.int (0), .int (0), .ref (a12 0), .ref (a12 1), .ref (a12 2), .ref (a12 3)])), ((a12 0), .inl ((xcA X) 10, 4, .inl (lf []))), ((a12 1), .inl ((xcA X) 10, 4, .inl (lf []))), ((a12 2), .inl ((xcA X) 10, 10, .inl (lf []))), ((a12 3), .inl ((xcA X) 10, 16, .inl (lf []))), (z13, .inr (0, [.ref (a14 0), .ref (a14 1)])), ((a14 0), .inl ((xcA X) 11, 16, .inr (.inl (fun _ => 0)))), ((a14 1), .inl ((xcA X) 11, 16, .inr (.inl (fun _ => 0)))), (z15, .inr (2, [.int (0), .ref (a16 0), .ref (a16 1), .ref (a16 2), .ref (a16 3), .ref (a16 11), .ref (a16 17)])), ((a16 0), .inl ((xcA X) 10, 4, .inl (lf []))), ((a16 1), .inl ((xcA X) 10, 6, .inl (lf []))), ((a16 2), .inl ((xcA X) 10, 6, .inl (lf []))), ((a16 3), .inr (4, [.int (0), .int (0), .int (1), .int (30), .int (0), .ref (a16 4), .ref (a16 5), .ref (a16 6), .ref (a16 7), .ref (a16 8), .ref (a16 9), .ref (a16 10)])), ((a16 4), .inl ((xcA X) 10, 10, .inl (lf []))), ((a16 5), .inl ((xcA X) 10, 10, .inl (lf []))), ((a16 6), .inl ((xcA X) 10, 10, .inl (lf []))), ((a16 7), .inl ((xcA X) 10, 4, .inl (lf []))), ((a16 8), .inl ((xcA X) 10, 4, .inl (lf []))), ((a16 9), .inl ((xcA X) 10, 4, .inl (lf []))), ((a16 10), .inl ((xcA X) 10, 4, .inl (lf []))), ((a16 11), .inl ((xcA X) 15, 5, .inr (.inr (.inr (.inr (gq [(a16 12), (a16 13), (a16 14), (a16 15), (a16 16)])))))), ((a16 12), .inl ((xcA X) 10, 10, .inl (lf []))), ((a16 13), .inl ((xcA X) 10, 10, .inl (lf []))), ((a16 14), .inl ((xcA X) 10, 10, .inl (lf []))), ((a16 15), .inl ((xcA X) 10, 10, .inl (lf []))), ((a16 16), .inl ((xcA X) 10, 10, .inl (lf []))), ((a16 17), .inl ((xcA X) 15, 4, .inr (.inr (.inr (.inr (gq [(a16 18), (a16 19), (a16 20), (a16 21)])))))), ((a16 18), .inl ((xcA X) 10, 10, .inl (lf []))), ((a16 19), .inl ((xcA X) 10, 10, .inl (lf []))), ((a16 20), .inl ((xcA X) 10, 10, .inl (lf []))), ((a16 21), .inl ((xcA X) 10, 10, .inl (lf []))), (z17, .inl ((xcA X) 14, 4, .inr (.inr (.inr (.inr (fun _ => none)))))), (z18, .inr (4, [.int (0), .int (0), .int (1), .int (30), .int (0), .ref (a19 0), .ref (a19 1), .ref (a19 2), .ref (a19 3), .ref (a19 4), .ref (a19 5), .ref (a19 6)])), ((a19 0), .inl ((xcA X) 10, 10, .inl (lf []))), ((a19 1), .inl ((xcA X) 10, 10, .inl (lf []))), ((a19 2), .inl ((xcA X) 10, 10, .inl (lf []))), ((a19 3), .inl ((xcA X) 10, 4, .inl (lf []))), ((a19 4), .inl ((xcA X) 10, 4, .inl (lf []))), ((a19 5), .inl ((xcA X) 10, 4, .inl (lf []))), ((a19 6), .inl ((xcA X) 10, 4, .inl (lf [])))] [.ref z20, .int (1), .ref z7] (by simp only [List.cons_append, List.nil_append]) mkX4_init imX4_init rfl rfl (by decide +kernel) (Nat.le_of_ble_eq_true rfl) (Nat.le_of_ble_eq_true rfl) (Nat.le_of_ble_eq_true rfl) (Nat.le_of_ble_eq_true rfl) (Nat.le_of_ble_eq_true rfl) dX7_init_125 (cnX4_init _) (fun a21 => ?_)
    refine TC_w (w' := [(b, .inr (7, [.ref z1, .ref z3, .ref z5, .ref z7, .ref z8, .ref z9, .ref z11, .ref z13, .ref z15, .ref z17, .int (0)])), (z1, .inr (6, [.int (0), .int (0), .int (0), .ref (a2 0), .ref (a2 1), .int (0), .int (0), .int (0), .int (0), .int (0)])), ((a2 0), .inl ((xcA X) 9, 160, .inl (lf []))), ((a2 1), .inl ((xcA X) 10, 4, .inl (lf []))), (z3, .inr (4, [.int (0), .int (0), .int (1), .int (30), .int (0), .ref (a4 0), .ref (a4 1), .ref (a4 2), .ref (a4 3), .ref (a4 4), .ref (a4 5), .ref (a4 6)])), ((a4 0), .inl ((xcA X) 10, 10, .inl (lf []))), ((a4 1), .inl ((xcA X) 10, 10, .inl (lf []))), ((a4 2), .inl ((xcA X) 10, 10, .inl (lf []))), ((a4 3), .inl ((xcA X) 10, 4, .inl (lf []))), ((a4 4), .inl ((xcA X) 10, 4, .inl (lf []))), ((a4 5), .inl ((xcA X) 10, 4, .inl (lf []))), ((a4 6), .inl ((xcA X) 10, 4, .inl (lf []))), (z5, .inr (4, [.int (0), .int (0), .int (1), .int (30), .int (0), .ref (a6 0), .ref (a6 1), .ref (a6 2), .ref (a6 3), .ref (a6 4), .ref (a6 5), .ref (a6 6)])), ((a6 0), .inl ((xcA X) 10, 10, .inl (lf []))), ((a6 1), .inl ((xcA X) 10, 10, .inl (lf []))), ((a6 2), .inl ((xcA X) 10, 10, .inl (lf []))), ((a6 3), .inl ((xcA X) 10, 4, .inl (lf []))), ((a6 4), .inl ((xcA X) 10, 4, .inl (lf []))), ((a6 5), .inl ((xcA X) 10, 4, .inl (lf []))), ((a6 6), .inl ((xcA X) 10, 4, .inl (lf []))), (z7, .inl ((xcA X) 13, 2, .inr (.inr (.inr (.inr (va_up (fun _ => none) 0 (some z18))))))), (z8, .inl ((xcA X) 12, 2, .inl (lf []))), (z9, .inr (1, [.ref (a10 0), .ref (a10 1)])), ((a10 0), .inl ((xcA X) 10, 10, .inl (lf []))), ((a10 1), .inl ((xcA X) 10, 10, .inl (lf []))), (z11, .inr (3, [.int (0), .int (0), .ref (a12 0), .ref (a12 1), .ref (a12 2), .ref (a12 3)])), ((a12 0), .inl ((xcA X) 10, 4, .inl (lf []))), ((a12 1), .inl ((xcA X) 10, 4, .inl (lf []))), ((a12 2), .inl ((xcA X) 10, 10, .inl (lf []))), ((a12 3), .inl ((xcA X) 10, 16, .inl (lf []))), (z13, .inr (0, [.ref (a14 0), .ref (a14 1)])), ((a14 0), .inl ((xcA X) 11, 16, .inr (.inl (fun _ => 0)))), ((a14 1), .inl ((xcA X) 11, 16, .inr (.inl (fun _ => 0)))), (z15, .inr (2, [.int (0), .ref (a16 0), .ref (a16 1), .ref (a16 2), .ref (a16 3), .ref (a16 11), .ref (a16 17)])), ((a16 0), .inl ((xcA X) 10, 4, .inl (lf []))), ((a16 1), .inl ((xcA X) 10, 6, .inl (lf []))), ((a16 2), .inl ((xcA X) 10, 6, .inl (lf []))), ((a16 3), .inr (4, [.int (0), .int (0), .int (1), .int (30), .int (0), .ref (a16 4), .ref (a16 5), .ref (a16 6), .ref (a16 7), .ref (a16 8), .ref (a16 9), .ref (a16 10)])), ((a16 4), .inl ((xcA X) 10, 10, .inl (lf []))), ((a16 5), .inl ((xcA X) 10, 10, .inl (lf []))), ((a16 6), .inl ((xcA X) 10, 10, .inl (lf []))), ((a16 7), .inl ((xcA X) 10, 4, .inl (lf []))), ((a16 8), .inl ((xcA X) 10, 4, .inl (lf []))), ((a16 9), .inl ((xcA X) 10, 4, .inl (lf []))), ((a16 10), .inl ((xcA X) 10, 4, .inl (lf []))), ((a16 11), .inl ((xcA X) 15, 5, .inr (.inr (.inr (.inr (gq [(a16 12), (a16 13), (a16 14), (a16 15), (a16 16)])))))), ((a16 12), .inl ((xcA X) 10, 10, .inl (lf []))), ((a16 13), .inl ((xcA X) 10, 10, .inl (lf []))), ((a16 14), .inl ((xcA X) 10, 10, .inl (lf []))), ((a16 15), .inl ((xcA X) 10, 10, .inl (lf []))), ((a16 16), .inl ((xcA X) 10, 10, .inl (lf []))), ((a16 17), .inl ((xcA X) 15, 4, .inr (.inr (.inr (.inr (gq [(a16 18), (a16 19), (a16 20), (a16 21)])))))), ((a16 18), .inl ((xcA X) 10, 10, .inl (lf []))), ((a16 19), .inl ((xcA X) 10, 10, .inl (lf []))), ((a16 20), .inl ((xcA X) 10, 10, .inl (lf []))), ((a16 21), .inl ((xcA X) 10, 10, .inl (lf []))), (z17, .inl ((xcA X) 14, 4, .inr (.inr (.inr (.inr (fun _ => none)))))), (z18, .inr (4, [.int (0), .int (0), .int (1), .int (30), .int (0), .ref (a19 0), .ref (a19 1), .ref (a19 2), .ref (a19 3), .ref (a19 4), .ref (a19 5), .ref (a19 6)])), ((a19 0), .inl ((xcA X) 10, 10, .inl (lf []))), ((a19 1), .inl ((xcA X) 10, 10, .inl (lf []))), ((a19 2), .inl ((xcA X) 10, 10, .inl (lf []))), ((a19 3), .inl ((xcA X) 10, 4, .inl (lf []))), ((a19 4), .inl ((xcA X) 10, 4, .inl (lf []))), ((a19 5), .inl ((xcA X) 10, 4, .inl (lf []))), ((a19 6), .inl ((xcA X) 10, 4, .inl (lf []))), (z20, .inr (4, [.int (0), .int (0), .int (1), .int (30), .int (0), .ref (a21 0), .ref (a21 1), .ref (a21 2), .ref (a21 3), .ref (a21 4), .ref (a21 5), .ref (a21 6)])), ((a21 0), .inl ((xcA X) 10, 10, .inl (lf []))), ((a21 1), .inl ((xcA X) 10, 10, .inl (lf []))), ((a21 2), .inl ((xcA X) 10, 10, .inl (lf []))), ((a21 3), .inl ((xcA X) 10, 4, .inl (lf []))), ((a21 4), .inl ((xcA X) 10, 4, .inl (lf []))), ((a21 5), .inl ((xcA X) 10, 4, .inl (lf []))), ((a21 6), .inl ((xcA X) 10, 4, .inl (lf [])))]) (by simp only [wcX4_init, List.cons_append, List.nil_append]) ?_
    refine TC_n (c2 := 72) (s2 := 690) rfl rfl ?_
    refine TC_aast (i := 20) (j := 65) (w' := [(b, .inr (7, [.ref z1, .ref z3, .ref z5, .ref z7, .ref z8, .ref z9, .ref z11, .ref z13, .ref z15, .ref z17, .int (0)])), (z1, .inr (6, [.int (0), .int (0), .int (0), .ref (a2 0), .ref (a2 1), .int (0), .int (0), .int (0), .int (0), .int (0)])), ((a2 0), .inl ((xcA X) 9, 160, .inl (lf []))), ((a2 1), .inl ((xcA X) 10, 4, .inl (lf []))), (z3, .inr (4, [.int (0), .int (0), .int (1), .int (30), .int (0), .ref (a4 0), .ref (a4 1), .ref (a4 2), .ref (a4 3), .ref (a4 4), .ref (a4 5), .ref (a4 6)])), ((a4 0), .inl ((xcA X) 10, 10, .inl (lf []))), ((a4 1), .inl ((xcA X) 10, 10, .inl (lf []))), ((a4 2), .inl ((xcA X) 10, 10, .inl (lf []))), ((a4 3), .inl ((xcA X) 10, 4, .inl (lf []))), ((a4 4), .inl ((xcA X) 10, 4, .inl (lf []))), ((a4 5), .inl ((xcA X) 10, 4, .inl (lf []))), ((a4 6), .inl ((xcA X) 10, 4, .inl (lf []))), (z5, .inr (4, [.int (0), .int (0), .int (1), .int (30), .int (0), .ref (a6 0), .ref (a6 1), .ref (a6 2), .ref (a6 3), .ref (a6 4), .ref (a6 5), .ref (a6 6)])), ((a6 0), .inl ((xcA X) 10, 10, .inl (lf []))), ((a6 1), .inl ((xcA X) 10, 10, .inl (lf []))), ((a6 2), .inl ((xcA X) 10, 10, .inl (lf []))), ((a6 3), .inl ((xcA X) 10, 4, .inl (lf []))), ((a6 4), .inl ((xcA X) 10, 4, .inl (lf []))), ((a6 5), .inl ((xcA X) 10, 4, .inl (lf []))), ((a6 6), .inl ((xcA X) 10, 4, .inl (lf []))), (z7, .inl ((xcA X) 13, 2, .inr (.inr (.inr (.inr (va_up (va_up (fun _ => none) 0 (some z18)) 1 (some z20))))))), (z8, .inl ((xcA X) 12, 2, .inl (lf []))), (z9, .inr (1, [.ref (a10 0), .ref (a10 1)])), ((a10 0), .inl ((xcA X) 10, 10, .inl (lf []))), ((a10 1), .inl ((xcA X) 10, 10, .inl (lf []))), (z11, .inr (3, [.int (0), .int (0), .ref (a12 0), .ref (a12 1), .ref (a12 2), .ref (a12 3)])), ((a12 0), .inl ((xcA X) 10, 4, .inl (lf []))), ((a12 1), .inl ((xcA X) 10, 4, .inl (lf []))), ((a12 2), .inl ((xcA X) 10, 10, .inl (lf []))), ((a12 3), .inl ((xcA X) 10, 16, .inl (lf []))), (z13, .inr (0, [.ref (a14 0), .ref (a14 1)])), ((a14 0), .inl ((xcA X) 11, 16, .inr (.inl (fun _ => 0)))), ((a14 1), .inl ((xcA X) 11, 16, .inr (.inl (fun _ => 0)))), (z15, .inr (2, [.int (0), .ref (a16 0), .ref (a16 1), .ref (a16 2), .ref (a16 3), .ref (a16 11), .ref (a16 17)])), ((a16 0), .inl ((xcA X) 10, 4, .inl (lf []))), ((a16 1), .inl ((xcA X) 10, 6, .inl (lf []))), ((a16 2), .inl ((xcA X) 10, 6, .inl (lf []))), ((a16 3), .inr (4, [.int (0), .int (0), .int (1), .int (30), .int (0), .ref (a16 4), .ref (a16 5), .ref (a16 6), .ref (a16 7), .ref (a16 8), .ref (a16 9), .ref (a16 10)])), ((a16 4), .inl ((xcA X) 10, 10, .inl (lf []))), ((a16 5), .inl ((xcA X) 10, 10, .inl (lf []))), ((a16 6), .inl ((xcA X) 10, 10, .inl (lf []))), ((a16 7), .inl ((xcA X) 10, 4, .inl (lf []))), ((a16 8), .inl ((xcA X) 10, 4, .inl (lf []))), ((a16 9), .inl ((xcA X) 10, 4, .inl (lf []))), ((a16 10), .inl ((xcA X) 10, 4, .inl (lf []))), ((a16 11), .inl ((xcA X) 15, 5, .inr (.inr (.inr (.inr (gq [(a16 12), (a16 13), (a16 14), (a16 15), (a16 16)])))))), ((a16 12), .inl ((xcA X) 10, 10, .inl (lf []))), ((a16 13), .inl ((xcA X) 10, 10, .inl (lf []))), ((a16 14), .inl ((xcA X) 10, 10, .inl (lf []))), ((a16 15), .inl ((xcA X) 10, 10, .inl (lf []))), ((a16 16), .inl ((xcA X) 10, 10, .inl (lf []))), ((a16 17), .inl ((xcA X) 15, 4, .inr (.inr (.inr (.inr (gq [(a16 18), (a16 19), (a16 20), (a16 21)])))))), ((a16 18), .inl ((xcA X) 10, 10, .inl (lf []))), ((a16 19), .inl ((xcA X) 10, 10, .inl (lf []))), ((a16 20), .inl ((xcA X) 10, 10, .inl (lf []))), ((a16 21), .inl ((xcA X) 10, 10, .inl (lf []))), (z17, .inl ((xcA X) 14, 4, .inr (.inr (.inr (.inr (fun _ => none)))))), (z18, .inr (4, [.int (0), .int (0), .int (1), .int (30), .int (0), .ref (a19 0), .ref (a19 1), .ref (a19 2), .ref (a19 3), .ref (a19 4), .ref (a19 5), .ref (a19 6)])), ((a19 0), .inl ((xcA X) 10, 10, .inl (lf []))), ((a19 1), .inl ((xcA X) 10, 10, .inl (lf []))), ((a19 2), .inl ((xcA X) 10, 10, .inl (lf []))), ((a19 3), .inl ((xcA X) 10, 4, .inl (lf []))), ((a19 4), .inl ((xcA X) 10, 4, .inl (lf []))), ((a19 5), .inl ((xcA X) 10, 4, .inl (lf []))), ((a19 6), .inl ((xcA X) 10, 4, .inl (lf []))), (z20, .inr (4, [.int (0), .int (0), .int (1), .int (30), .int (0), .ref (a21 0), .ref (a21 1), .ref (a21 2), .ref (a21 3), .ref (a21 4), .ref (a21 5), .ref (a21 6)])), ((a21 0), .inl ((xcA X) 10, 10, .inl (lf []))), ((a21 1), .inl ((xcA X) 10, 10, .inl (lf []))), ((a21 2), .inl ((xcA X) 10, 10, .inl (lf []))), ((a21 3), .inl ((xcA X) 10, 4, .inl (lf []))), ((a21 4), .inl ((xcA X) 10, 4, .inl (lf []))), ((a21 5), .inl ((xcA X) 10, 4, .inl (lf []))), ((a21 6), .inl ((xcA X) 10, 4, .inl (lf [])))]) 4 13 rfl rfl rfl rfl (by unfold vp_in; decide) rfl dX7_init_128 ?_
    refine TC_iinc (lv' := [(1, .int (2)), (0, .ref b)]) 0 (2) rfl (by decide) (Nat.le_of_ble_eq_true rfl) rfl dX7_init_129 ?_
    refine TC_goto 111 dX7_init_132 (by decide) ?_
    refine TC_iload_n 0 rfl rfl dX7_init_111 ?_
    refine TC_iconst (2) (by decide) dX7_init_112 ?_
    refine TC_geT 135 (by decide) dX7_init_113 (by decide) ?_
    refine TC_iconst (0) (by decide) dX7_init_135 ?_
    refine TC_istore_n (lv' := [(1, .int (0)), (0, .ref b)]) rfl (Nat.le_of_ble_eq_true rfl) rfl dX7_init_136 ?_
    refine TC_iload_n 0 rfl rfl dX7_init_137 ?_
    refine TC_iconst (4) (by decide) dX7_init_138 ?_
    refine TC_geF 161 (by decide) dX7_init_139 (by decide) ?_
    refine TC_aload_n 1 rfl rfl dX7_init_142 ?_
    refine TC_getR (c := 7) (i := 0) (k := 9) (v := .ref z17) rfl (by decide) rfl kfX7_64 rfl rfl dX7_init_143 ?_
    refine TC_iload_n 0 rfl rfl dX7_init_146 ?_
    refine TC_new (c := 5) (fs := fz5) rfl df5 kcX7_62 ki5 kn5 (Nat.le_of_ble_eq_true rfl) (Nat.le_of_ble_eq_true rfl) dX7_init_147 (fun z22 => ?_)
    refine TC_w (w' := [(b, .inr (7, [.ref z1, .ref z3, .ref z5, .ref z7, .ref z8, .ref z9, .ref z11, .ref z13, .ref z15, .ref z17, .int (0)])), (z1, .inr (6, [.int (0), .int (0), .int (0), .ref (a2 0), .ref (a2 1), .int (0), .int (0), .int (0), .int (0), .int (0)])), ((a2 0), .inl ((xcA X) 9, 160, .inl (lf []))), ((a2 1), .inl ((xcA X) 10, 4, .inl (lf []))), (z3, .inr (4, [.int (0), .int (0), .int (1), .int (30), .int (0), .ref (a4 0), .ref (a4 1), .ref (a4 2), .ref (a4 3), .ref (a4 4), .ref (a4 5), .ref (a4 6)])), ((a4 0), .inl ((xcA X) 10, 10, .inl (lf []))), ((a4 1), .inl ((xcA X) 10, 10, .inl (lf []))), ((a4 2), .inl ((xcA X) 10, 10, .inl (lf []))), ((a4 3), .inl ((xcA X) 10, 4, .inl (lf []))), ((a4 4), .inl ((xcA X) 10, 4, .inl (lf []))), ((a4 5), .inl ((xcA X) 10, 4, .inl (lf []))), ((a4 6), .inl ((xcA X) 10, 4, .inl (lf []))), (z5, .inr (4, [.int (0), .int (0), .int (1), .int (30), .int (0), .ref (a6 0), .ref (a6 1), .ref (a6 2), .ref (a6 3), .ref (a6 4), .ref (a6 5), .ref (a6 6)])), ((a6 0), .inl ((xcA X) 10, 10, .inl (lf []))), ((a6 1), .inl ((xcA X) 10, 10, .inl (lf []))), ((a6 2), .inl ((xcA X) 10, 10, .inl (lf []))), ((a6 3), .inl ((xcA X) 10, 4, .inl (lf []))), ((a6 4), .inl ((xcA X) 10, 4, .inl (lf []))), ((a6 5), .inl ((xcA X) 10, 4, .inl (lf []))), ((a6 6), .inl ((xcA X) 10, 4, .inl (lf []))), (z7, .inl ((xcA X) 13, 2, .inr (.inr (.inr (.inr (va_up (va_up (fun _ => none) 0 (some z18)) 1 (some z20))))))), (z8, .inl ((xcA X) 12, 2, .inl (lf []))), (z9, .inr (1, [.ref (a10 0), .ref (a10 1)])), ((a10 0), .inl ((xcA X) 10, 10, .inl (lf []))), ((a10 1), .inl ((xcA X) 10, 10, .inl (lf []))), (z11, .inr (3, [.int (0), .int (0), .ref (a12 0), .ref (a12 1), .ref (a12 2), .ref (a12 3)])), ((a12 0), .inl ((xcA X) 10, 4, .inl (lf []))), ((a12 1), .inl ((xcA X) 10, 4, .inl (lf []))), ((a12 2), .inl ((xcA X) 10, 10, .inl (lf []))), ((a12 3), .inl ((xcA X) 10, 16, .inl (lf []))), (z13, .inr (0, [.ref (a14 0), .ref (a14 1)])), ((a14 0), .inl ((xcA X) 11, 16, .inr (.inl (fun _ => 0)))), ((a14 1), .inl ((xcA X) 11, 16, .inr (.inl (fun _ => 0)))), (z15, .inr (2, [.int (0), .ref (a16 0), .ref (a16 1), .ref (a16 2), .ref (a16 3), .ref (a16 11), .ref (a16 17)])), ((a16 0), .inl ((xcA X) 10, 4, .inl (lf []))), ((a16 1), .inl ((xcA X) 10, 6, .inl (lf []))), ((a16 2), .inl ((xcA X) 10, 6, .inl (lf []))), ((a16 3), .inr (4, [.int (0), .int (0), .int (1), .int (30), .int (0), .ref (a16 4), .ref (a16 5), .ref (a16 6), .ref (a16 7), .ref (a16 8), .ref (a16 9), .ref (a16 10)])), ((a16 4), .inl ((xcA X) 10, 10, .inl (lf []))), ((a16 5), .inl ((xcA X) 10, 10, .inl (lf []))), ((a16 6), .inl ((xcA X) 10, 10, .inl (lf []))), ((a16 7), .inl ((xcA X) 10, 4, .inl (lf []))), ((a16 8), .inl ((xcA X) 10, 4, .inl (lf []))), ((a16 9), .inl ((xcA X) 10, 4, .inl (lf []))), ((a16 10), .inl ((xcA X) 10, 4, .inl (lf []))), ((a16 11), .inl ((xcA X) 15, 5, .inr (.inr (.inr (.inr (gq [(a16 12), (a16 13), (a16 14), (a16 15), (a16 16)])))))), ((a16 12), .inl ((xcA X) 10, 10, .inl (lf []))), ((a16 13), .inl ((xcA X) 10, 10, .inl (lf []))), ((a16 14), .inl ((xcA X) 10, 10, .inl (lf []))), ((a16 15), .inl ((xcA X) 10, 10, .inl (lf []))), ((a16 16), .inl ((xcA X) 10, 10, .inl (lf []))), ((a16 17), .inl ((xcA X) 15, 4, .inr (.inr (.inr (.inr (gq [(a16 18), (a16 19), (a16 20), (a16 21)])))))), ((a16 18), .inl ((xcA X) 10, 10, .inl (lf []))), ((a16 19), .inl ((xcA X) 10, 10, .inl (lf []))), ((a16 20), .inl ((xcA X) 10, 10, .inl (lf []))), ((a16 21), .inl ((xcA X) 10, 10, .inl (lf []))), (z17, .inl ((xcA X) 14, 4, .inr (.inr (.inr (.inr (fun _ => none)))))), (z18, .inr (4, [.int (0), .int (0), .int (1), .int (30), .int (0), .ref (a19 0), .ref (a19 1), .ref (a19 2), .ref (a19 3), .ref (a19 4), .ref (a19 5), .ref (a19 6)])), ((a19 0), .inl ((xcA X) 10, 10, .inl (lf []))), ((a19 1), .inl ((xcA X) 10, 10, .inl (lf []))), ((a19 2), .inl ((xcA X) 10, 10, .inl (lf []))), ((a19 3), .inl ((xcA X) 10, 4, .inl (lf []))), ((a19 4), .inl ((xcA X) 10, 4, .inl (lf []))), ((a19 5), .inl ((xcA X) 10, 4, .inl (lf []))), ((a19 6), .inl ((xcA X) 10, 4, .inl (lf []))), (z20, .inr (4, [.int (0), .int (0), .int (1), .int (30), .int (0), .ref (a21 0), .ref (a21 1), .ref (a21 2), .ref (a21 3), .ref (a21 4), .ref (a21 5), .ref (a21 6)])), ((a21 0), .inl ((xcA X) 10, 10, .inl (lf []))), ((a21 1), .inl ((xcA X) 10, 10, .inl (lf []))), ((a21 2), .inl ((xcA X) 10, 10, .inl (lf []))), ((a21 3), .inl ((xcA X) 10, 4, .inl (lf []))), ((a21 4), .inl ((xcA X) 10, 4, .inl (lf []))), ((a21 5), .inl ((xcA X) 10, 4, .inl (lf []))), ((a21 6), .inl ((xcA X) 10, 4, .inl (lf []))), (z22, .inr (5, fz5))]) rfl ?_
    refine TC_n (c2 := 73) (s2 := 693) rfl rfl ?_
    refine TC_dup rfl dX7_init_150 ?_
    refine TC_callN (q := qX7_init) (index := 72) (b := z22) (c := 5) [(b, .inr (7, [.ref z1, .ref z3, .ref z5, .ref z7, .ref z8, .ref z9, .ref z11, .ref z13, .ref z15, .ref z17, .int (0)])), (z1, .inr (6, [.int (0), .int (0), .int (0), .ref (a2 0), .ref (a2 1), .int (0), .int (0), .int (0), .int (0), .int (0)])), ((a2 0), .inl ((xcA X) 9, 160, .inl (lf []))), ((a2 1), .inl ((xcA X) 10, 4, .inl (lf []))), (z3, .inr (4, [.int (0), .int (0), .int (1), .int (30), .int (0), .ref (a4 0), .ref (a4 1), .ref (a4 2), .ref (a4 3), .ref (a4 4), .ref (a4 5), .ref (a4 6)])), ((a4 0), .inl ((xcA X) 10, 10, .inl (lf []))), ((a4 1), .inl ((xcA X) 10, 10, .inl (lf []))), ((a4 2), .inl ((xcA X) 10, 10, .inl (lf []))), ((a4 3), .inl ((xcA X) 10, 4, .inl (lf []))), ((a4 4), .inl ((xcA X) 10, 4, .inl (lf []))), ((a4 5), .inl ((xcA X) 10, 4, .inl (lf []))), ((a4 6), .inl ((xcA X) 10, 4, .inl (lf []))), (z5, .inr (4, [.int (0), .int (0), .int (1), .int (30), .int (0), .ref (a6 0), .ref (a6 1), .ref (a6 2), .ref (a6 3), .ref (a6 4), .ref (a6 5), .ref (a6 6)])), ((a6 0), .inl ((xcA X) 10, 10, .inl (lf []))), ((a6 1), .inl ((xcA X) 10, 10, .inl (lf []))), ((a6 2), .inl ((xcA X) 10, 10, .inl (lf []))), ((a6 3), .inl ((xcA X) 10, 4, .inl (lf []))), ((a6 4), .inl ((xcA X) 10, 4, .inl (lf []))), ((a6 5), .inl ((xcA X) 10, 4, .inl (lf []))), ((a6 6), .inl ((xcA X) 10, 4, .inl (lf []))), (z7, .inl ((xcA X) 13, 2, .inr (.inr (.inr (.inr (va_up (va_up (fun _ => none) 0 (some z18)) 1 (some z20))))))), (z8, .inl ((xcA X) 12, 2, .inl (lf []))), (z9, .inr (1, [.ref (a10 0), .ref (a10 1)])), ((a10 0), .inl ((xcA X) 10, 10, .inl (lf []))), ((a10 1), .inl ((xcA X) 10, 10, .inl (lf []))), (z11, .inr (3, [.int (0), .int (0), .ref (a12 0), .ref (a12 1), .ref (a12 2), .ref (a12 3)])), ((a12 0), .inl ((xcA X) 10, 4, .inl (lf []))), ((a12 1), .inl ((xcA X) 10, 4, .inl (lf []))), ((a12 2), .inl ((xcA X) 10, 10, .inl (lf []))), ((a12 3), .inl ((xcA X) 10, 16, .inl (lf []))), (z13, .inr (0, [.ref (a14 0), .ref (a14 1)])), ((a14 0), .inl ((xcA X) 11, 16, .inr (.inl (fun _ => 0)))), ((a14 1), .inl ((xcA X) 11, 16, .inr (.inl (fun _ => 0)))), (z15, .inr (2, [.int (0), .ref (a16 0), .ref (a16 1), .ref (a16 2), .ref (a16 3), .ref (a16 11), .ref (a16 17)])), ((a16 0), .inl ((xcA X) 10, 4, .inl (lf []))), ((a16 1), .inl ((xcA X) 10, 6, .inl (lf []))), ((a16 2), .inl ((xcA X) 10, 6, .inl (lf []))), ((a16 3), .inr (4, [.int (0), .int (0), .int (1), .int (30), .int (0), .ref (a16 4), .ref (a16 5), .ref (a16 6), .ref (a16 7), .ref (a16 8), .ref (a16 9), .ref (a16 10)])), ((a16 4), .inl ((xcA X) 10, 10, .inl (lf []))), ((a16 5), .inl ((xcA X) 10, 10, .inl (lf []))), ((a16 6), .inl ((xcA X) 10, 10, .inl (lf []))), ((a16 7), .inl ((xcA X) 10, 4, .inl (lf []))), ((a16 8), .inl ((xcA X) 10, 4, .inl (lf []))), ((a16 9), .inl ((xcA X) 10, 4, .inl (lf []))), ((a16 10), .inl ((xcA X) 10, 4, .inl (lf []))), ((a16 11), .inl ((xcA X) 15, 5, .inr (.inr (.inr (.inr (gq [(a16 12), (a16 13), (a16 14), (a16 15), (a16 16)])))))), ((a16 12), .inl ((xcA X) 10, 10, .inl (lf []))), ((a16 13), .inl ((xcA X) 10, 10, .inl (lf []))), ((a16 14), .inl ((xcA X) 10, 10, .inl (lf []))), ((a16 15), .inl ((xcA X) 10, 10, .inl (lf []))), ((a16 16), .inl ((xcA X) 10, 10, .inl (lf []))), ((a16 17), .inl ((xcA X) 15, 4, .inr (.inr (.inr (.inr (gq [(a16 18), (a16 19), (a16 20), (a16 21)])))))), ((a16 18), .inl ((xcA X) 10, 10, .inl (lf []))), ((a16 19), .inl ((xcA X) 10, 10, .inl (lf []))), ((a16 20), .inl ((xcA X) 10, 10, .inl (lf []))), ((a16 21), .inl ((xcA X) 10, 10, .inl (lf []))), (z17, .inl ((xcA X) 14, 4, .inr (.inr (.inr (.inr (fun _ => none)))))), (z18, .inr (4, [.int (0), .int (0), .int (1), .int (30), .int (0), .ref (a19 0), .ref (a19 1), .ref (a19 2), .ref (a19 3), .ref (a19 4), .ref (a19 5), .ref (a19 6)])), ((a19 0), .inl ((xcA X) 10, 10, .inl (lf []))), ((a19 1), .inl ((xcA X) 10, 10, .inl (lf []))), ((a19 2), .inl ((xcA X) 10, 10, .inl (lf []))), ((a19 3), .inl ((xcA X) 10, 4, .inl (lf []))), ((a19 4), .inl ((xcA X) 10, 4, .inl (lf []))), ((a19 5), .inl ((xcA X) 10, 4, .inl (lf []))), ((a19 6), .inl ((xcA X) 10, 4, .inl (lf []))), (z20, .inr (4, [.int (0), .int (0), .int (1), .int (30), .int (0), .ref (a21 0), .ref (a21 1), .ref (a21 2), .ref (a21 3), .ref (a21 4), .ref (a21 5), .ref (a21 6)])), ((a21 0), .inl ((xcA X) 10, 10, .inl (lf []))), ((a21 1), .inl ((xcA X) 10, 10, .inl (lf []))), ((a21 2), .inl ((xcA X) 10, 10, .inl (lf []))), ((a21 3), .inl ((xcA X) 10, 4, .inl (lf []))), ((a21 4), .inl ((xcA X) 10, 4, .inl (lf []))), ((a21 5), .inl ((xcA X) 10, 4, .inl (lf []))), ((a21 6), .inl ((xcA X) 10, 4, .inl (lf [])))] [.ref z22, .int (0), .ref z17] (by simp only [List.cons_append, List.nil_append]) mkX5_init imX5_init rfl rfl (by decide +kernel) (Nat.le_of_ble_eq_true rfl) (Nat.le_of_ble_eq_true rfl) (Nat.le_of_ble_eq_true rfl) (Nat.le_of_ble_eq_true rfl) (Nat.le_of_ble_eq_true rfl) dX7_init_151 (cnX5_init _) (fun a23 => ?_)
    refine TC_w (w' := [(b, .inr (7, [.ref z1, .ref z3, .ref z5, .ref z7, .ref z8, .ref z9, .ref z11, .ref z13, .ref z15, .ref z17, .int (0)])), (z1, .inr (6, [.int (0), .int (0), .int (0), .ref (a2 0), .ref (a2 1), .int (0), .int (0), .int (0), .int (0), .int (0)])), ((a2 0), .inl ((xcA X) 9, 160, .inl (lf []))), ((a2 1), .inl ((xcA X) 10, 4, .inl (lf []))), (z3, .inr (4, [.int (0), .int (0), .int (1), .int (30), .int (0), .ref (a4 0), .ref (a4 1), .ref (a4 2), .ref (a4 3), .ref (a4 4), .ref (a4 5), .ref (a4 6)])), ((a4 0), .inl ((xcA X) 10, 10, .inl (lf []))), ((a4 1), .inl ((xcA X) 10, 10, .inl (lf []))), ((a4 2), .inl ((xcA X) 10, 10, .inl (lf []))), ((a4 3), .inl ((xcA X) 10, 4, .inl (lf []))), ((a4 4), .inl ((xcA X) 10, 4, .inl (lf []))), ((a4 5), .inl ((xcA X) 10, 4, .inl (lf []))), ((a4 6), .inl ((xcA X) 10, 4, .inl (lf []))), (z5, .inr (4, [.int (0), .int (0), .int (1), .int (30), .int (0), .ref (a6 0), .ref (a6 1), .ref (a6 2), .ref (a6 3), .ref (a6 4), .ref (a6 5), .ref (a6 6)])), ((a6 0), .inl ((xcA X) 10, 10, .inl (lf []))), ((a6 1), .inl ((xcA X) 10, 10, .inl (lf []))), ((a6 2), .inl ((xcA X) 10, 10, .inl (lf []))), ((a6 3), .inl ((xcA X) 10, 4, .inl (lf []))), ((a6 4), .inl ((xcA X) 10, 4, .inl (lf []))), ((a6 5), .inl ((xcA X) 10, 4, .inl (lf []))), ((a6 6), .inl ((xcA X) 10, 4, .inl (lf []))), (z7, .inl ((xcA X) 13, 2, .inr (.inr (.inr (.inr (va_up (va_up (fun _ => none) 0 (some z18)) 1 (some z20))))))), (z8, .inl ((xcA X) 12, 2, .inl (lf []))), (z9, .inr (1, [.ref (a10 0), .ref (a10 1)])), ((a10 0), .inl ((xcA X) 10, 10, .inl (lf []))), ((a10 1), .inl ((xcA X) 10, 10, .inl (lf []))), (z11, .inr (3, [.int (0), .int (0), .ref (a12 0), .ref (a12 1), .ref (a12 2), .ref (a12 3)])), ((a12 0), .inl ((xcA X) 10, 4, .inl (lf []))), ((a12 1), .inl ((xcA X) 10, 4, .inl (lf []))), ((a12 2), .inl ((xcA X) 10, 10, .inl (lf []))), ((a12 3), .inl ((xcA X) 10, 16, .inl (lf []))), (z13, .inr (0, [.ref (a14 0), .ref (a14 1)])), ((a14 0), .inl ((xcA X) 11, 16, .inr (.inl (fun _ => 0)))), ((a14 1), .inl ((xcA X) 11, 16, .inr (.inl (fun _ => 0)))), (z15, .inr (2, [.int (0), .ref (a16 0), .ref (a16 1), .ref (a16 2), .ref (a16 3), .ref (a16 11), .ref (a16 17)])), ((a16 0), .inl ((xcA X) 10, 4, .inl (lf []))), ((a16 1), .inl ((xcA X) 10, 6, .inl (lf []))), ((a16 2), .inl ((xcA X) 10, 6, .inl (lf []))), ((a16 3), .inr (4, [.int (0), .int (0), .int (1), .int (30), .int (0), .ref (a16 4), .ref (a16 5), .ref (a16 6), .ref (a16 7), .ref (a16 8), .ref (a16 9), .ref (a16 10)])), ((a16 4), .inl ((xcA X) 10, 10, .inl (lf []))), ((a16 5), .inl ((xcA X) 10, 10, .inl (lf []))), ((a16 6), .inl ((xcA X) 10, 10, .inl (lf []))), ((a16 7), .inl ((xcA X) 10, 4, .inl (lf []))), ((a16 8), .inl ((xcA X) 10, 4, .inl (lf []))), ((a16 9), .inl ((xcA X) 10, 4, .inl (lf []))), ((a16 10), .inl ((xcA X) 10, 4, .inl (lf []))), ((a16 11), .inl ((xcA X) 15, 5, .inr (.inr (.inr (.inr (gq [(a16 12), (a16 13), (a16 14), (a16 15), (a16 16)])))))), ((a16 12), .inl ((xcA X) 10, 10, .inl (lf []))), ((a16 13), .inl ((xcA X) 10, 10, .inl (lf []))), ((a16 14), .inl ((xcA X) 10, 10, .inl (lf []))), ((a16 15), .inl ((xcA X) 10, 10, .inl (lf []))), ((a16 16), .inl ((xcA X) 10, 10, .inl (lf []))), ((a16 17), .inl ((xcA X) 15, 4, .inr (.inr (.inr (.inr (gq [(a16 18), (a16 19), (a16 20), (a16 21)])))))), ((a16 18), .inl ((xcA X) 10, 10, .inl (lf []))), ((a16 19), .inl ((xcA X) 10, 10, .inl (lf []))), ((a16 20), .inl ((xcA X) 10, 10, .inl (lf []))), ((a16 21), .inl ((xcA X) 10, 10, .inl (lf []))), (z17, .inl ((xcA X) 14, 4, .inr (.inr (.inr (.inr (fun _ => none)))))), (z18, .inr (4, [.int (0), .int (0), .int (1), .int (30), .int (0), .ref (a19 0), .ref (a19 1), .ref (a19 2), .ref (a19 3), .ref (a19 4), .ref (a19 5), .ref (a19 6)])), ((a19 0), .inl ((xcA X) 10, 10, .inl (lf []))), ((a19 1), .inl ((xcA X) 10, 10, .inl (lf []))), ((a19 2), .inl ((xcA X) 10, 10, .inl (lf []))), ((a19 3), .inl ((xcA X) 10, 4, .inl (lf []))), ((a19 4), .inl ((xcA X) 10, 4, .inl (lf []))), ((a19 5), .inl ((xcA X) 10, 4, .inl (lf []))), ((a19 6), .inl ((xcA X) 10, 4, .inl (lf []))), (z20, .inr (4, [.int (0), .int (0), .int (1), .int (30), .int (0), .ref (a21 0), .ref (a21 1), .ref (a21 2), .ref (a21 3), .ref (a21 4), .ref (a21 5), .ref (a21 6)])), ((a21 0), .inl ((xcA X) 10, 10, .inl (lf []))), ((a21 1), .inl ((xcA X) 10, 10, .inl (lf []))), ((a21 2), .inl ((xcA X) 10, 10, .inl (lf []))), ((a21 3), .inl ((xcA X) 10, 4, .inl (lf []))), ((a21 4), .inl ((xcA X) 10, 4, .inl (lf []))), ((a21 5), .inl ((xcA X) 10, 4, .inl (lf []))), ((a21 6), .inl ((xcA X) 10, 4, .inl (lf []))), (z22, .inr (5, [.int (0), .ref (a23 0), .int (-1)])), ((a23 0), .inl ((xcA X) 10, 40, .inl (lf [])))]) (by simp only [wcX5_init, List.cons_append, List.nil_append]) ?_
    refine TC_n (c2 := 74) (s2 := 733) rfl rfl ?_
    refine TC_aast (i := 56) (j := 73) (w' := [(b, .inr (7, [.ref z1, .ref z3, .ref z5, .ref z7, .ref z8, .ref z9, .ref z11, .ref z13, .ref z15, .ref z17, .int (0)])), (z1, .inr (6, [.int (0), .int (0), .int (0), .ref (a2 0), .ref (a2 1), .int (0), .int (0), .int (0), .int (0), .int (0)])), ((a2 0), .inl ((xcA X) 9, 160, .inl (lf []))), ((a2 1), .inl ((xcA X) 10, 4, .inl (lf []))), (z3, .inr (4, [.int (0), .int (0), .int (1), .int (30), .int (0), .ref (a4 0), .ref (a4 1), .ref (a4 2), .ref (a4 3), .ref (a4 4), .ref (a4 5), .ref (a4 6)])), ((a4 0), .inl ((xcA X) 10, 10, .inl (lf []))), ((a4 1), .inl ((xcA X) 10, 10, .inl (lf []))), ((a4 2), .inl ((xcA X) 10, 10, .inl (lf []))), ((a4 3), .inl ((xcA X) 10, 4, .inl (lf []))), ((a4 4), .inl ((xcA X) 10, 4, .inl (lf []))), ((a4 5), .inl ((xcA X) 10, 4, .inl (lf []))), ((a4 6), .inl ((xcA X) 10, 4, .inl (lf []))), (z5, .inr (4, [.int (0), .int (0), .int (1), .int (30), .int (0), .ref (a6 0), .ref (a6 1), .ref (a6 2), .ref (a6 3), .ref (a6 4), .ref (a6 5), .ref (a6 6)])), ((a6 0), .inl ((xcA X) 10, 10, .inl (lf []))), ((a6 1), .inl ((xcA X) 10, 10, .inl (lf []))), ((a6 2), .inl ((xcA X) 10, 10, .inl (lf []))), ((a6 3), .inl ((xcA X) 10, 4, .inl (lf []))), ((a6 4), .inl ((xcA X) 10, 4, .inl (lf []))), ((a6 5), .inl ((xcA X) 10, 4, .inl (lf []))), ((a6 6), .inl ((xcA X) 10, 4, .inl (lf []))), (z7, .inl ((xcA X) 13, 2, .inr (.inr (.inr (.inr (va_up (va_up (fun _ => none) 0 (some z18)) 1 (some z20))))))), (z8, .inl ((xcA X) 12, 2, .inl (lf []))), (z9, .inr (1, [.ref (a10 0), .ref (a10 1)])), ((a10 0), .inl ((xcA X) 10, 10, .inl (lf []))), ((a10 1), .inl ((xcA X) 10, 10, .inl (lf []))), (z11, .inr (3, [.int (0), .int (0), .ref (a12 0), .ref (a12 1), .ref (a12 2), .ref (a12 3)])), ((a12 0), .inl ((xcA X) 10, 4, .inl (lf []))), ((a12 1), .inl ((xcA X) 10, 4, .inl (lf []))), ((a12 2), .inl ((xcA X) 10, 10, .inl (lf []))), ((a12 3), .inl ((xcA X) 10, 16, .inl (lf []))), (z13, .inr (0, [.ref (a14 0), .ref (a14 1)])), ((a14 0), .inl ((xcA X) 11, 16, .inr (.inl (fun _ => 0)))), ((a14 1), .inl ((xcA X) 11, 16, .inr (.inl (fun _ => 0)))), (z15, .inr (2, [.int (0), .ref (a16 0), .ref (a16 1), .ref (a16 2), .ref (a16 3), .ref (a16 11), .ref (a16 17)])), ((a16 0), .inl ((xcA X) 10, 4, .inl (lf []))), ((a16 1), .inl ((xcA X) 10, 6, .inl (lf []))), ((a16 2), .inl ((xcA X) 10, 6, .inl (lf []))), ((a16 3), .inr (4, [.int (0), .int (0), .int (1), .int (30), .int (0), .ref (a16 4), .ref (a16 5), .ref (a16 6), .ref (a16 7), .ref (a16 8), .ref (a16 9), .ref (a16 10)])), ((a16 4), .inl ((xcA X) 10, 10, .inl (lf []))), ((a16 5), .inl ((xcA X) 10, 10, .inl (lf []))), ((a16 6), .inl ((xcA X) 10, 10, .inl (lf []))), ((a16 7), .inl ((xcA X) 10, 4, .inl (lf []))), ((a16 8), .inl ((xcA X) 10, 4, .inl (lf []))), ((a16 9), .inl ((xcA X) 10, 4, .inl (lf []))), ((a16 10), .inl ((xcA X) 10, 4, .inl (lf []))), ((a16 11), .inl ((xcA X) 15, 5, .inr (.inr (.inr (.inr (gq [(a16 12), (a16 13), (a16 14), (a16 15), (a16 16)])))))), ((a16 12), .inl ((xcA X) 10, 10, .inl (lf []))), ((a16 13), .inl ((xcA X) 10, 10, .inl (lf []))), ((a16 14), .inl ((xcA X) 10, 10, .inl (lf []))), ((a16 15), .inl ((xcA X) 10, 10, .inl (lf []))), ((a16 16), .inl ((xcA X) 10, 10, .inl (lf []))), ((a16 17), .inl ((xcA X) 15, 4, .inr (.inr (.inr (.inr (gq [(a16 18), (a16 19), (a16 20), (a16 21)])))))), ((a16 18), .inl ((xcA X) 10, 10, .inl (lf []))), ((a16 19), .inl ((xcA X) 10, 10, .inl (lf []))), ((a16 20), .inl ((xcA X) 10, 10, .inl (lf []))), ((a16 21), .inl ((xcA X) 10, 10, .inl (lf []))), (z17, .inl ((xcA X) 14, 4, .inr (.inr (.inr (.inr (va_up (fun _ => none) 0 (some z22))))))), (z18, .inr (4, [.int (0), .int (0), .int (1), .int (30), .int (0), .ref (a19 0), .ref (a19 1), .ref (a19 2), .ref (a19 3), .ref (a19 4), .ref (a19 5), .ref (a19 6)])), ((a19 0), .inl ((xcA X) 10, 10, .inl (lf []))), ((a19 1), .inl ((xcA X) 10, 10, .inl (lf []))), ((a19 2), .inl ((xcA X) 10, 10, .inl (lf []))), ((a19 3), .inl ((xcA X) 10, 4, .inl (lf []))), ((a19 4), .inl ((xcA X) 10, 4, .inl (lf []))), ((a19 5), .inl ((xcA X) 10, 4, .inl (lf []))), ((a19 6), .inl ((xcA X) 10, 4, .inl (lf []))), (z20, .inr (4, [.int (0), .int (0), .int (1), .int (30), .int (0), .ref (a21 0), .ref (a21 1), .ref (a21 2), .ref (a21 3), .ref (a21 4), .ref (a21 5), .ref (a21 6)])), ((a21 0), .inl ((xcA X) 10, 10, .inl (lf []))), ((a21 1), .inl ((xcA X) 10, 10, .inl (lf []))), ((a21 2), .inl ((xcA X) 10, 10, .inl (lf []))), ((a21 3), .inl ((xcA X) 10, 4, .inl (lf []))), ((a21 4), .inl ((xcA X) 10, 4, .inl (lf []))), ((a21 5), .inl ((xcA X) 10, 4, .inl (lf []))), ((a21 6), .inl ((xcA X) 10, 4, .inl (lf []))), (z22, .inr (5, [.int (0), .ref (a23 0), .int (-1)])), ((a23 0), .inl ((xcA X) 10, 40, .inl (lf [])))]) 5 14 rfl rfl rfl rfl (by unfold vp_in; decide) rfl dX7_init_154 ?_
    refine TC_iinc (lv' := [(1, .int (1)), (0, .ref b)]) 0 (1) rfl (by decide) (Nat.le_of_ble_eq_true rfl) rfl dX7_init_155 ?_
    refine TC_goto 137 dX7_init_158 (by decide) ?_
    refine TC_iload_n 0 rfl rfl dX7_init_137 ?_
    refine TC_iconst (4) (by decide) dX7_init_138 ?_
    refine TC_geF 161 (by decide) dX7_init_139 (by decide) ?_
    refine TC_aload_n 1 rfl rfl dX7_init_142 ?_
    refine TC_getR (c := 7) (i := 0) (k := 9) (v := .ref z17) rfl (by decide) rfl kfX7_64 rfl rfl dX7_init_143 ?_
    refine TC_iload_n 0 rfl rfl dX7_init_146 ?_
    refine TC_new (c := 5) (fs := fz5) rfl df5 kcX7_62 ki5 kn5 (Nat.le_of_ble_eq_true rfl) (Nat.le_of_ble_eq_true rfl) dX7_init_147 (fun z24 => ?_)
    refine TC_w (w' := [(b, .inr (7, [.ref z1, .ref z3, .ref z5, .ref z7, .ref z8, .ref z9, .ref z11, .ref z13, .ref z15, .ref z17, .int (0)])), (z1, .inr (6, [.int (0), .int (0), .int (0), .ref (a2 0), .ref (a2 1), .int (0), .int (0), .int (0), .int (0), .int (0)])), ((a2 0), .inl ((xcA X) 9, 160, .inl (lf []))), ((a2 1), .inl ((xcA X) 10, 4, .inl (lf []))), (z3, .inr (4, [.int (0), .int (0), .int (1), .int (30), .int (0), .ref (a4 0), .ref (a4 1), .ref (a4 2), .ref (a4 3), .ref (a4 4), .ref (a4 5), .ref (a4 6)])), ((a4 0), .inl ((xcA X) 10, 10, .inl (lf []))), ((a4 1), .inl ((xcA X) 10, 10, .inl (lf []))), ((a4 2), .inl ((xcA X) 10, 10, .inl (lf []))), ((a4 3), .inl ((xcA X) 10, 4, .inl (lf []))), ((a4 4), .inl ((xcA X) 10, 4, .inl (lf []))), ((a4 5), .inl ((xcA X) 10, 4, .inl (lf []))), ((a4 6), .inl ((xcA X) 10, 4, .inl (lf []))), (z5, .inr (4, [.int (0), .int (0), .int (1), .int (30), .int (0), .ref (a6 0), .ref (a6 1), .ref (a6 2), .ref (a6 3), .ref (a6 4), .ref (a6 5), .ref (a6 6)])), ((a6 0), .inl ((xcA X) 10, 10, .inl (lf []))), ((a6 1), .inl ((xcA X) 10, 10, .inl (lf []))), ((a6 2), .inl ((xcA X) 10, 10, .inl (lf []))), ((a6 3), .inl ((xcA X) 10, 4, .inl (lf []))), ((a6 4), .inl ((xcA X) 10, 4, .inl (lf []))), ((a6 5), .inl ((xcA X) 10, 4, .inl (lf []))), ((a6 6), .inl ((xcA X) 10, 4, .inl (lf []))), (z7, .inl ((xcA X) 13, 2, .inr (.inr (.inr (.inr (va_up (va_up (fun _ => none) 0 (some z18)) 1 (some z20))))))), (z8, .inl ((xcA X) 12, 2, .inl (lf []))), (z9, .inr (1, [.ref (a10 0), .ref (a10 1)])), ((a10 0), .inl ((xcA X) 10, 10, .inl (lf []))), ((a10 1), .inl ((xcA X) 10, 10, .inl (lf []))), (z11, .inr (3, [.int (0), .int (0), .ref (a12 0), .ref (a12 1), .ref (a12 2), .ref (a12 3)])), ((a12 0), .inl ((xcA X) 10, 4, .inl (lf []))), ((a12 1), .inl ((xcA X) 10, 4, .inl (lf []))), ((a12 2), .inl ((xcA X) 10, 10, .inl (lf []))), ((a12 3), .inl ((xcA X) 10, 16, .inl (lf []))), (z13, .inr (0, [.ref (a14 0), .ref (a14 1)])), ((a14 0), .inl ((xcA X) 11, 16, .inr (.inl (fun _ => 0)))), ((a14 1), .inl ((xcA X) 11, 16, .inr (.inl (fun _ => 0)))), (z15, .inr (2, [.int (0), .ref (a16 0), .ref (a16 1), .ref (a16 2), .ref (a16 3), .ref (a16 11), .ref (a16 17)])), ((a16 0), .inl ((xcA X) 10, 4, .inl (lf []))), ((a16 1), .inl ((xcA X) 10, 6, .inl (lf []))), ((a16 2), .inl ((xcA X) 10, 6, .inl (lf []))), ((a16 3), .inr (4, [.int (0), .int (0), .int (1), .int (30), .int (0), .ref (a16 4), .ref (a16 5), .ref (a16 6), .ref (a16 7), .ref (a16 8), .ref (a16 9), .ref (a16 10)])), ((a16 4), .inl ((xcA X) 10, 10, .inl (lf []))), ((a16 5), .inl ((xcA X) 10, 10, .inl (lf []))), ((a16 6), .inl ((xcA X) 10, 10, .inl (lf []))), ((a16 7), .inl ((xcA X) 10, 4, .inl (lf []))), ((a16 8), .inl ((xcA X) 10, 4, .inl (lf []))), ((a16 9), .inl ((xcA X) 10, 4, .inl (lf []))), ((a16 10), .inl ((xcA X) 10, 4, .inl (lf []))), ((a16 11), .inl ((xcA X) 15, 5, .inr (.inr (.inr (.inr (gq [(a16 12), (a16 13), (a16 14), (a16 15), (a16 16)])))))), ((a16 12), .inl ((xcA X) 10, 10, .inl (lf []))), ((a16 13), .inl ((xcA X) 10, 10, .inl (lf []))), ((a16 14), .inl ((xcA X) 10, 10, .inl (lf []))), ((a16 15), .inl ((xcA X) 10, 10, .inl (lf []))), ((a16 16), .inl ((xcA X) 10, 10, .inl (lf []))), ((a16 17), .inl ((xcA X) 15, 4, .inr (.inr (.inr (.inr (gq [(a16 18), (a16 19), (a16 20), (a16 21)])))))), ((a16 18), .inl ((xcA X) 10, 10, .inl (lf []))), ((a16 19), .inl ((xcA X) 10, 10, .inl (lf []))), ((a16 20), .inl ((xcA X) 10, 10, .inl (lf []))), ((a16 21), .inl ((xcA X) 10, 10, .inl (lf []))), (z17, .inl ((xcA X) 14, 4, .inr (.inr (.inr (.inr (va_up (fun _ => none) 0 (some z22))))))), (z18, .inr (4, [.int (0), .int (0), .int (1), .int (30), .int (0), .ref (a19 0), .ref (a19 1), .ref (a19 2), .ref (a19 3), .ref (a19 4), .ref (a19 5), .ref (a19 6)])), ((a19 0), .inl ((xcA X) 10, 10, .inl (lf []))), ((a19 1), .inl ((xcA X) 10, 10, .inl (lf []))), ((a19 2), .inl ((xcA X) 10, 10, .inl (lf []))), ((a19 3), .inl ((xcA X) 10, 4, .inl (lf []))), ((a19 4), .inl ((xcA X) 10, 4, .inl (lf []))), ((a19 5), .inl ((xcA X) 10, 4, .inl (lf []))), ((a19 6), .inl ((xcA X) 10, 4, .inl (lf []))), (z20, .inr (4, [.int (0), .int (0), .int (1), .int (30), .int (0), .ref (a21 0), .ref (a21 1), .ref (a21 2), .ref (a21 3), .ref (a21 4), .ref (a21 5), .ref (a21 6)])), ((a21 0), .inl ((xcA X) 10, 10, .inl (lf []))), ((a21 1), .inl ((xcA X) 10, 10, .inl (lf []))), ((a21 2), .inl ((xcA X) 10, 10, .inl (lf []))), ((a21 3), .inl ((xcA X) 10, 4, .inl (lf []))), ((a21 4), .inl ((xcA X) 10, 4, .inl (lf []))), ((a21 5), .inl ((xcA X) 10, 4, .inl (lf []))), ((a21 6), .inl ((xcA X) 10, 4, .inl (lf []))), (z22, .inr (5, [.int (0), .ref (a23 0), .int (-1)])), ((a23 0), .inl ((xcA X) 10, 40, .inl (lf []))), (z24, .inr (5, fz5))]) rfl ?_
    refine TC_n (c2 := 75) (s2 := 736) rfl rfl ?_
    refine TC_dup rfl dX7_init_150 ?_
    refine TC_callN (q := qX7_init) (index := 72) (b := z24) (c := 5) [(b, .inr (7, [.ref z1, .ref z3, .ref z5, .ref z7, .ref z8, .ref z9, .ref z11, .ref z13, .ref z15, .ref z17, .int (0)])), (z1, .inr (6, [.int (0), .int (0), .int (0), .ref (a2 0), .ref (a2 1), .int (0), .int (0), .int (0), .int (0), .int (0)])), ((a2 0), .inl ((xcA X) 9, 160, .inl (lf []))), ((a2 1), .inl ((xcA X) 10, 4, .inl (lf []))), (z3, .inr (4, [.int (0), .int (0), .int (1), .int (30), .int (0), .ref (a4 0), .ref (a4 1), .ref (a4 2), .ref (a4 3), .ref (a4 4), .ref (a4 5), .ref (a4 6)])), ((a4 0), .inl ((xcA X) 10, 10, .inl (lf []))), ((a4 1), .inl ((xcA X) 10, 10, .inl (lf []))), ((a4 2), .inl ((xcA X) 10, 10, .inl (lf []))), ((a4 3), .inl ((xcA X) 10, 4, .inl (lf []))), ((a4 4), .inl ((xcA X) 10, 4, .inl (lf []))), ((a4 5), .inl ((xcA X) 10, 4, .inl (lf []))), ((a4 6), .inl ((xcA X) 10, 4, .inl (lf []))), (z5, .inr (4, [.int (0), .int (0), .int (1), .int (30), .int (0), .ref (a6 0), .ref (a6 1), .ref (a6 2), .ref (a6 3), .ref (a6 4), .ref (a6 5), .ref (a6 6)])), ((a6 0), .inl ((xcA X) 10, 10, .inl (lf []))), ((a6 1), .inl ((xcA X) 10, 10, .inl (lf []))), ((a6 2), .inl ((xcA X) 10, 10, .inl (lf []))), ((a6 3), .inl ((xcA X) 10, 4, .inl (lf []))), ((a6 4), .inl ((xcA X) 10, 4, .inl (lf []))), ((a6 5), .inl ((xcA X) 10, 4, .inl (lf []))), ((a6 6), .inl ((xcA X) 10, 4, .inl (lf []))), (z7, .inl ((xcA X) 13, 2, .inr (.inr (.inr (.inr (va_up (va_up (fun _ => none) 0 (some z18)) 1 (some z20))))))), (z8, .inl ((xcA X) 12, 2, .inl (lf []))), (z9, .inr (1, [.ref (a10 0), .ref (a10 1)])), ((a10 0), .inl ((xcA X) 10, 10, .inl (lf []))), ((a10 1), .inl ((xcA X) 10, 10, .inl (lf []))), (z11, .inr (3, [.int (0), .int (0), .ref (a12 0), .ref (a12 1), .ref (a12 2), .ref (a12 3)])), ((a12 0), .inl ((xcA X) 10, 4, .inl (lf []))), ((a12 1), .inl ((xcA X) 10, 4, .inl (lf []))), ((a12 2), .inl ((xcA X) 10, 10, .inl (lf []))), ((a12 3), .inl ((xcA X) 10, 16, .inl (lf []))), (z13, .inr (0, [.ref (a14 0), .ref (a14 1)])), ((a14 0), .inl ((xcA X) 11, 16, .inr (.inl (fun _ => 0)))), ((a14 1), .inl ((xcA X) 11, 16, .inr (.inl (fun _ => 0)))), (z15, .inr (2, [.int (0), .ref (a16 0), .ref (a16 1), .ref (a16 2), .ref (a16 3), .ref (a16 11), .ref (a16 17)])), ((a16 0), .inl ((xcA X) 10, 4, .inl (lf []))), ((a16 1), .inl ((xcA X) 10, 6, .inl (lf []))), ((a16 2), .inl ((xcA X) 10, 6, .inl (lf []))), ((a16 3), .inr (4, [.int (0), .int (0), .int (1), .int (30), .int (0), .ref (a16 4), .ref (a16 5), .ref (a16 6), .ref (a16 7), .ref (a16 8), .ref (a16 9), .ref (a16 10)])), ((a16 4), .inl ((xcA X) 10, 10, .inl (lf []))), ((a16 5), .inl ((xcA X) 10, 10, .inl (lf []))), ((a16 6), .inl ((xcA X) 10, 10, .inl (lf []))), ((a16 7), .inl ((xcA X) 10, 4, .inl (lf []))), ((a16 8), .inl ((xcA X) 10, 4, .inl (lf []))), ((a16 9), .inl ((xcA X) 10, 4, .inl (lf []))), ((a16 10), .inl ((xcA X) 10, 4, .inl (lf []))), ((a16 11), .inl ((xcA X) 15, 5, .inr (.inr (.inr (.inr (gq [(a16 12), (a16 13), (a16 14), (a16 15), (a16 16)])))))), ((a16 12), .inl ((xcA X) 10, 10, .inl (lf []))), ((a16 13), .inl ((xcA X) 10, 10, .inl (lf []))), ((a16 14), .inl ((xcA X) 10, 10, .inl (lf []))), ((a16 15), .inl ((xcA X) 10, 10, .inl (lf []))), ((a16 16), .inl ((xcA X) 10, 10, .inl (lf []))), ((a16 17), .inl ((xcA X) 15, 4, .inr (.inr (.inr (.inr (gq [(a16 18), (a16 19), (a16 20), (a16 21)])))))), ((a16 18), .inl ((xcA X) 10, 10, .inl (lf []))), ((a16 19), .inl ((xcA X) 10, 10, .inl (lf []))), ((a16 20), .inl ((xcA X) 10, 10, .inl (lf []))), ((a16 21), .inl ((xcA X) 10, 10, .inl (lf []))), (z17, .inl ((xcA X) 14, 4, .inr (.inr (.inr (.inr (va_up (fun _ => none) 0 (some z22))))))), (z18, .inr (4, [.int (0), .int (0), .int (1), .int (30), .int (0), .ref (a19 0), .ref (a19 1), .ref (a19 2), .ref (a19 3), .ref (a19 4), .ref (a19 5), .ref (a19 6)])), ((a19 0), .inl ((xcA X) 10, 10, .inl (lf []))), ((a19 1), .inl ((xcA X) 10, 10, .inl (lf []))), ((a19 2), .inl ((xcA X) 10, 10, .inl (lf []))), ((a19 3), .inl ((xcA X) 10, 4, .inl (lf []))), ((a19 4), .inl ((xcA X) 10, 4, .inl (lf []))), ((a19 5), .inl ((xcA X) 10, 4, .inl (lf []))), ((a19 6), .inl ((xcA X) 10, 4, .inl (lf []))), (z20, .inr (4, [.int (0), .int (0), .int (1), .int (30), .int (0), .ref (a21 0), .ref (a21 1), .ref (a21 2), .ref (a21 3), .ref (a21 4), .ref (a21 5), .ref (a21 6)])), ((a21 0), .inl ((xcA X) 10, 10, .inl (lf []))), ((a21 1), .inl ((xcA X) 10, 10, .inl (lf []))), ((a21 2), .inl ((xcA X) 10, 10, .inl (lf []))), ((a21 3), .inl ((xcA X) 10, 4, .inl (lf []))), ((a21 4), .inl ((xcA X) 10, 4, .inl (lf []))), ((a21 5), .inl ((xcA X) 10, 4, .inl (lf []))), ((a21 6), .inl ((xcA X) 10, 4, .inl (lf []))), (z22, .inr (5, [.int (0), .ref (a23 0), .int (-1)])), ((a23 0), .inl ((xcA X) 10, 40, .inl (lf [])))] [.ref z24, .int (1), .ref z17] (by simp only [List.cons_append, List.nil_append]) mkX5_init imX5_init rfl rfl (by decide +kernel) (Nat.le_of_ble_eq_true rfl) (Nat.le_of_ble_eq_true rfl) (Nat.le_of_ble_eq_true rfl) (Nat.le_of_ble_eq_true rfl) (Nat.le_of_ble_eq_true rfl) dX7_init_151 (cnX5_init _) (fun a25 => ?_)
    refine TC_w (w' := [(b, .inr (7, [.ref z1, .ref z3, .ref z5, .ref z7, .ref z8, .ref z9, .ref z11, .ref z13, .ref z15, .ref z17, .int (0)])), (z1, .inr (6, [.int (0), .int (0), .int (0), .ref (a2 0), .ref (a2 1), .int (0), .int (0), .int (0), .int (0), .int (0)])), ((a2 0), .inl ((xcA X) 9, 160, .inl (lf []))), ((a2 1), .inl ((xcA X) 10, 4, .inl (lf []))), (z3, .inr (4, [.int (0), .int (0), .int (1), .int (30), .int (0), .ref (a4 0), .ref (a4 1), .ref (a4 2), .ref (a4 3), .ref (a4 4), .ref (a4 5), .ref (a4 6)])), ((a4 0), .inl ((xcA X) 10, 10, .inl (lf []))), ((a4 1), .inl ((xcA X) 10, 10, .inl (lf []))), ((a4 2), .inl ((xcA X) 10, 10, .inl (lf []))), ((a4 3), .inl ((xcA X) 10, 4, .inl (lf []))), ((a4 4), .inl ((xcA X) 10, 4, .inl (lf []))), ((a4 5), .inl ((xcA X) 10, 4, .inl (lf []))), ((a4 6), .inl ((xcA X) 10, 4, .inl (lf []))), (z5, .inr (4, [.int (0), .int (0), .int (1), .int (30), .int (0), .ref (a6 0), .ref (a6 1), .ref (a6 2), .ref (a6 3), .ref (a6 4), .ref (a6 5), .ref (a6 6)])), ((a6 0), .inl ((xcA X) 10, 10, .inl (lf []))), ((a6 1), .inl ((xcA X) 10, 10, .inl (lf []))), ((a6 2), .inl ((xcA X) 10, 10, .inl (lf []))), ((a6 3), .inl ((xcA X) 10, 4, .inl (lf []))), ((a6 4), .inl ((xcA X) 10, 4, .inl (lf []))), ((a6 5), .inl ((xcA X) 10, 4, .inl (lf []))), ((a6 6), .inl ((xcA X) 10, 4, .inl (lf []))), (z7, .inl ((xcA X) 13, 2, .inr (.inr (.inr (.inr (va_up (va_up (fun _ => none) 0 (some z18)) 1 (some z20))))))), (z8, .inl ((xcA X) 12, 2, .inl (lf []))), (z9, .inr (1, [.ref (a10 0), .ref (a10 1)])), ((a10 0), .inl ((xcA X) 10, 10, .inl (lf []))), ((a10 1), .inl ((xcA X) 10, 10, .inl (lf []))), (z11, .inr (3, [.int (0), .int (0), .ref (a12 0), .ref (a12 1), .ref (a12 2), .ref (a12 3)])), ((a12 0), .inl ((xcA X) 10, 4, .inl (lf []))), ((a12 1), .inl ((xcA X) 10, 4, .inl (lf []))), ((a12 2), .inl ((xcA X) 10, 10, .inl (lf []))), ((a12 3), .inl ((xcA X) 10, 16, .inl (lf []))), (z13, .inr (0, [.ref (a14 0), .ref (a14 1)])), ((a14 0), .inl ((xcA X) 11, 16, .inr (.inl (fun _ => 0)))), ((a14 1), .inl ((xcA X) 11, 16, .inr (.inl (fun _ => 0)))), (z15, .inr (2, [.int (0), .ref (a16 0), .ref (a16 1), .ref (a16 2), .ref (a16 3), .ref (a16 11), .ref (a16 17)])), ((a16 0), .inl ((xcA X) 10, 4, .inl (lf []))), ((a16 1), .inl ((xcA X) 10, 6, .inl (lf []))), ((a16 2), .inl ((xcA X) 10, 6, .inl (lf []))), ((a16 3), .inr (4, [.int (0), .int (0), .int (1), .int (30), .int (0), .ref (a16 4), .ref (a16 5), .ref (a16 6), .ref (a16 7), .ref (a16 8), .ref (a16 9), .ref (a16 10)])), ((a16 4), .inl ((xcA X) 10, 10, .inl (lf []))), ((a16 5), .inl ((xcA X) 10, 10, .inl (lf []))), ((a16 6), .inl ((xcA X) 10, 10, .inl (lf []))), ((a16 7), .inl ((xcA X) 10, 4, .inl (lf []))), ((a16 8), .inl ((xcA X) 10, 4, .inl (lf []))), ((a16 9), .inl ((xcA X) 10, 4, .inl (lf []))), ((a16 10), .inl ((xcA X) 10, 4, .inl (lf []))), ((a16 11), .inl ((xcA X) 15, 5, .inr (.inr (.inr (.inr (gq [(a16 12), (a16 13), (a16 14), (a16 15), (a16 16)])))))), ((a16 12), .inl ((xcA X) 10, 10, .inl (lf []))), ((a16 13), .inl ((xcA X) 10, 10, .inl (lf []))), ((a16 14), .inl ((xcA X) 10, 10, .inl (lf []))), ((a16 15), .inl ((xcA X) 10, 10, .inl (lf []))), ((a16 16), .inl ((xcA X) 10, 10, .inl (lf []))), ((a16 17), .inl ((xcA X) 15, 4, .inr (.inr (.inr (.inr (gq [(a16 18), (a16 19), (a16 20), (a16 21)])))))), ((a16 18), .inl ((xcA X) 10, 10, .inl (lf []))), ((a16 19), .inl ((xcA X) 10, 10, .inl (lf []))), ((a16 20), .inl ((xcA X) 10, 10, .inl (lf []))), ((a16 21), .inl ((xcA X) 10, 10, .inl (lf []))), (z17, .inl ((xcA X) 14, 4, .inr (.inr (.inr (.inr (va_up (fun _ => none) 0 (some z22))))))), (z18, .inr (4, [.int (0), .int (0), .int (1), .int (30), .int (0), .ref (a19 0), .ref (a19 1), .ref (a19 2), .ref (a19 3), .ref (a19 4), .ref (a19 5), .ref (a19 6)])), ((a19 0), .inl ((xcA X) 10, 10, .inl (lf []))), ((a19 1), .inl ((xcA X) 10, 10, .inl (lf []))), ((a19 2), .inl ((xcA X) 10, 10, .inl (lf []))), ((a19 3), .inl ((xcA X) 10, 4, .inl (lf []))), ((a19 4), .inl ((xcA X) 10, 4, .inl (lf []))), ((a19 5), .inl ((xcA X) 10, 4, .inl (lf []))), ((a19 6), .inl ((xcA X) 10, 4, .inl (lf []))), (z20, .inr (4, [.int (0), .int (0), .int (1), .int (30), .int (0), .ref (a21 0), .ref (a21 1), .ref (a21 2), .ref (a21 3), .ref (a21 4), .ref (a21 5), .ref (a21 6)])), ((a21 0), .inl ((xcA X) 10, 10, .inl (lf []))), ((a21 1), .inl ((xcA X) 10, 10, .inl (lf []))), ((a21 2), .inl ((xcA X) 10, 10, .inl (lf []))), ((a21 3), .inl ((xcA X) 10, 4, .inl (lf []))), ((a21 4), .inl ((xcA X) 10, 4, .inl (lf []))), ((a21 5), .inl ((xcA X) 10, 4, .inl (lf []))), ((a21 6), .inl ((xcA X) 10, 4, .inl (lf []))), (z22, .inr (5, [.int (0), .ref (a23 0), .int (-1)])), ((a23 0), .inl ((xcA X) 10, 40, .inl (lf []))), (z24, .inr (5, [.int (0), .ref (a25 0), .int (-1)])), ((a25 0), .inl ((xcA X) 10, 40, .inl (lf [])))]) (by simp only [wcX5_init, List.cons_append, List.nil_append]) ?_
    refine TC_n (c2 := 76) (s2 := 776) rfl rfl ?_
    refine TC_aast (i := 56) (j := 75) (w' := [(b, .inr (7, [.ref z1, .ref z3, .ref z5, .ref z7, .ref z8, .ref z9, .ref z11, .ref z13, .ref z15, .ref z17, .int (0)])), (z1, .inr (6, [.int (0), .int (0), .int (0), .ref (a2 0), .ref (a2 1), .int (0), .int (0), .int (0), .int (0), .int (0)])), ((a2 0), .inl ((xcA X) 9, 160, .inl (lf []))), ((a2 1), .inl ((xcA X) 10, 4, .inl (lf []))), (z3, .inr (4, [.int (0), .int (0), .int (1), .int (30), .int (0), .ref (a4 0), .ref (a4 1), .ref (a4 2), .ref (a4 3), .ref (a4 4), .ref (a4 5), .ref (a4 6)])), ((a4 0), .inl ((xcA X) 10, 10, .inl (lf []))), ((a4 1), .inl ((xcA X) 10, 10, .inl (lf []))), ((a4 2), .inl ((xcA X) 10, 10, .inl (lf []))), ((a4 3), .inl ((xcA X) 10, 4, .inl (lf []))), ((a4 4), .inl ((xcA X) 10, 4, .inl (lf []))), ((a4 5), .inl ((xcA X) 10, 4, .inl (lf []))), ((a4 6), .inl ((xcA X) 10, 4, .inl (lf []))), (z5, .inr (4, [.int (0), .int (0), .int (1), .int (30), .int (0), .ref (a6 0), .ref (a6 1), .ref (a6 2), .ref (a6 3), .ref (a6 4), .ref (a6 5), .ref (a6 6)])), ((a6 0), .inl ((xcA X) 10, 10, .inl (lf []))), ((a6 1), .inl ((xcA X) 10, 10, .inl (lf []))), ((a6 2), .inl ((xcA X) 10, 10, .inl (lf []))), ((a6 3), .inl ((xcA X) 10, 4, .inl (lf []))), ((a6 4), .inl ((xcA X) 10, 4, .inl (lf []))), ((a6 5), .inl ((xcA X) 10, 4, .inl (lf []))), ((a6 6), .inl ((xcA X) 10, 4, .inl (lf []))), (z7, .inl ((xcA X) 13, 2, .inr (.inr (.inr (.inr (va_up (va_up (fun _ => none) 0 (some z18)) 1 (some z20))))))), (z8, .inl ((xcA X) 12, 2, .inl (lf []))), (z9, .inr (1, [.ref (a10 0), .ref (a10 1)])), ((a10 0), .inl ((xcA X) 10, 10, .inl (lf []))), ((a10 1), .inl ((xcA X) 10, 10, .inl (lf []))), (z11, .inr (3, [.int (0), .int (0), .ref (a12 0), .ref (a12 1), .ref (a12 2), .ref (a12 3)])), ((a12 0), .inl ((xcA X) 10, 4, .inl (lf []))), ((a12 1), .inl ((xcA X) 10, 4, .inl (lf []))), ((a12 2), .inl ((xcA X) 10, 10, .inl (lf []))), ((a12 3), .inl ((xcA X) 10, 16, .inl (lf []))), (z13, .inr (0, [.ref (a14 0), .ref (a14 1)])), ((a14 0), .inl ((xcA X) 11, 16, .inr (.inl (fun _ => 0)))), ((a14 1), .inl ((xcA X) 11, 16, .inr (.inl (fun _ => 0)))), (z15, .inr (2, [.int (0), .ref (a16 0), .ref (a16 1), .ref (a16 2), .ref (a16 3), .ref (a16 11), .ref (a16 17)])), ((a16 0), .inl ((xcA X) 10, 4, .inl (lf []))), ((a16 1), .inl ((xcA X) 10, 6, .inl (lf []))), ((a16 2), .inl ((xcA X) 10, 6, .inl (lf []))), ((a16 3), .inr (4, [.int (0), .int (0), .int (1), .int (30), .int (0), .ref (a16 4), .ref (a16 5), .ref (a16 6), .ref (a16 7), .ref (a16 8), .ref (a16 9), .ref (a16 10)])), ((a16 4), .inl ((xcA X) 10, 10, .inl (lf []))), ((a16 5), .inl ((xcA X) 10, 10, .inl (lf []))), ((a16 6), .inl ((xcA X) 10, 10, .inl (lf []))), ((a16 7), .inl ((xcA X) 10, 4, .inl (lf []))), ((a16 8), .inl ((xcA X) 10, 4, .inl (lf []))), ((a16 9), .inl ((xcA X) 10, 4, .inl (lf []))), ((a16 10), .inl ((xcA X) 10, 4, .inl (lf []))), ((a16 11), .inl ((xcA X) 15, 5, .inr (.inr (.inr (.inr (gq [(a16 12), (a16 13), (a16 14), (a16 15), (a16 16)])))))), ((a16 12), .inl ((xcA X) 10, 10, .inl (lf []))), ((a16 13), .inl ((xcA X) 10, 10, .inl (lf []))), ((a16 14), .inl ((xcA X) 10, 10, .inl (lf []))), ((a16 15), .inl ((xcA X) 10, 10, .inl (lf []))), ((a16 16), .inl ((xcA X) 10, 10, .inl (lf []))), ((a16 17), .inl ((xcA X) 15, 4, .inr (.inr (.inr (.inr (gq [(a16 18), (a16 19), (a16 20), (a16 21)])))))), ((a16 18), .inl ((xcA X) 10, 10, .inl (lf []))), ((a16 19), .inl ((xcA X) 10, 10, .inl (lf []))), ((a16 20), .inl ((xcA X) 10, 10, .inl (lf []))), ((a16 21), .inl ((xcA X) 10, 10, .inl (lf []))), (z17, .inl ((xcA X) 14, 4, .inr (.inr (.inr (.inr (va_up (va_up (fun _ => none) 0 (some z22)) 1 (some z24))))))), (z18, .inr (4, [.int (0), .int (0), .int (1), .int (30), .int (0), .ref (a19 0), .ref (a19 1), .ref (a19 2), .ref (a19 3), .ref (a19 4), .ref (a19 5), .ref (a19 6)])), ((a19 0), .inl ((xcA X) 10, 10, .inl (lf []))), ((a19 1), .inl ((xcA X) 10, 10, .inl (lf []))), ((a19 2), .inl ((xcA X) 10, 10, .inl (lf []))), ((a19 3), .inl ((xcA X) 10, 4, .inl (lf []))), ((a19 4), .inl ((xcA X) 10, 4, .inl (lf []))), ((a19 5), .inl ((xcA X) 10, 4, .inl (lf []))), ((a19 6), .inl ((xcA X) 10, 4, .inl (lf []))), (z20, .inr (4, [.int (0), .int (0), .int (1), .int (30), .int (0), .ref (a21 0), .ref (a21 1), .ref (a21 2), .ref (a21 3), .ref (a21 4), .ref (a21 5), .ref (a21 6)])), ((a21 0), .inl ((xcA X) 10, 10, .inl (lf []))), ((a21 1), .inl ((xcA X) 10, 10, .inl (lf []))), ((a21 2), .inl ((xcA X) 10, 10, .inl (lf []))), ((a21 3), .inl ((xcA X) 10, 4, .inl (lf []))), ((a21 4), .inl ((xcA X) 10, 4, .inl (lf []))), ((a21 5), .inl ((xcA X) 10, 4, .inl (lf []))), ((a21 6), .inl ((xcA X) 10, 4, .inl (lf []))), (z22, .inr (5, [.int (0), .ref (a23 0), .int (-1)])), ((a23 0), .inl ((xcA X) 10, 40, .inl (lf []))), (z24, .inr (5, [.int (0), .ref (a25 0), .int (-1)])), ((a25 0), .inl ((xcA X) 10, 40, .inl (lf [])))]) 5 14 rfl rfl rfl rfl (by unfold vp_in; decide) rfl dX7_init_154 ?_
    refine TC_iinc (lv' := [(1, .int (2)), (0, .ref b)]) 0 (2) rfl (by decide) (Nat.le_of_ble_eq_true rfl) rfl dX7_init_155 ?_
    refine TC_goto 137 dX7_init_158 (by decide) ?_
    refine TC_iload_n 0 rfl rfl dX7_init_137 ?_
    refine TC_iconst (4) (by decide) dX7_init_138 ?_
    refine TC_geF 161 (by decide) dX7_init_139 (by decide) ?_
    refine TC_aload_n 1 rfl rfl dX7_init_142 ?_
    refine TC_getR (c := 7) (i := 0) (k := 9) (v := .ref z17) rfl (by decide) rfl kfX7_64 rfl rfl dX7_init_143 ?_
    refine TC_iload_n 0 rfl rfl dX7_init_146 ?_
    refine TC_new (c := 5) (fs := fz5) rfl df5 kcX7_62 ki5 kn5 (Nat.le_of_ble_eq_true rfl) (Nat.le_of_ble_eq_true rfl) dX7_init_147 (fun z26 => ?_)
    refine TC_w (w' := [(b, .inr (7, [.ref z1, .ref z3, .ref z5, .ref z7, .ref z8, .ref z9, .ref z11, .ref z13, .ref z15, .ref z17, .int (0)])), (z1, .inr (6, [.int (0), .int (0), .int (0), .ref (a2 0), .ref (a2 1), .int (0), .int (0), .int (0), .int (0), .int (0)])), ((a2 0), .inl ((xcA X) 9, 160, .inl (lf []))), ((a2 1), .inl ((xcA X) 10, 4, .inl (lf []))), (z3, .inr (4, [.int (0), .int (0), .int (1), .int (30), .int (0), .ref (a4 0), .ref (a4 1), .ref (a4 2), .ref (a4 3), .ref (a4 4), .ref (a4 5), .ref (a4 6)])), ((a4 0), .inl ((xcA X) 10, 10, .inl (lf []))), ((a4 1), .inl ((xcA X) 10, 10, .inl (lf []))), ((a4 2), .inl ((xcA X) 10, 10, .inl (lf []))), ((a4 3), .inl ((xcA X) 10, 4, .inl (lf []))), ((a4 4), .inl ((xcA X) 10, 4, .inl (lf []))), ((a4 5), .inl ((xcA X) 10, 4, .inl (lf []))), ((a4 6), .inl ((xcA X) 10, 4, .inl (lf []))), (z5, .inr (4, [.int (0), .int (0), .int (1), .int (30), .int (0), .ref (a6 0), .ref (a6 1), .ref (a6 2), .ref (a6 3), .ref (a6 4), .ref (a6 5), .ref (a6 6)])), ((a6 0), .inl ((xcA X) 10, 10, .inl (lf []))), ((a6 1), .inl ((xcA X) 10, 10, .inl (lf []))), ((a6 2), .inl ((xcA X) 10, 10, .inl (lf []))), ((a6 3), .inl ((xcA X) 10, 4, .inl (lf []))), ((a6 4), .inl ((xcA X) 10, 4, .inl (lf []))), ((a6 5), .inl ((xcA X) 10, 4, .inl (lf []))), ((a6 6), .inl ((xcA X) 10, 4, .inl (lf []))), (z7, .inl ((xcA X) 13, 2, .inr (.inr (.inr (.inr (va_up (va_up (fun _ => none) 0 (some z18)) 1 (some z20))))))), (z8, .inl ((xcA X) 12, 2, .inl (lf []))), (z9, .inr (1, [.ref (a10 0), .ref (a10 1)])), ((a10 0), .inl ((xcA X) 10, 10, .inl (lf []))), ((a10 1), .inl ((xcA X) 10, 10, .inl (lf []))), (z11, .inr (3, [.int (0), .int (0), .ref (a12 0), .ref (a12 1), .ref (a12 2), .ref (a12 3)])), ((a12 0), .inl ((xcA X) 10, 4, .inl (lf []))), ((a12 1), .inl ((xcA X) 10, 4, .inl (lf []))), ((a12 2), .inl ((xcA X) 10, 10, .inl (lf []))), ((a12 3), .inl ((xcA X) 10, 16, .inl (lf []))), (z13, .inr (0, [.ref (a14 0), .ref (a14 1)])), ((a14 0), .inl ((xcA X) 11, 16, .inr (.inl (fun _ => 0)))), ((a14 1), .inl ((xcA X) 11, 16, .inr (.inl (fun _ => 0)))), (z15, .inr (2, [.int (0), .ref (a16 0), .ref (a16 1), .ref (a16 2), .ref (a16 3), .ref (a16 11), .ref (a16 17)])), ((a16 0), .inl ((xcA X) 10, 4, .inl (lf []))), ((a16 1), .inl ((xcA X) 10, 6, .inl (lf []))), ((a16 2), .inl ((xcA X) 10, 6, .inl (lf []))), ((a16 3), .inr (4, [.int (0), .int (0), .int (1), .int (30), .int (0), .ref (a16 4), .ref (a16 5), .ref (a16 6), .ref (a16 7), .ref (a16 8), .ref (a16 9), .ref (a16 10)])), ((a16 4), .inl ((xcA X) 10, 10, .inl (lf []))), ((a16 5), .inl ((xcA X) 10, 10, .inl (lf []))), ((a16 6), .inl ((xcA X) 10, 10, .inl (lf []))), ((a16 7), .inl ((xcA X) 10, 4, .inl (lf []))), ((a16 8), .inl ((xcA X) 10, 4, .inl (lf []))), ((a16 9), .inl ((xcA X) 10, 4, .inl (lf []))), ((a16 10), .inl ((xcA X) 10, 4, .inl (lf []))), ((a16 11), .inl ((xcA X) 15, 5, .inr (.inr (.inr (.inr (gq [(a16 12), (a16 13), (a16 14), (a16 15), (a16 16)])))))), ((a16 12), .inl ((xcA X) 10, 10, .inl (lf []))), ((a16 13), .inl ((xcA X) 10, 10, .inl (lf []))), ((a16 14), .inl ((xcA X) 10, 10, .inl (lf []))), ((a16 15), .inl ((xcA X) 10, 10, .inl (lf []))), ((a16 16), .inl ((xcA X) 10, 10, .inl (lf []))), ((a16 17), .inl ((xcA X) 15, 4, .inr (.inr (.inr (.inr (gq [(a16 18), (a16 19), (a16 20), (a16 21)])))))), ((a16 18), .inl ((xcA X) 10, 10, .inl (lf []))), ((a16 19), .inl ((xcA X) 10, 10, .inl (lf []))), ((a16 20), .inl ((xcA X) 10, 10, .inl (lf []))), ((a16 21), .inl ((xcA X) 10, 10, .inl (lf []))), (z17, .inl ((xcA X) 14, 4, .inr (.inr (.inr (.inr (va_up (va_up (fun _ => none) 0 (some z22)) 1 (some z24))))))), (z18, .inr (4, [.int (0), .int (0), .int (1), .int (30), .int (0), .ref (a19 0), .ref (a19 1), .ref (a19 2), .ref (a19 3), .ref (a19 4), .ref (a19 5), .ref (a19 6)])), ((a19 0), .inl ((xcA X) 10, 10, .inl (lf []))), ((a19 1), .inl ((xcA X) 10, 10, .inl (lf []))), ((a19 2), .inl ((xcA X) 10, 10, .inl (lf []))), ((a19 3), .inl ((xcA X) 10, 4, .inl (lf []))), ((a19 4), .inl ((xcA X) 10, 4, .inl (lf []))), ((a19 5), .inl ((xcA X) 10, 4, .inl (lf []))), ((a19 6), .inl ((xcA X) 10, 4, .inl (lf []))), (z20, .inr (4, [.int (0), .int (0), .int (1), .int (30), .int (0), .ref (a21 0), .ref (a21 1), .ref (a21 2), .ref (a21 3), .ref (a21 4), .ref (a21 5), .ref (a21 6)])), ((a21 0), .inl ((xcA X) 10, 10, .inl (lf []))), ((a21 1), .inl ((xcA X) 10, 10, .inl (lf []))), ((a21 2), .inl ((xcA X) 10, 10, .inl (lf []))), ((a21 3), .inl ((xcA X) 10, 4, .inl (lf []))), ((a21 4), .inl ((xcA X) 10, 4, .inl (lf []))), ((a21 5), .inl ((xcA X) 10, 4, .inl (lf []))), ((a21 6), .inl ((xcA X) 10, 4, .inl (lf []))), (z22, .inr (5, [.int (0), .ref (a23 0), .int (-1)])), ((a23 0), .inl ((xcA X) 10, 40, .inl (lf []))), (z24, .inr (5, [.int (0), .ref (a25 0), .int (-1)])), ((a25 0), .inl ((xcA X) 10, 40, .inl (lf []))), (z26, .inr (5, fz5))]) rfl ?_
    refine TC_n (c2 := 77) (s2 := 779) rfl rfl ?_
    refine TC_dup rfl dX7_init_150 ?_
    refine TC_callN (q := qX7_init) (index := 72) (b := z26) (c := 5) [(b, .inr (7, [.ref z1, .ref z3, .ref z5, .ref z7, .ref z8, .ref z9, .ref z11, .ref z13, .ref z15, .ref z17, .int (0)])), (z1, .inr (6, [.int (0), .int (0), .int (0), .ref (a2 0), .ref (a2 1), .int (0), .int (0), .int (0), .int (0), .int (0)])), ((a2 0), .inl ((xcA X) 9, 160, .inl (lf []))), ((a2 1), .inl ((xcA X) 10, 4, .inl (lf []))), (z3, .inr (4, [.int (0), .int (0), .int (1), .int (30), .int (0), .ref (a4 0), .ref (a4 1), .ref (a4 2), .ref (a4 3), .ref (a4 4), .ref (a4 5), .ref (a4 6)])), ((a4 0), .inl ((xcA X) 10, 10, .inl (lf []))), ((a4 1), .inl ((xcA X) 10, 10, .inl (lf []))), ((a4 2), .inl ((xcA X) 10, 10, .inl (lf []))), ((a4 3), .inl ((xcA X) 10, 4, .inl (lf []))), ((a4 4), .inl ((xcA X) 10, 4, .inl (lf []))), ((a4 5), .inl ((xcA X) 10, 4, .inl (lf []))), ((a4 6), .inl ((xcA X) 10, 4, .inl (lf []))), (z5, .inr (4, [.int (0), .int (0), .int (1), .int (30), .int (0), .ref (a6 0), .ref (a6 1), .ref (a6 2), .ref (a6 3), .ref (a6 4), .ref (a6 5), .ref (a6 6)])), ((a6 0), .inl ((xcA X) 10, 10, .inl (lf []))), ((a6 1), .inl ((xcA X) 10, 10, .inl (lf []))), ((a6 2), .inl ((xcA X) 10, 10, .inl (lf []))), ((a6 3), .inl ((xcA X) 10, 4, .inl (lf []))), ((a6 4), .inl ((xcA X) 10, 4, .inl (lf []))), ((a6 5), .inl ((xcA X) 10, 4, .inl (lf []))), ((a6 6), .inl ((xcA X) 10, 4, .inl (lf []))), (z7, .inl ((xcA X) 13, 2, .inr (.inr (.inr (.inr (va_up (va_up (fun _ => none) 0 (some z18)) 1 (some z20))))))), (z8, .inl ((xcA X) 12, 2, .inl (lf []))), (z9, .inr (1, [.ref (a10 0), .ref (a10 1)])), ((a10 0), .inl ((xcA X) 10, 10, .inl (lf []))), ((a10 1), .inl ((xcA X) 10, 10, .inl (lf []))), (z11, .inr (3, [.int (0), .int (0), .ref (a12 0), .ref (a12 1), .ref (a12 2), .ref (a12 3)])), ((a12 0), .inl ((xcA X) 10, 4, .inl (lf []))), ((a12 1), .inl ((xcA X) 10, 4, .inl (lf []))), ((a12 2), .inl ((xcA X) 10, 10, .inl (lf []))), ((a12 3), .inl ((xcA X) 10, 16, .inl (lf []))), (z13, .inr (0, [.ref (a14 0), .ref (a14 1)])), ((a14 0), .inl ((xcA X) 11, 16, .inr (.inl (fun _ => 0)))), ((a14 1), .inl ((xcA X) 11, 16, .inr (.inl (fun _ => 0)))), (z15, .inr (2, [.int (0), .ref (a16 0), .ref (a16 1), .ref (a16 2), .ref (a16 3), .ref (a16 11), .ref (a16 17)])), ((a16 0), .inl ((xcA X) 10, 4, .inl (lf []))), ((a16 1), .inl ((xcA X) 10, 6, .inl (lf []))), ((a16 2), .inl ((xcA X) 10, 6, .inl (lf []))), ((a16 3), .inr (4, [.int (0), .int (0), .int (1), .int (30), .int (0), .ref (a16 4), .ref (a16 5), .ref (a16 6), .ref (a16 7), .ref (a16 8), .ref (a16 9), .ref (a16 10)])), ((a16 4), .inl ((xcA X) 10, 10, .inl (lf []))), ((a16 5), .inl ((xcA X) 10, 10, .inl (lf []))), ((a16 6), .inl ((xcA X) 10, 10, .inl (lf []))), ((a16 7), .inl ((xcA X) 10, 4, .inl (lf []))), ((a16 8), .inl ((xcA X) 10, 4, .inl (lf []))), ((a16 9), .inl ((xcA X) 10, 4, .inl (lf []))), ((a16 10), .inl ((xcA X) 10, 4, .inl (lf []))), ((a16 11), .inl ((xcA X) 15, 5, .inr (.inr (.inr (.inr (gq [(a16 12), (a16 13), (a16 14), (a16 15), (a16 16)])))))), ((a16 12), .inl ((xcA X) 10, 10, .inl (lf []))), ((a16 13), .inl ((xcA X) 10, 10, .inl (lf []))), ((a16 14), .inl ((xcA X) 10, 10, .inl (lf []))), ((a16 15), .inl ((xcA X) 10, 10, .inl (lf []))), ((a16 16), .inl ((xcA X) 10, 10, .inl (lf []))), ((a16 17), .inl ((xcA X) 15, 4, .inr (.inr (.inr (.inr (gq [(a16 18), (a16 19), (a16 20), (a16 21)])))))), ((a16 18), .inl ((xcA X) 10, 10, .inl (lf []))), ((a16 19), .inl ((xcA X) 10, 10, .inl (lf []))), ((a16 20), .inl ((xcA X) 10, 10, .inl (lf []))), ((a16 21), .inl ((xcA X) 10, 10, .inl (lf []))), (z17, .inl ((xcA X) 14, 4, .inr (.inr (.inr (.inr (va_up (va_up (fun _ => none) 0 (some z22)) 1 (some z24))))))), (z18, .inr (4, [.int (0), .int (0), .int (1), .int (30), .int (0), .ref (a19 0), .ref (a19 1), .ref (a19 2), .ref (a19 3), .ref (a19 4), .ref (a19 5), .ref (a19 6)])), ((a19 0), .inl ((xcA X) 10, 10, .inl (lf []))), ((a19 1), .inl ((xcA X) 10, 10, .inl (lf []))), ((a19 2), .inl ((xcA X) 10, 10, .inl (lf []))), ((a19 3), .inl ((xcA X) 10, 4, .inl (lf []))), ((a19 4), .inl ((xcA X) 10, 4, .inl (lf []))), ((a19 5), .inl ((xcA X) 10, 4, .inl (lf []))), ((a19 6), .inl ((xcA X) 10, 4, .inl (lf []))), (z20, .inr (4, [.int (0), .int (0), .int (1), .int (30), .int (0), .ref (a21 0), .ref (a21 1), .ref (a21 2), .ref (a21 3), .ref (a21 4), .ref (a21 5), .ref (a21 6)])), ((a21 0), .inl ((xcA X) 10, 10, .inl (lf []))), ((a21 1), .inl ((xcA X) 10, 10, .inl (lf []))), ((a21 2), .inl ((xcA X) 10, 10, .inl (lf []))), ((a21 3), .inl ((xcA X) 10, 4, .inl (lf []))), ((a21 4), .inl ((xcA X) 10, 4, .inl (lf []))), ((a21 5), .inl ((xcA X) 10, 4, .inl (lf []))), ((a21 6), .inl ((xcA X) 10, 4, .inl (lf []))), (z22, .inr (5, [.int (0), .ref (a23 0), .int (-1)])), ((a23 0), .inl ((xcA X) 10, 40, .inl (lf []))), (z24, .inr (5, [.int (0), .ref (a25 0), .int (-1)])), ((a25 0), .inl ((xcA X) 10, 40, .inl (lf [])))] [.ref z26, .int (2), .ref z17] (by simp only [List.cons_append, List.nil_append]) mkX5_init imX5_init rfl rfl (by decide +kernel) (Nat.le_of_ble_eq_true rfl) (Nat.le_of_ble_eq_true rfl) (Nat.le_of_ble_eq_true rfl) (Nat.le_of_ble_eq_true rfl) (Nat.le_of_ble_eq_true rfl) dX7_init_151 (cnX5_init _) (fun a27 => ?_)
    refine TC_w (w' := [(b, .inr (7, [.ref z1, .ref z3, .ref z5, .ref z7, .ref z8, .ref z9, .ref z11, .ref z13, .ref z15, .ref z17, .int (0)])), (z1, .inr (6, [.int (0), .int (0), .int (0), .ref (a2 0), .ref (a2 1), .int (0), .int (0), .int (0), .int (0), .int (0)])), ((a2 0), .inl ((xcA X) 9, 160, .inl (lf []))), ((a2 1), .inl ((xcA X) 10, 4, .inl (lf []))), (z3, .inr (4, [.int (0), .int (0), .int (1), .int (30), .int (0), .ref (a4 0), .ref (a4 1), .ref (a4 2), .ref (a4 3), .ref (a4 4), .ref (a4 5), .ref (a4 6)])), ((a4 0), .inl ((xcA X) 10, 10, .inl (lf []))), ((a4 1), .inl ((xcA X) 10, 10, .inl (lf []))), ((a4 2), .inl ((xcA X) 10, 10, .inl (lf []))), ((a4 3), .inl ((xcA X) 10, 4, .inl (lf []))), ((a4 4), .inl ((xcA X) 10, 4, .inl (lf []))), ((a4 5), .inl ((xcA X) 10, 4, .inl (lf []))), ((a4 6), .inl ((xcA X) 10, 4, .inl (lf []))), (z5, .inr (4, [.int (0), .int (0), .int (1), .int (30), .int (0), .ref (a6 0), .ref (a6 1), .ref (a6 2), .ref (a6 3), .ref (a6 4), .ref (a6 5), .ref (a6 6)])), ((a6 0), .inl ((xcA X) 10, 10, .inl (lf []))), ((a6 1), .inl ((xcA X) 10, 10, .inl (lf []))), ((a6 2), .inl ((xcA X) 10, 10, .inl (lf []))), ((a6 3), .inl ((xcA X) 10, 4, .inl (lf []))), ((a6 4), .inl ((xcA X) 10, 4, .inl (lf []))), ((a6 5), .inl ((xcA X) 10, 4, .inl (lf []))), ((a6 6), .inl ((xcA X) 10, 4, .inl (lf []))), (z7, .inl ((xcA X) 13, 2, .inr (.inr (.inr (.inr (va_up (va_up (fun _ => none) 0 (some z18)) 1 (some z20))))))), (z8, .inl ((xcA X) 12, 2, .inl (lf []))), (z9, .inr (1, [.ref (a10 0), .ref (a10 1)])), ((a10 0), .inl ((xcA X) 10, 10, .inl (lf []))), ((a10 1), .inl ((xcA X) 10, 10, .inl (lf []))), (z11, .inr (3, [.int (0), .int (0), .ref (a12 0), .ref (a12 1), .ref (a12 2), .ref (a12 3)])), ((a12 0), .inl ((xcA X) 10, 4, .inl (lf []))), ((a12 1), .inl ((xcA X) 10, 4, .inl (lf []))), ((a12 2), .inl ((xcA X) 10, 10, .inl (lf []))), ((a12 3), .inl ((xcA X) 10, 16, .inl (lf []))), (z13, .inr (0, [.ref (a14 0), .ref (a14 1)])), ((a14 0), .inl ((xcA X) 11, 16, .inr (.inl (fun _ => 0)))), ((a14 1), .inl ((xcA X) 11, 16, .inr (.inl (fun _ => 0)))), (z15, .inr (2, [.int (0), .ref (a16 0), .ref (a16 1), .ref (a16 2), .ref (a16 3), .ref (a16 11), .ref (a16 17)])), ((a16 0), .inl ((xcA X) 10, 4, .inl (lf []))), ((a16 1), .inl ((xcA X) 10, 6, .inl (lf []))), ((a16 2), .inl ((xcA X) 10, 6, .inl (lf []))), ((a16 3), .inr (4, [.int (0), .int (0), .int (1), .int (30), .int (0), .ref (a16 4), .ref (a16 5), .ref (a16 6), .ref (a16 7), .ref (a16 8), .ref (a16 9), .ref (a16 10)])), ((a16 4), .inl ((xcA X) 10, 10, .inl (lf []))), ((a16 5), .inl ((xcA X) 10, 10, .inl (lf []))), ((a16 6), .inl ((xcA X) 10, 10, .inl (lf []))), ((a16 7), .inl ((xcA X) 10, 4, .inl (lf []))), ((a16 8), .inl ((xcA X) 10, 4, .inl (lf []))), ((a16 9), .inl ((xcA X) 10, 4, .inl (lf []))), ((a16 10), .inl ((xcA X) 10, 4, .inl (lf []))), ((a16 11), .inl ((xcA X) 15, 5, .inr (.inr (.inr (.inr (gq [(a16 12), (a16 13), (a16 14), (a16 15), (a16 16)])))))), ((a16 12), .inl ((xcA X) 10, 10, .inl (lf []))), ((a16 13), .inl ((xcA X) 10, 10, .inl (lf []))), ((a16 14), .inl ((xcA X) 10, 10, .inl (lf []))), ((a16 15), .inl ((xcA X) 10, 10, .inl (lf []))), ((a16 16), .inl ((xcA X) 10, 10, .inl (lf []))), ((a16 17), .inl ((xcA X) 15, 4, .inr (.inr (.inr (.inr (gq [(a16 18), (a16 19), (a16 20), (a16 21)])))))), ((a16 18), .inl ((xcA X) 10, 10, .inl (lf []))), ((a16 19), .inl ((xcA X) 10, 10, .inl (lf []))), ((a16 20), .inl ((xcA X) 10, 10, .inl (lf []))), ((a16 21), .inl ((xcA X) 10, 10, .inl (lf []))), (z17, .inl ((xcA X) 14, 4, .inr (.inr (.inr (.inr (va_up (va_up (fun _ => none) 0 (some z22)) 1 (some z24))))))), (z18, .inr (4, [.int (0), .int (0), .int (1), .int (30), .int (0), .ref (a19 0), .ref (a19 1), .ref (a19 2), .ref (a19 3), .ref (a19 4), .ref (a19 5), .ref (a19 6)])), ((a19 0), .inl ((xcA X) 10, 10, .inl (lf []))), ((a19 1), .inl ((xcA X) 10, 10, .inl (lf []))), ((a19 2), .inl ((xcA X) 10, 10, .inl (lf []))), ((a19 3), .inl ((xcA X) 10, 4, .inl (lf []))), ((a19 4), .inl ((xcA X) 10, 4, .inl (lf []))), ((a19 5), .inl ((xcA X) 10, 4, .inl (lf []))), ((a19 6), .inl ((xcA X) 10, 4, .inl (lf []))), (z20, .inr (4, [.int (0), .int (0), .int (1), .int (30), .int (0), .ref (a21 0), .ref (a21 1), .ref (a21 2), .ref (a21 3), .ref (a21 4), .ref (a21 5), .ref (a21 6)])), ((a21 0), .inl ((xcA X) 10, 10, .inl (lf []))), ((a21 1), .inl ((xcA X) 10, 10, .inl (lf []))), ((a21 2), .inl ((xcA X) 10, 10, .inl (lf []))), ((a21 3), .inl ((xcA X) 10, 4, .inl (lf []))), ((a21 4), .inl ((xcA X) 10, 4, .inl (lf []))), ((a21 5), .inl ((xcA X) 10, 4, .inl (lf []))), ((a21 6), .inl ((xcA X) 10, 4, .inl (lf []))), (z22, .inr (5, [.int (0), .ref (a23 0), .int (-1)])), ((a23 0), .inl ((xcA X) 10, 40, .inl (lf []))), (z24, .inr (5, [.int (0), .ref (a25 0), .int (-1)])), ((a25 0), .inl ((xcA X) 10, 40, .inl (lf []))), (z26, .inr (5, [.int (0), .ref (a27 0), .int (-1)])), ((a27 0), .inl ((xcA X) 10, 40, .inl (lf [])))]) (by simp only [wcX5_init, List.cons_append, List.nil_append]) ?_
    refine TC_n (c2 := 78) (s2 := 819) rfl rfl ?_
    refine TC_aast (i := 56) (j := 77) (w' := [(b, .inr (7, [.ref z1, .ref z3, .ref z5, .ref z7, .ref z8, .ref z9, .ref z11, .ref z13, .ref z15, .ref z17, .int (0)])), (z1, .inr (6, [.int (0), .int (0), .int (0), .ref (a2 0), .ref (a2 1), .int (0), .int (0), .int (0), .int (0), .int (0)])), ((a2 0), .inl ((xcA X) 9, 160, .inl (lf []))), ((a2 1), .inl ((xcA X) 10, 4, .inl (lf []))), (z3, .inr (4, [.int (0), .int (0), .int (1), .int (30), .int (0), .ref (a4 0), .ref (a4 1), .ref (a4 2), .ref (a4 3), .ref (a4 4), .ref (a4 5), .ref (a4 6)])), ((a4 0), .inl ((xcA X) 10, 10, .inl (lf []))), ((a4 1), .inl ((xcA X) 10, 10, .inl (lf []))), ((a4 2), .inl ((xcA X) 10, 10, .inl (lf []))), ((a4 3), .inl ((xcA X) 10, 4, .inl (lf []))), ((a4 4), .inl ((xcA X) 10, 4, .inl (lf []))), ((a4 5), .inl ((xcA X) 10, 4, .inl (lf []))), ((a4 6), .inl ((xcA X) 10, 4, .inl (lf []))), (z5, .inr (4, [.int (0), .int (0), .int (1), .int (30), .int (0), .ref (a6 0), .ref (a6 1), .ref (a6 2), .ref (a6 3), .ref (a6 4), .ref (a6 5), .ref (a6 6)])), ((a6 0), .inl ((xcA X) 10, 10, .inl (lf []))), ((a6 1), .inl ((xcA X) 10, 10, .inl (lf []))), ((a6 2), .inl ((xcA X) 10, 10, .inl (lf []))), ((a6 3), .inl ((xcA X) 10, 4, .inl (lf []))), ((a6 4), .inl ((xcA X) 10, 4, .inl (lf []))), ((a6 5), .inl ((xcA X) 10, 4, .inl (lf []))), ((a6 6), .inl ((xcA X) 10, 4, .inl (lf []))), (z7, .inl ((xcA X) 13, 2, .inr (.inr (.inr (.inr (va_up (va_up (fun _ => none) 0 (some z18)) 1 (some z20))))))), (z8, .inl ((xcA X) 12, 2, .inl (lf []))), (z9, .inr (1, [.ref (a10 0), .ref (a10 1)])), ((a10 0), .inl ((xcA X) 10, 10, .inl (lf []))), ((a10 1), .inl ((xcA X) 10, 10, .inl (lf []))), (z11, .inr (3, [.int (0), .int (0), .ref (a12 0), .ref (a12 1), .ref (a12 2), .ref (a12 3)])), ((a12 0), .inl ((xcA X) 10, 4, .inl (lf []))), ((a12 1), .inl ((xcA X) 10, 4, .inl (lf []))), ((a12 2), .inl ((xcA X) 10, 10, .inl (lf []))), ((a12 3), .inl ((xcA X) 10, 16, .inl (lf []))), (z13, .inr (0, [.ref (a14 0), .ref (a14 1)])), ((a14 0), .inl ((xcA X) 11, 16, .inr (.inl (fun _ => 0)))), ((a14 1), .inl ((xcA X) 11, 16, .inr (.inl (fun _ => 0)))), (z15, .inr (2, [.int (0), .ref (a16 0), .ref (a16 1), .ref (a16 2), .ref (a16 3), .ref (a16 11), .ref (a16 17)])), ((a16 0), .inl ((xcA X) 10, 4, .inl (lf []))), ((a16 1), .inl ((xcA X) 10, 6, .inl (lf []))), ((a16 2), .inl ((xcA X) 10, 6, .inl (lf []))), ((a16 3), .inr (4, [.int (0), .int (0), .int (1), .int (30), .int (0), .ref (a16 4), .ref (a16 5), .ref (a16 6), .ref (a16 7), .ref (a16 8), .ref (a16 9), .ref (a16 10)])), ((a16 4), .inl ((xcA X) 10, 10, .inl (lf []))), ((a16 5), .inl ((xcA X) 10, 10, .inl (lf []))), ((a16 6), .inl ((xcA X) 10, 10, .inl (lf []))), ((a16 7), .inl ((xcA X) 10, 4, .inl (lf []))), ((a16 8), .inl ((xcA X) 10, 4, .inl (lf []))), ((a16 9), .inl ((xcA X) 10, 4, .inl (lf []))), ((a16 10), .inl ((xcA X) 10, 4, .inl (lf []))), ((a16 11), .inl ((xcA X) 15, 5, .inr (.inr (.inr (.inr (gq [(a16 12), (a16 13), (a16 14), (a16 15), (a16 16)])))))), ((a16 12), .inl ((xcA X) 10, 10, .inl (lf []))), ((a16 13), .inl ((xcA X) 10, 10, .inl (lf []))), ((a16 14), .inl ((xcA X) 10, 10, .inl (lf []))), ((a16 15), .inl ((xcA X) 10, 10, .inl (lf []))), ((a16 16), .inl ((xcA X) 10, 10, .inl (lf []))), ((a16 17), .inl ((xcA X) 15, 4, .inr (.inr (.inr (.inr (gq [(a16 18), (a16 19), (a16 20), (a16 21)])))))), ((a16 18), .inl ((xcA X) 10, 10, .inl (lf []))), ((a16 19), .inl ((xcA X) 10, 10, .inl (lf []))), ((a16 20), .inl ((xcA X) 10, 10, .inl (lf []))), ((a16 21), .inl ((xcA X) 10, 10, .inl (lf []))), (z17, .inl ((xcA X) 14, 4, .inr (.inr (.inr (.inr (va_up (va_up (va_up (fun _ => none) 0 (some z22)) 1 (some z24)) 2 (some z26))))))), (z18, .inr (4, [.int (0), .int (0), .int (1), .int (30), .int (0), .ref (a19 0), .ref (a19 1), .ref (a19 2), .ref (a19 3), .ref (a19 4), .ref (a19 5), .ref (a19 6)])), ((a19 0), .inl ((xcA X) 10, 10, .inl (lf []))), ((a19 1), .inl ((xcA X) 10, 10, .inl (lf []))), ((a19 2), .inl ((xcA X) 10, 10, .inl (lf []))), ((a19 3), .inl ((xcA X) 10, 4, .inl (lf []))), ((a19 4), .inl ((xcA X) 10, 4, .inl (lf []))), ((a19 5), .inl ((xcA X) 10, 4, .inl (lf []))), ((a19 6), .inl ((xcA X) 10, 4, .inl (lf []))), (z20, .inr (4, [.int (0), .int (0), .int (1), .int (30), .int (0), .ref (a21 0), .ref (a21 1), .ref (a21 2), .ref (a21 3), .ref (a21 4), .ref (a21 5), .ref (a21 6)])), ((a21 0), .inl ((xcA X) 10, 10, .inl (lf []))), ((a21 1), .inl ((xcA X) 10, 10, .inl (lf []))), ((a21 2), .inl ((xcA X) 10, 10, .inl (lf []))), ((a21 3), .inl ((xcA X) 10, 4, .inl (lf []))), ((a21 4), .inl ((xcA X) 10, 4, .inl (lf []))), ((a21 5), .inl ((xcA X) 10, 4, .inl (lf []))), ((a21 6), .inl ((xcA X) 10, 4, .inl (lf []))), (z22, .inr (5, [.int (0), .ref (a23 0), .int (-1)])), ((a23 0), .inl ((xcA X) 10, 40, .inl (lf []))), (z24, .inr (5, [.int (0), .ref (a25 0), .int (-1)])), ((a25 0), .inl ((xcA X) 10, 40, .inl (lf []))), (z26, .inr (5, [.int (0), .ref (a27 0), .int (-1)])), ((a27 0), .inl ((xcA X) 10, 40, .inl (lf [])))]) 5 14 rfl rfl rfl rfl (by unfold vp_in; decide) rfl dX7_init_154 ?_
    refine TC_iinc (lv' := [(1, .int (3)), (0, .ref b)]) 0 (3) rfl (by decide) (Nat.le_of_ble_eq_true rfl) rfl dX7_init_155 ?_
    refine TC_goto 137 dX7_init_158 (by decide) ?_
    refine TC_iload_n 0 rfl rfl dX7_init_137 ?_
    refine TC_iconst (4) (by decide) dX7_init_138 ?_
    refine TC_geF 161 (by decide) dX7_init_139 (by decide) ?_
    refine TC_aload_n 1 rfl rfl dX7_init_142 ?_
    refine TC_getR (c := 7) (i := 0) (k := 9) (v := .ref z17) rfl (by decide) rfl kfX7_64 rfl rfl dX7_init_143 ?_
    refine TC_iload_n 0 rfl rfl dX7_init_146 ?_
    refine TC_new (c := 5) (fs := fz5) rfl df5 kcX7_62 ki5 kn5 (Nat.le_of_ble_eq_true rfl) (Nat.le_of_ble_eq_true rfl) dX7_init_147 (fun z28 => ?_)
    refine TC_w (w' := [(b, .inr (7, [.ref z1, .ref z3, .ref z5, .ref z7, .ref z8, .ref z9, .ref z11, .ref z13, .ref z15, .ref z17, .int (0)])), (z1, .inr (6, [.int (0), .int (0), .int (0), .ref (a2 0), .ref (a2 1), .int (0), .int (0), .int (0), .int (0), .int (0)])), ((a2 0), .inl ((xcA X) 9, 160, .inl (lf []))), ((a2 1), .inl ((xcA X) 10, 4, .inl (lf []))), (z3, .inr (4, [.int (0), .int (0), .int (1), .int (30), .int (0), .ref (a4 0), .ref (a4 1), .ref (a4 2), .ref (a4 3), .ref (a4 4), .ref (a4 5), .ref (a4 6)])), ((a4 0), .inl ((xcA X) 10, 10, .inl (lf []))), ((a4 1), .inl ((xcA X) 10, 10, .inl (lf []))), ((a4 2), .inl ((xcA X) 10, 10, .inl (lf []))), ((a4 3), .inl ((xcA X) 10, 4, .inl (lf []))), ((a4 4), .inl ((xcA X) 10, 4, .inl (lf []))), ((a4 5), .inl ((xcA X) 10, 4, .inl (lf []))), ((a4 6), .inl ((xcA X) 10, 4, .inl (lf []))), (z5, .inr (4, [.int (0), .int (0), .int (1), .int (30), .int (0), .ref (a6 0), .ref (a6 1), .ref (a6 2), .ref (a6 3), .ref (a6 4), .ref (a6 5), .ref (a6 6)])), ((a6 0), .inl ((xcA X) 10, 10, .inl (lf []))), ((a6 1), .inl ((xcA X) 10, 10, .inl (lf []))), ((a6 2), .inl ((xcA X) 10, 10, .inl (lf []))), ((a6 3), .inl ((xcA X) 10, 4, .inl (lf []))), ((a6 4), .inl ((xcA X) 10, 4, .inl (lf []))), ((a6 5), .inl ((xcA X) 10, 4, .inl (lf []))), ((a6 6), .inl ((xcA X) 10, 4, .inl (lf []))), (z7, .inl ((xcA X) 13, 2, .inr (.inr (.inr (.inr (va_up (va_up (fun _ => none) 0 (some z18)) 1 (some z20))))))), (z8, .inl ((xcA X) 12, 2, .inl (lf []))), (z9, .inr (1, [.ref (a10 0), .ref (a10 1)])), ((a10 0), .inl ((xcA X) 10, 10, .inl (lf []))), ((a10 1), .inl ((xcA X) 10, 10, .inl (lf []))), (z11, .inr (3, [.int (0), .int (0), .ref (a12 0), .ref (a12 1), .ref (a12 2), .ref (a12 3)])), ((a12 0), .inl ((xcA X) 10, 4, .inl (lf []))), ((a12 1), .inl ((xcA X) 10, 4, .inl (lf []))), ((a12 2), .inl ((xcA X) 10, 10, .inl (lf []))), ((a12 3), .inl ((xcA X) 10, 16, .inl (lf []))), (z13, .inr (0, [.ref (a14 0), .ref (a14 1)])), ((a14 0), .inl ((xcA X) 11, 16, .inr (.inl (fun _ => 0)))), ((a14 1), .inl ((xcA X) 11, 16, .inr (.inl (fun _ => 0)))), (z15, .inr (2, [.int (0), .ref (a16 0), .ref (a16 1), .ref (a16 2), .ref (a16 3), .ref (a16 11), .ref (a16 17)])), ((a16 0), .inl ((xcA X) 10, 4, .inl (lf []))), ((a16 1), .inl ((xcA X) 10, 6, .inl (lf []))), ((a16 2), .inl ((xcA X) 10, 6, .inl (lf []))), ((a16 3), .inr (4, [.int (0), .int (0), .int (1), .int (30), .int (0), .ref (a16 4), .ref (a16 5), .ref (a16 6), .ref (a16 7), .ref (a16 8), .ref (a16 9), .ref (a16 10)])), ((a16 4), .inl ((xcA X) 10, 10, .inl (lf []))), ((a16 5), .inl ((xcA X) 10, 10, .inl (lf []))), ((a16 6), .inl ((xcA X) 10, 10, .inl (lf []))), ((a16 7), .inl ((xcA X) 10, 4, .inl (lf []))), ((a16 8), .inl ((xcA X) 10, 4, .inl (lf []))), ((a16 9), .inl ((xcA X) 10, 4, .inl (lf []))), ((a16 10), .inl ((xcA X) 10, 4, .inl (lf []))), ((a16 11), .inl ((xcA X) 15, 5, .inr (.inr (.inr (.inr (gq [(a16 12), (a16 13), (a16 14), (a16 15), (a16 16)])))))), ((a16 12), .inl ((xcA X) 10, 10, .inl (lf []))), ((a16 13), .inl ((xcA X) 10, 10, .inl (lf []))), ((a16 14), .inl ((xcA X) 10, 10, .inl (lf []))), ((a16 15), .inl ((xcA X) 10, 10, .inl (lf []))), ((a16 16), .inl ((xcA X) 10, 10, .inl (lf []))), ((a16 17), .inl ((xcA X) 15, 4, .inr (.inr (.inr (.inr (gq [(a16 18), (a16 19), (a16 20), (a16 21)])))))), ((a16 18), .inl ((xcA X) 10, 10, .inl (lf []))), ((a16 19), .inl ((xcA X) 10, 10, .inl (lf []))), ((a16 20), .inl ((xcA X) 10, 10, .inl (lf []))), ((a16 21), .inl ((xcA X) 10, 10, .inl (lf []))), (z17, .inl ((xcA X) 14, 4, .inr (.inr (.inr (.inr (va_up (va_up (va_up (fun _ => none) 0 (some z22)) 1 (some z24)) 2 (some z26))))))), (z18, .inr (4, [.int (0), .int (0), .int (1), .int (30), .int (0), .ref (a19 0), .ref (a19 1), .ref (a19 2), .ref (a19 3), .ref (a19 4), .ref (a19 5), .ref (a19 6)])), ((a19 0), .inl ((xcA X) 10, 10, .inl (lf []))), ((a19 1), .inl ((xcA X) 10, 10, .inl (lf []))), ((a19 2), .inl ((xcA X) 10, 10, .inl (lf []))), ((a19 3), .inl ((xcA X) 10, 4, .inl (lf []))), ((a19 4), .inl ((xcA X) 10, 4, .inl (lf []))), ((a19 5), .inl ((xcA X) 10, 4, .inl (lf []))), ((a19 6), .inl ((xcA X) 10, 4, .inl (lf []))), (z20, .inr (4, [.int (0), .int (0), .int (1), .int (30), .int (0), .ref (a21 0), .ref (a21 1), .ref (a21 2), .ref (a21 3), .ref (a21 4), .ref (a21 5), .ref (a21 6)])), ((a21 0), .inl ((xcA X) 10, 10, .inl (lf []))), ((a21 1), .inl ((xcA X) 10, 10, .inl (lf []))), ((a21 2), .inl ((xcA X) 10, 10, .inl (lf []))), ((a21 3), .inl ((xcA X) 10, 4, .inl (lf []))), ((a21 4), .inl ((xcA X) 10, 4, .inl (lf []))), ((a21 5), .inl ((xcA X) 10, 4, .inl (lf []))), ((a21 6), .inl ((xcA X) 10, 4, .inl (lf []))), (z22, .inr (5, [.int (0), .ref (a23 0), .int (-1)])), ((a23 0), .inl ((xcA X) 10, 40, .inl (lf []))), (z24, .inr (5, [.int (0), .ref (a25 0), .int (-1)])), ((a25 0), .inl ((xcA X) 10, 40, .inl (lf []))), (z26, .inr (5, [.int (0), .ref (a27 0), .int (-1)])), ((a27 0), .inl ((xcA X) 10, 40, .inl (lf []))), (z28, .inr (5, fz5))]) rfl ?_
    refine TC_n (c2 := 79) (s2 := 822) rfl rfl ?_
    refine TC_dup rfl dX7_init_150 ?_
    refine TC_callN (q := qX7_init) (index := 72) (b := z28) (c := 5) [(b, .inr (7, [.ref z1, .ref z3, .ref z5, .ref z7, .ref z8, .ref z9, .ref z11, .ref z13, .ref z15, .ref z17, .int (0)])), (z1, .inr (6, [.int (0), .int (0), .int (0), .ref (a2 0), .ref (a2 1), .int (0), .int (0), .int (0), .int (0), .int (0)])), ((a2 0), .inl ((xcA X) 9, 160, .inl (lf []))), ((a2 1), .inl ((xcA X) 10, 4, .inl (lf []))), (z3, .inr (4, [.int (0), .int (0), .int (1), .int (30), .int (0), .ref (a4 0), .ref (a4 1), .ref (a4 2), .ref (a4 3), .ref (a4 4), .ref (a4 5), .ref (a4 6)])), ((a4 0), .inl ((xcA X) 10, 10, .inl (lf []))), ((a4 1), .inl ((xcA X) 10, 10, .inl (lf []))), ((a4 2), .inl ((xcA X) 10, 10, .inl (lf []))), ((a4 3), .inl ((xcA X) 10, 4, .inl (lf []))), ((a4 4), .inl ((xcA X) 10, 4, .inl (lf []))), ((a4 5), .inl ((xcA X) 10, 4, .inl (lf []))), ((a4 6), .inl ((xcA X) 10, 4, .inl (lf []))), (z5, .inr (4, [.int (0), .int (0), .int (1), .int (30), .int (0), .ref (a6 0), .ref (a6 1), .ref (a6 2), .ref (a6 3), .ref (a6 4), .ref (a6 5), .ref (a6 6)])), ((a6 0), .inl ((xcA X) 10, 10, .inl (lf []))), ((a6 1), .inl ((xcA X) 10, 10, .inl (lf []))), ((a6 2), .inl ((xcA X) 10, 10, .inl (lf []))), ((a6 3), .inl ((xcA X) 10, 4, .inl (lf []))), ((a6 4), .inl ((xcA X) 10, 4, .inl (lf []))), ((a6 5), .inl ((xcA X) 10, 4, .inl (lf []))), ((a6 6), .inl ((xcA X) 10, 4, .inl (lf []))), (z7, .inl ((xcA X) 13, 2, .inr (.inr (.inr (.inr (va_up (va_up (fun _ => none) 0 (some z18)) 1 (some z20))))))), (z8, .inl ((xcA X) 12, 2, .inl (lf []))), (z9, .inr (1, [.ref (a10 0), .ref (a10 1)])), ((a10 0), .inl ((xcA X) 10, 10, .inl (lf []))), ((a10 1), .inl ((xcA X) 10, 10, .inl (lf []))), (z11, .inr (3, [.int (0), .int (0), .ref (a12 0), .ref (a12 1), .ref (a12 2), .ref (a12 3)])), ((a12 0), .inl ((xcA X) 10, 4, .inl (lf []))), ((a12 1), .inl ((xcA X) 10, 4, .inl (lf []))), ((a12 2), .inl ((xcA X) 10, 10, .inl (lf []))), ((a12 3), .inl ((xcA X) 10, 16, .inl (lf []))), (z13, .inr (0, [.ref (a14 0), .ref (a14 1)])), ((a14 0), .inl ((xcA X) 11, 16, .inr (.inl (fun _ => 0)))), ((a14 1), .inl ((xcA X) 11, 16, .inr (.inl (fun _ => 0)))), (z15, .inr (2, [.int (0), .ref (a16 0), .ref (a16 1), .ref (a16 2), .ref (a16 3), .ref (a16 11), .ref (a16 17)])), ((a16 0), .inl ((xcA X) 10, 4, .inl (lf []))), ((a16 1), .inl ((xcA X) 10, 6, .inl (lf []))), ((a16 2), .inl ((xcA X) 10, 6, .inl (lf []))), ((a16 3), .inr (4, [.int (0), .int (0), .int (1), .int (30), .int (0), .ref (a16 4), .ref (a16 5), .ref (a16 6), .ref (a16 7), .ref (a16 8), .ref (a16 9), .ref (a16 10)])), ((a16 4), .inl ((xcA X) 10, 10, .inl (lf []))), ((a16 5), .inl ((xcA X) 10, 10, .inl (lf []))), ((a16 6), .inl ((xcA X) 10, 10, .inl (lf []))), ((a16 7), .inl ((xcA X) 10, 4, .inl (lf []))), ((a16 8), .inl ((xcA X) 10, 4, .inl (lf []))), ((a16 9), .inl ((xcA X) 10, 4, .inl (lf []))), ((a16 10), .inl ((xcA X) 10, 4, .inl (lf []))), ((a16 11), .inl ((xcA X) 15, 5, .inr (.inr (.inr (.inr (gq [(a16 12), (a16 13), (a16 14), (a16 15), (a16 16)])))))), ((a16 12), .inl ((xcA X) 10, 10, .inl (lf []))), ((a16 13), .inl ((xcA X) 10, 10, .inl (lf []))), ((a16 14), .inl ((xcA X) 10, 10, .inl (lf []))), ((a16 15), .inl ((xcA X) 10, 10, .inl (lf []))), ((a16 16), .inl ((xcA X) 10, 10, .inl (lf []))), ((a16 17), .inl ((xcA X) 15, 4, .inr (.inr (.inr (.inr (gq [(a16 18), (a16 19), (a16 20), (a16 21)])))))), ((a16 18), .inl ((xcA X) 10, 10, .inl (lf []))), ((a16 19), .inl ((xcA X) 10, 10, .inl (lf []))), ((a16 20), .inl ((xcA X) 10, 10, .inl (lf []))), ((a16 21), .inl ((xcA X) 10, 10, .inl (lf []))), (z17, .inl ((xcA X) 14, 4, .inr (.inr (.inr (.inr (va_up (va_up (va_up (fun _ => none) 0 (some z22)) 1 (some z24)) 2 (some z26))))))), (z18, .inr (4, [.int (0), .int (0), .int (1), .int (30), .int (0), .ref (a19 0), .ref (a19 1), .ref (a19 2), .ref (a19 3), .ref (a19 4), .ref (a19 5), .ref (a19 6)])), ((a19 0), .inl ((xcA X) 10, 10, .inl (lf []))), ((a19 1), .inl ((xcA X) 10, 10, .inl (lf []))), ((a19 2), .inl ((xcA X) 10, 10, .inl (lf []))), ((a19 3), .inl ((xcA X) 10, 4, .inl (lf []))), ((a19 4), .inl ((xcA X) 10, 4, .inl (lf []))), ((a19 5), .inl ((xcA X) 10, 4, .inl (lf []))), ((a19 6), .inl ((xcA X) 10, 4, .inl (lf []))), (z20, .inr (4, [.int (0), .int (0), .int (1), .int (30), .int (0), .ref (a21 0), .ref (a21 1), .ref (a21 2), .ref (a21 3), .ref (a21 4), .ref (a21 5), .ref (a21 6)])), ((a21 0), .inl ((xcA X) 10, 10, .inl (lf []))), ((a21 1), .inl ((xcA X) 10, 10, .inl (lf []))), ((a21 2), .inl ((xcA X) 10, 10, .inl (lf []))), ((a21 3), .inl ((xcA X) 10, 4, .inl (lf []))), ((a21 4), .inl ((xcA X) 10, 4, .inl (lf []))), ((a21 5), .inl ((xcA X) 10, 4, .inl (lf []))), ((a21 6), .inl ((xcA X) 10, 4, .inl (lf []))), (z22, .inr (5, [.int (0), .ref (a23 0), .int (-1)])), ((a23 0), .inl ((xcA X) 10, 40, .inl (lf []))), (z24, .inr (5, [.int (0), .ref (a25 0), .int (-1)])), ((a25 0), .inl ((xcA X) 10, 40, .inl (lf []))), (z26, .inr (5, [.int (0), .ref (a27 0), .int (-1)])), ((a27 0), .inl ((xcA X) 10, 40, .inl (lf [])))] [.ref z28, .int (3), .ref z17] (by simp only [List.cons_append, List.nil_append]) mkX5_init imX5_init rfl rfl (by decide +kernel) (Nat.le_of_ble_eq_true rfl) (Nat.le_of_ble_eq_true rfl) (Nat.le_of_ble_eq_true rfl) (Nat.le_of_ble_eq_true rfl) (Nat.le_of_ble_eq_true rfl) dX7_init_151 (cnX5_init _) (fun a29 => ?_)
    refine TC_w (w' := [(b, .inr (7, [.ref z1, .ref z3, .ref z5, .ref z7, .ref z8, .ref z9, .ref z11, .ref z13, .ref z15, .ref z17, .int (0)])), (z1, .inr (6, [.int (0), .int (0), .int (0), .ref (a2 0), .ref (a2 1), .int (0), .int (0), .int (0), .int (0), .int (0)])), ((a2 0), .inl ((xcA X) 9, 160, .inl (lf []))), ((a2 1), .inl ((xcA X) 10, 4, .inl (lf []))), (z3, .inr (4, [.int (0), .int (0), .int (1), .int (30), .int (0), .ref (a4 0), .ref (a4 1), .ref (a4 2), .ref (a4 3), .ref (a4 4), .ref (a4 5), .ref (a4 6)])), ((a4 0), .inl ((xcA X) 10, 10, .inl (lf []))), ((a4 1), .inl ((xcA X) 10, 10, .inl (lf []))), ((a4 2), .inl ((xcA X) 10, 10, .inl (lf []))), ((a4 3), .inl ((xcA X) 10, 4, .inl (lf []))), ((a4 4), .inl ((xcA X) 10, 4, .inl (lf []))), ((a4 5), .inl ((xcA X) 10, 4, .inl (lf []))), ((a4 6), .inl ((xcA X) 10, 4, .inl (lf []))), (z5, .inr (4, [.int (0), .int (0), .int (1), .int (30), .int (0), .ref (a6 0), .ref (a6 1), .ref (a6 2), .ref (a6 3), .ref (a6 4), .ref (a6 5), .ref (a6 6)])), ((a6 0), .inl ((xcA X) 10, 10, .inl (lf []))), ((a6 1), .inl ((xcA X) 10, 10, .inl (lf []))), ((a6 2), .inl ((xcA X) 10, 10, .inl (lf []))), ((a6 3), .inl ((xcA X) 10, 4, .inl (lf []))), ((a6 4), .inl ((xcA X) 10, 4, .inl (lf []))), ((a6 5), .inl ((xcA X) 10, 4, .inl (lf []))), ((a6 6), .inl ((xcA X) 10, 4, .inl (lf []))), (z7, .inl ((xcA X) 13, 2, .inr (.inr (.inr (.inr (va_up (va_up (fun _ => none) 0 (some z18)) 1 (some z20))))))), (z8, .inl ((xcA X) 12, 2, .inl (lf []))), (z9, .inr (1, [.ref (a10 0), .ref (a10 1)])), ((a10 0), .inl ((xcA X) 10, 10, .inl (lf []))), ((a10 1), .inl ((xcA X) 10, 10, .inl (lf []))), (z11, .inr (3, [.int (0), .int (0), .ref (a12 0), .ref (a12 1), .ref (a12 2), .ref (a12 3)])), ((a12 0), .inl ((xcA X) 10, 4, .inl (lf []))), ((a12 1), .inl ((xcA X) 10, 4, .inl (lf []))), ((a12 2), .inl ((xcA X) 10, 10, .inl (lf []))), ((a12 3), .inl ((xcA X) 10, 16, .inl (lf []))), (z13, .inr (0, [.ref (a14 0), .ref (a14 1)])), ((a14 0), .inl ((xcA X) 11, 16, .inr (.inl (fun _ => 0)))), ((a14 1), .inl ((xcA X) 11, 16, .inr (.inl (fun _ => 0)))), (z15, .inr (2, [.int (0), .ref (a16 0), .ref (a16 1), .ref (a16 2), .ref (a16 3), .ref (a16 11), .ref (a16 17)])), ((a16 0), .inl ((xcA X) 10, 4, .inl (lf []))), ((a16 1), .inl ((xcA X) 10, 6, .inl (lf []))), ((a16 2), .inl ((xcA X) 10, 6, .inl (lf []))), ((a16 3), .inr (4, [.int (0), .int (0), .int (1), .int (30), .int (0), .ref (a16 4), .ref (a16 5), .ref (a16 6), .ref (a16 7), .ref (a16 8), .ref (a16 9), .ref (a16 10)])), ((a16 4), .inl ((xcA X) 10, 10, .inl (lf []))), ((a16 5), .inl ((xcA X) 10, 10, .inl (lf []))), ((a16 6), .inl ((xcA X) 10, 10, .inl (lf []))), ((a16 7), .inl ((xcA X) 10, 4, .inl (lf []))), ((a16 8), .inl ((xcA X) 10, 4, .inl (lf []))), ((a16 9), .inl ((xcA X) 10, 4, .inl (lf []))), ((a16 10), .inl ((xcA X) 10, 4, .inl (lf []))), ((a16 11), .inl ((xcA X) 15, 5, .inr (.inr (.inr (.inr (gq [(a16 12), (a16 13), (a16 14), (a16 15), (a16 16)])))))), ((a16 12), .inl ((xcA X) 10, 10, .inl (lf []))), ((a16 13), .inl ((xcA X) 10, 10, .inl (lf []))), ((a16 14), .inl ((xcA X) 10, 10, .inl (lf []))), ((a16 15), .inl ((xcA X) 10, 10, .inl (lf []))), ((a16 16), .inl ((xcA X) 10, 10, .inl (lf []))), ((a16 17), .inl ((xcA X) 15, 4, .inr (.inr (.inr (.inr (gq [(a16 18), (a16 19), (a16 20), (a16 21)])))))), ((a16 18), .inl ((xcA X) 10, 10, .inl (lf []))), ((a16 19), .inl ((xcA X) 10, 10, .inl (lf []))), ((a16 20), .inl ((xcA X) 10, 10, .inl (lf []))), ((a16 21), .inl ((xcA X) 10, 10, .inl (lf []))), (z17, .inl ((xcA X) 14, 4, .inr (.inr (.inr (.inr (va_up (va_up (va_up (fun _ => none) 0 (some z22)) 1 (some z24)) 2 (some z26))))))), (z18, .inr (4, [.int (0), .int (0), .int (1), .int (30), .int (0), .ref (a19 0), .ref (a19 1), .ref (a19 2), .ref (a19 3), .ref (a19 4), .ref (a19 5), .ref (a19 6)])), ((a19 0), .inl ((xcA X) 10, 10, .inl (lf []))), ((a19 1), .inl ((xcA X) 10, 10, .inl (lf []))), ((a19 2), .inl ((xcA X) 10, 10, .inl (lf []))), ((a19 3), .inl ((xcA X) 10, 4, .inl (lf []))), ((a19 4), .inl ((xcA X) 10, 4, .inl (lf []))), ((a19 5), .inl ((xcA X) 10, 4, .inl (lf []))), ((a19 6), .inl ((xcA X) 10, 4, .inl (lf []))), (z20, .inr (4, [.int (0), .int (0), .int (1), .int (30), .int (0), .ref (a21 0), .ref (a21 1), .ref (a21 2), .ref (a21 3), .ref (a21 4), .ref (a21 5), .ref (a21 6)])), ((a21 0), .inl ((xcA X) 10, 10, .inl (lf []))), ((a21 1), .inl ((xcA X) 10, 10, .inl (lf []))), ((a21 2), .inl ((xcA X) 10, 10, .inl (lf []))), ((a21 3), .inl ((xcA X) 10, 4, .inl (lf []))), ((a21 4), .inl ((xcA X) 10, 4, .inl (lf []))), ((a21 5), .inl ((xcA X) 10, 4, .inl (lf []))), ((a21 6), .inl ((xcA X) 10, 4, .inl (lf []))), (z22, .inr (5, [.int (0), .ref (a23 0), .int (-1)])), ((a23 0), .inl ((xcA X) 10, 40, .inl (lf []))), (z24, .inr (5, [.int (0), .ref (a25 0), .int (-1)])), ((a25 0), .inl ((xcA X) 10, 40, .inl (lf []))), (z26, .inr (5, [.int (0), .ref (a27 0), .int (-1)])), ((a27 0), .inl ((xcA X) 10, 40, .inl (lf []))), (z28, .inr (5, [.int (0), .ref (a29 0), .int (-1)])), ((a29 0), .inl ((xcA X) 10, 40, .inl (lf [])))]) (by simp only [wcX5_init, List.cons_append, List.nil_append]) ?_
    refine TC_n (c2 := 80) (s2 := 862) rfl rfl ?_
    refine TC_aast (i := 56) (j := 79) (w' := [(b, .inr (7, [.ref z1, .ref z3, .ref z5, .ref z7, .ref z8, .ref z9, .ref z11, .ref z13, .ref z15, .ref z17, .int (0)])), (z1, .inr (6, [.int (0), .int (0), .int (0), .ref (a2 0), .ref (a2 1), .int (0), .int (0), .int (0), .int (0), .int (0)])), ((a2 0), .inl ((xcA X) 9, 160, .inl (lf []))), ((a2 1), .inl ((xcA X) 10, 4, .inl (lf []))), (z3, .inr (4, [.int (0), .int (0), .int (1), .int (30), .int (0), .ref (a4 0), .ref (a4 1), .ref (a4 2), .ref (a4 3), .ref (a4 4), .ref (a4 5), .ref (a4 6)])), ((a4 0), .inl ((xcA X) 10, 10, .inl (lf []))), ((a4 1), .inl ((xcA X) 10, 10, .inl (lf []))), ((a4 2), .inl ((xcA X) 10, 10, .inl (lf []))), ((a4 3), .inl ((xcA X) 10, 4, .inl (lf []))), ((a4 4), .inl ((xcA X) 10, 4, .inl (lf []))), ((a4 5), .inl ((xcA X) 10, 4, .inl (lf []))), ((a4 6), .inl ((xcA X) 10, 4, .inl (lf []))), (z5, .inr (4, [.int (0), .int (0), .int (1), .int (30), .int (0), .ref (a6 0), .ref (a6 1), .ref (a6 2), .ref (a6 3), .ref (a6 4), .ref (a6 5), .ref (a6 6)])), ((a6 0), .inl ((xcA X) 10, 10, .inl (lf []))), ((a6 1), .inl ((xcA X) 10, 10, .inl (lf []))), ((a6 2), .inl ((xcA X) 10, 10, .inl (lf []))), ((a6 3), .inl ((xcA X) 10, 4, .inl (lf []))), ((a6 4), .inl ((xcA X) 10, 4, .inl (lf []))), ((a6 5), .inl ((xcA X) 10, 4, .inl (lf []))), ((a6 6), .inl ((xcA X) 10, 4, .inl (lf []))), (z7, .inl ((xcA X) 13, 2, .inr (.inr (.inr (.inr (va_up (va_up (fun _ => none) 0 (some z18)) 1 (some z20))))))), (z8, .inl ((xcA X) 12, 2, .inl (lf []))), (z9, .inr (1, [.ref (a10 0), .ref (a10 1)])), ((a10 0), .inl ((xcA X) 10, 10, .inl (lf []))), ((a10 1), .inl ((xcA X) 10, 10, .inl (lf []))), (z11, .inr (3, [.int (0), .int (0), .ref (a12 0), .ref (a12 1), .ref (a12 2), .ref (a12 3)])), ((a12 0), .inl ((xcA X) 10, 4, .inl (lf []))), ((a12 1), .inl ((xcA X) 10, 4, .inl (lf []))), ((a12 2), .inl ((xcA X) 10, 10, .inl (lf []))), ((a12 3), .inl ((xcA X) 10, 16, .inl (lf []))), (z13, .inr (0, [.ref (a14 0), .ref (a14 1)])), ((a14 0), .inl ((xcA X) 11, 16, .inr (.inl (fun _ => 0)))), ((a14 1), .inl ((xcA X) 11, 16, .inr (.inl (fun _ => 0)))), (z15, .inr (2, [.int (0), .ref (a16 0), .ref (a16 1), .ref (a16 2), .ref (a16 3), .ref (a16 11), .ref (a16 17)])), ((a16 0), .inl ((xcA X) 10, 4, .inl (lf []))), ((a16 1), .inl ((xcA X) 10, 6, .inl (lf []))), ((a16 2), .inl ((xcA X) 10, 6, .inl (lf []))), ((a16 3), .inr (4, [.int (0), .int (0), .int (1), .int (30), .int (0), .ref (a16 4), .ref (a16 5), .ref (a16 6), .ref (a16 7), .ref (a16 8), .ref (a16 9), .ref (a16 10)])), ((a16 4), .inl ((xcA X) 10, 10, .inl (lf []))), ((a16 5), .inl ((xcA X) 10, 10, .inl (lf []))), ((a16 6), .inl ((xcA X) 10, 10, .inl (lf []))), ((a16 7), .inl ((xcA X) 10, 4, .inl (lf []))), ((a16 8), .inl ((xcA X) 10, 4, .inl (lf []))), ((a16 9), .inl ((xcA X) 10, 4, .inl (lf []))), ((a16 10), .inl ((xcA X) 10, 4, .inl (lf []))), ((a16 11), .inl ((xcA X) 15, 5, .inr (.inr (.inr (.inr (gq [(a16 12), (a16 13), (a16 14), (a16 15), (a16 16)])))))), ((a16 12), .inl ((xcA X) 10, 10, .inl (lf []))), ((a16 13), .inl ((xcA X) 10, 10, .inl (lf []))), ((a16 14), .inl ((xcA X) 10, 10, .inl (lf []))), ((a16 15), .inl ((xcA X) 10, 10, .inl (lf []))), ((a16 16), .inl ((xcA X) 10, 10, .inl (lf []))), ((a16 17), .inl ((xcA X) 15, 4, .inr (.inr (.inr (.inr (gq [(a16 18), (a16 19), (a16 20), (a16 21)])))))), ((a16 18), .inl ((xcA X) 10, 10, .inl (lf []))), ((a16 19), .inl ((xcA X) 10, 10, .inl (lf []))), ((a16 20), .inl ((xcA X) 10, 10, .inl (lf []))), ((a16 21), .inl ((xcA X) 10, 10, .inl (lf []))), (z17, .inl ((xcA X) 14, 4, .inr (.inr (.inr (.inr (va_up (va_up (va_up (va_up (fun _ => none) 0 (some z22)) 1 (some z24)) 2 (some z26)) 3 (some z28))))))), (z18, .inr (4, [.int (0), .int (0), .int (1), .int (30), .int (0), .ref (a19 0), .ref (a19 1), .ref (a19 2), .ref (a19 3), .ref (a19 4), .ref (a19 5), .ref (a19 6)])), ((a19 0), .inl ((xcA X) 10, 10, .inl (lf []))), ((a19 1), .inl ((xcA X) 10, 10, .inl (lf []))), ((a19 2), .inl ((xcA X) 10, 10, .inl (lf []))), ((a19 3), .inl ((xcA X) 10, 4, .inl (lf []))), ((a19 4), .inl ((xcA X) 10, 4, .inl (lf []))), ((a19 5), .inl ((xcA X) 10, 4, .inl (lf []))), ((a19 6), .inl ((xcA X) 10, 4, .inl (lf []))), (z20, .inr (4, [.int (0), .int (0), .int (1), .int (30), .int (0), .ref (a21 0), .ref (a21 1), .ref (a21 2), .ref (a21 3), .ref (a21 4), .ref (a21 5), .ref (a21 6)])), ((a21 0), .inl ((xcA X) 10, 10, .inl (lf []))), ((a21 1), .inl ((xcA X) 10, 10, .inl (lf []))), ((a21 2), .inl ((xcA X) 10, 10, .inl (lf []))), ((a21 3), .inl ((xcA X) 10, 4, .inl (lf []))), ((a21 4), .inl ((xcA X) 10, 4, .inl (lf []))), ((a21 5), .inl ((xcA X) 10, 4, .inl (lf []))), ((a21 6), .inl ((xcA X) 10, 4, .inl (lf []))), (z22, .inr (5, [.int (0), .ref (a23 0), .int (-1)])), ((a23 0), .inl ((xcA X) 10, 40, .inl (lf []))), (z24, .inr (5, [.int (0), .ref (a25 0), .int (-1)])), ((a25 0), .inl ((xcA X) 10, 40, .inl (lf []))), (z26, .inr (5, [.int (0), .ref (a27 0), .int (-1)])), ((a27 0), .inl ((xcA X) 10, 40, .inl (lf []))), (z28, .inr (5, [.int (0), .ref (a29 0), .int (-1)])), ((a29 0), .inl ((xcA X) 10, 40, .inl (lf [])))]) 5 14 rfl rfl rfl rfl (by unfold vp_in; decide) rfl dX7_init_154 ?_
    refine TC_iinc (lv' := [(1, .int (4)), (0, .ref b)]) 0 (4) rfl (by decide) (Nat.le_of_ble_eq_true rfl) rfl dX7_init_155 ?_
    refine TC_goto 137 dX7_init_158 (by decide) ?_
    refine TC_iload_n 0 rfl rfl dX7_init_137 ?_
    refine TC_iconst (4) (by decide) dX7_init_138 ?_
    refine TC_geT 161 (by decide) dX7_init_139 (by decide) ?_
    exact TC_ret (fun i => [z1, (a2 0), (a2 1), z3, (a4 0), (a4 1), (a4 2), (a4 3), (a4 4), (a4 5), (a4 6), z5, (a6 0), (a6 1), (a6 2), (a6 3), (a6 4), (a6 5), (a6 6), z7, z8, z9, (a10 0), (a10 1), z11, (a12 0), (a12 1), (a12 2), (a12 3), z13, (a14 0), (a14 1), z15, (a16 0), (a16 1), (a16 2), (a16 3), (a16 4), (a16 5), (a16 6), (a16 7), (a16 8), (a16 9), (a16 10), (a16 11), (a16 12), (a16 13), (a16 14), (a16 15), (a16 16), (a16 17), (a16 18), (a16 19), (a16 20), (a16 21), z17, z18, (a19 0), (a19 1), (a19 2), (a19 3), (a19 4), (a19 5), (a19 6), z20, (a21 0), (a21 1), (a21 2), (a21 3), (a21 4), (a21 5), (a21 6), z22, (a23 0), z24, (a25 0), z26, (a27 0), z28, (a29 0)].getD i 0) [0, 1, 2, 3, 4, 5, 6, 7, 8, 9, 10, 11, 12, 13, 14, 15, 16, 17, 18, 19, 20, 21, 22, 23, 24, 25, 26, 27, 28, 29, 30, 31, 32, 33, 34, 35, 36, 37, 38, 39, 40, 41, 42, 43, 44, 45, 46, 47, 48, 49, 50, 51, 52, 53, 54, 55, 56, 57, 58, 59, 60, 61, 62, 63, 64, 65, 66, 67, 68, 69, 70, 71, 72, 73, 74, 75, 76, 77, 78, 79, 80] rfl (by decide) rfl rfl dX7_init_161)
abbrev qX8_init : mMI := (yX8_init, cX8_init, 1, none, 1)
theorem dX8_init_0 : decode cX8_init 0 = .ok (.aload_n 0, 1) := by decide +kernel
theorem dX8_init_1 : decode cX8_init 1 = .ok (.invokespecial 1, 3) := by decide +kernel
theorem dX8_init_4 : decode cX8_init 4 = .ok (.aload_n 0, 1) := by decide +kernel
theorem dX8_init_5 : decode cX8_init 5 = .ok (.sipush 210, 3) := by decide +kernel
theorem dX8_init_8 : decode cX8_init 8 = .ok (.newarray .int, 2) := by decide +kernel
theorem dX8_init_10 : decode cX8_init 10 = .ok (.putfield 7, 3) := by decide +kernel
theorem dX8_init_13 : decode cX8_init 13 = .ok (.aload_n 0, 1) := by decide +kernel
theorem dX8_init_14 : decode cX8_init 14 = .ok (.bipush 10, 2) := by decide +kernel
theorem dX8_init_16 : decode cX8_init 16 = .ok (.newarray .int, 2) := by decide +kernel
theorem dX8_init_18 : decode cX8_init 18 = .ok (.putfield 13, 3) := by decide +kernel
theorem dX8_init_21 : decode cX8_init 21 = .ok (.aload_n 0, 1) := by decide +kernel
theorem dX8_init_22 : decode cX8_init 22 = .ok (.iconst 4, 1) := by decide +kernel
theorem dX8_init_23 : decode cX8_init 23 = .ok (.newarray .int, 2) := by decide +kernel
theorem dX8_init_25 : decode cX8_init 25 = .ok (.putfield 16, 3) := by decide +kernel
theorem dX8_init_28 : decode cX8_init 28 = .ok (.aload_n 0, 1) := by decide +kernel
theorem dX8_init_29 : decode cX8_init 29 = .ok (.bipush 35, 2) := by decide +kernel
theorem dX8_init_31 : decode cX8_init 31 = .ok (.newarray .int, 2) := by decide +kernel
theorem dX8_init_33 : decode cX8_init 33 = .ok (.putfield 19, 3) := by decide +kernel
theorem dX8_init_36 : decode cX8_init 36 = .ok (.aload_n 0, 1) := by decide +kernel
theorem dX8_init_37 : decode cX8_init 37 = .ok (.bipush 10, 2) := by decide +kernel
theorem dX8_init_39 : decode cX8_init 39 = .ok (.newarray .int, 2) := by decide +kernel
theorem dX8_init_41 : decode cX8_init 41 = .ok (.putfield 22, 3) := by decide +kernel
theorem dX8_init_44 : decode cX8_init 44 = .ok (.aload_n 0, 1) := by decide +kernel
theorem dX8_init_45 : decode cX8_init 45 = .ok (.iconst 4, 1) := by decide +kernel
theorem dX8_init_46 : decode cX8_init 46 = .ok (.newarray .int, 2) := by decide +kernel
theorem dX8_init_48 : decode cX8_init 48 = .ok (.putfield 25, 3) := by decide +kernel
theorem dX8_init_51 : decode cX8_init 51 = .ok (.aload_n 0, 1) := by decide +kernel
theorem dX8_init_52 : decode cX8_init 52 = .ok (.sipush 160, 3) := by decide +kernel
theorem dX8_init_55 : decode cX8_init 55 = .ok (.newarray .int, 2) := by decide +kernel
theorem dX8_init_57 : decode cX8_init 57 = .ok (.putfield 28, 3) := by decide +kernel
theorem dX8_init_60 : decode cX8_init 60 = .ok (.aload_n 0, 1) := by decide +kernel
theorem dX8_init_61 : decode cX8_init 61 = .ok (.bipush 8, 2) := by decide +kernel
theorem dX8_init_63 : decode cX8_init 63 = .ok (.newarray .int, 2) := by decide +kernel
theorem dX8_init_65 : decode cX8_init 65 = .ok (.dup, 1) := by decide +kernel
theorem dX8_init_66 : decode cX8_init 66 = .ok (.iconst 0, 1) := by decide +kernel
theorem dX8_init_67 : decode cX8_init 67 = .ok (.iconst 0, 1) := by decide +kernel
theorem dX8_init_68 : decode cX8_init 68 = .ok (.iastore, 1) := by decide +kernel
theorem dX8_init_69 : decode cX8_init 69 = .ok (.dup, 1) := by decide +kernel
theorem dX8_init_70 : decode cX8_init 70 = .ok (.iconst 1, 1) := by decide +kernel
theorem dX8_init_71 : decode cX8_init 71 = .ok (.iconst 4, 1) := by decide +kernel
theorem dX8_init_72 : decode cX8_init 72 = .ok (.iastore, 1) := by decide +kernel
theorem dX8_init_73 : decode cX8_init 73 = .ok (.dup, 1) := by decide +kernel
theorem dX8_init_74 : decode cX8_init 74 = .ok (.iconst 2, 1) := by decide +kernel
theorem dX8_init_75 : decode cX8_init 75 = .ok (.bipush 9, 2) := by decide +kernel
theorem dX8_init_77 : decode cX8_init 77 = .ok (.iastore, 1) := by decide +kernel
theorem dX8_init_78 : decode cX8_init 78 = .ok (.dup, 1) := by decide +kernel
theorem dX8_init_79 : decode cX8_init 79 = .ok (.iconst 3, 1) := by decide +kernel
theorem dX8_init_80 : decode cX8_init 80 = .ok (.bipush 13, 2) := by decide +kernel
theorem dX8_init_82 : decode cX8_init 82 = .ok (.iastore, 1) := by decide +kernel
theorem dX8_init_83 : decode cX8_init 83 = .ok (.dup, 1) := by decide +kernel
theorem dX8_init_84 : decode cX8_init 84 = .ok (.iconst 4, 1) := by decide +kernel
theorem dX8_init_85 : decode cX8_init 85 = .ok (.bipush 20, 2) := by decide +kernel
theorem dX8_init_87 : decode cX8_init 87 = .ok (.iastore, 1) := by decide +kernel
theorem dX8_init_88 : decode cX8_init 88 = .ok (.dup, 1) := by decide +kernel
theorem dX8_init_89 : decode cX8_init 89 = .ok (.iconst 5, 1) := by decide +kernel
theorem dX8_init_90 : decode cX8_init 90 = .ok (.bipush 26, 2) := by decide +kernel
theorem dX8_init_92 : decode cX8_init 92 = .ok (.iastore, 1) := by decide +kernel
theorem dX8_init_93 : decode cX8_init 93 = .ok (.dup, 1) := by decide +kernel
theorem dX8_init_94 : decode cX8_init 94 = .ok (.bipush 6, 2) := by decide +kernel
theorem dX8_init_96 : decode cX8_init 96 = .ok (.bipush 29, 2) := by decide +kernel
theorem dX8_init_98 : decode cX8_init 98 = .ok (.iastore, 1) := by decide +kernel
theorem dX8_init_99 : decode cX8_init 99 = .ok (.dup, 1) := by decide +kernel
theorem dX8_init_100 : decode cX8_init 100 = .ok (.bipush 7, 2) := by decide +kernel
theorem dX8_init_102 : decode cX8_init 102 = .ok (.bipush 33, 2) := by decide +kernel
theorem dX8_init_104 : decode cX8_init 104 = .ok (.iastore, 1) := by decide +kernel
theorem dX8_init_105 : decode cX8_init 105 = .ok (.putfield 31, 3) := by decide +kernel
theorem dX8_init_108 : decode cX8_init 108 = .ok (.aload_n 0, 1) := by decide +kernel
theorem dX8_init_109 : decode cX8_init 109 = .ok (.bipush 33, 2) := by decide +kernel
theorem dX8_init_111 : decode cX8_init 111 = .ok (.newarray .int, 2) := by decide +kernel
theorem dX8_init_113 : decode cX8_init 113 = .ok (.dup, 1) := by decide +kernel
theorem dX8_init_114 : decode cX8_init 114 = .ok (.iconst 0, 1) := by decide +kernel
theorem dX8_init_115 : decode cX8_init 115 = .ok (.bipush 119, 2) := by decide +kernel
theorem dX8_init_117 : decode cX8_init 117 = .ok (.iastore, 1) := by decide +kernel
theorem dX8_init_118 : decode cX8_init 118 = .ok (.dup, 1) := by decide +kernel
theorem dX8_init_119 : decode cX8_init 119 = .ok (.iconst 1, 1) := by decide +kernel
theorem dX8_init_120 : decode cX8_init 120 = .ok (.bipush 111, 2) := by decide +kernel
theorem dX8_init_122 : decode cX8_init 122 = .ok (.iastore, 1) := by decide +kernel
theorem dX8_init_123 : decode cX8_init 123 = .ok (.dup, 1) := by decide +kernel
theorem dX8_init_124 : decode cX8_init 124 = .ok (.iconst 2, 1) := by decide +kernel
theorem dX8_init_125 : decode cX8_init 125 = .ok (.bipush 111, 2) := by decide +kernel
theorem dX8_init_127 : decode cX8_init 127 = .ok (.iastore, 1) := by decide +kernel
theorem dX8_init_128 : decode cX8_init 128 = .ok (.dup, 1) := by decide +kernel
theorem dX8_init_129 : decode cX8_init 129 = .ok (.iconst 3, 1) := by decide +kernel
theorem dX8_init_130 : decode cX8_init 130 = .ok (.bipush 100, 2) := by decide +kernel
theorem dX8_init_132 : decode cX8_init 132 = .ok (.iastore, 1) := by decide +kernel
theorem dX8_init_133 : decode cX8_init 133 = .ok (.dup, 1) := by decide +kernel
theorem dX8_init_134 : decode cX8_init 134 = .ok (.iconst 4, 1) := by decide +kernel
theorem dX8_init_135 : decode cX8_init 135 = .ok (.bipush 115, 2) := by decide +kernel
theorem dX8_init_137 : decode cX8_init 137 = .ok (.iastore, 1) := by decide +kernel
theorem dX8_init_138 : decode cX8_init 138 = .ok (.dup, 1) := by decide +kernel
theorem dX8_init_139 : decode cX8_init 139 = .ok (.iconst 5, 1) := by decide +kernel
theorem dX8_init_140 : decode cX8_init 140 = .ok (.bipush 116, 2) := by decide +kernel
theorem dX8_init_142 : decode cX8_init 142 = .ok (.iastore, 1) := by decide +kernel
theorem dX8_init_143 : decode cX8_init 143 = .ok (.dup, 1) := by decide +kernel
theorem dX8_init_144 : decode cX8_init 144 = .ok (.bipush 6, 2) := by decide +kernel
theorem dX8_init_146 : decode cX8_init 146 = .ok (.bipush 111, 2) := by decide +kernel
theorem dX8_init_148 : decode cX8_init 148 = .ok (.iastore, 1) := by decide +kernel
theorem dX8_init_149 : decode cX8_init 149 = .ok (.dup, 1) := by decide +kernel
theorem dX8_init_150 : decode cX8_init 150 = .ok (.bipush 7, 2) := by decide +kernel
theorem dX8_init_152 : decode cX8_init 152 = .ok (.bipush 110, 2) := by decide +kernel
theorem dX8_init_154 : decode cX8_init 154 = .ok (.iastore, 1) := by decide +kernel
theorem dX8_init_155 : decode cX8_init 155 = .ok (.dup, 1) := by decide +kernel
theorem dX8_init_156 : decode cX8_init 156 = .ok (.bipush 8, 2) := by decide +kernel
theorem dX8_init_158 : decode cX8_init 158 = .ok (.bipush 101, 2) := by decide +kernel
theorem dX8_init_160 : decode cX8_init 160 = .ok (.iastore, 1) := by decide +kernel
theorem dX8_init_161 : decode cX8_init 161 = .ok (.dup, 1) := by decide +kernel
theorem dX8_init_162 : decode cX8_init 162 = .ok (.bipush 9, 2) := by decide +kernel
theorem dX8_init_164 : decode cX8_init 164 = .ok (.bipush 105, 2) := by decide +kernel
theorem dX8_init_166 : decode cX8_init 166 = .ok (.iastore, 1) := by decide +kernel
theorem dX8_init_167 : decode cX8_init 167 = .ok (.dup, 1) := by decide +kernel
theorem dX8_init_168 : decode cX8_init 168 = .ok (.bipush 10, 2) := by decide +kernel
theorem dX8_init_170 : decode cX8_init 170 = .ok (.bipush 114, 2) := by decide +kernel
theorem dX8_init_172 : decode cX8_init 172 = .ok (.iastore, 1) := by decide +kernel
theorem dX8_init_173 : decode cX8_init 173 = .ok (.dup, 1) := by decide +kernel
theorem dX8_init_174 : decode cX8_init 174 = .ok (.bipush 11, 2) := by decide +kernel
theorem dX8_init_176 : decode cX8_init 176 = .ok (.bipush 111, 2) := by decide +kernel
theorem dX8_init_178 : decode cX8_init 178 = .ok (.iastore, 1) := by decide +kernel
theorem dX8_init_179 : decode cX8_init 179 = .ok (.dup, 1) := by decide +kernel
theorem dX8_init_180 : decode cX8_init 180 = .ok (.bipush 12, 2) := by decide +kernel
theorem dX8_init_182 : decode cX8_init 182 = .ok (.bipush 110, 2) := by decide +kernel
theorem dX8_init_184 : decode cX8_init 184 = .ok (.iastore, 1) := by decide +kernel
theorem dX8_init_185 : decode cX8_init 185 = .ok (.dup, 1) := by decide +kernel
theorem dX8_init_186 : decode cX8_init 186 = .ok (.bipush 13, 2) := by decide +kernel
theorem dX8_init_188 : decode cX8_init 188 = .ok (.bipush 108, 2) := by decide +kernel
theorem dX8_init_190 : decode cX8_init 190 = .ok (.iastore, 1) := by decide +kernel
theorem dX8_init_191 : decode cX8_init 191 = .ok (.dup, 1) := by decide +kernel
theorem dX8_init_192 : decode cX8_init 192 = .ok (.bipush 14, 2) := by decide +kernel
theorem dX8_init_194 : decode cX8_init 194 = .ok (.bipush 97, 2) := by decide +kernel
theorem dX8_init_196 : decode cX8_init 196 = .ok (.iastore, 1) := by decide +kernel
theorem dX8_init_197 : decode cX8_init 197 = .ok (.dup, 1) := by decide +kernel
theorem dX8_init_198 : decode cX8_init 198 = .ok (.bipush 15, 2) := by decide +kernel
theorem dX8_init_200 : decode cX8_init 200 = .ok (.bipush 110, 2) := by decide +kernel
theorem dX8_init_202 : decode cX8_init 202 = .ok (.iastore, 1) := by decide +kernel
theorem dX8_init_203 : decode cX8_init 203 = .ok (.dup, 1) := by decide +kernel
theorem dX8_init_204 : decode cX8_init 204 = .ok (.bipush 16, 2) := by decide +kernel
theorem dX8_init_206 : decode cX8_init 206 = .ok (.bipush 100, 2) := by decide +kernel
theorem dX8_init_208 : decode cX8_init 208 = .ok (.iastore, 1) := by decide +kernel
theorem dX8_init_209 : decode cX8_init 209 = .ok (.dup, 1) := by decide +kernel
theorem dX8_init_210 : decode cX8_init 210 = .ok (.bipush 17, 2) := by decide +kernel
theorem dX8_init_212 : decode cX8_init 212 = .ok (.bipush 105, 2) := by decide +kernel
theorem dX8_init_214 : decode cX8_init 214 = .ok (.iastore, 1) := by decide +kernel
theorem dX8_init_215 : decode cX8_init 215 = .ok (.dup, 1) := by decide +kernel
theorem dX8_init_216 : decode cX8_init 216 = .ok (.bipush 18, 2) := by decide +kernel
theorem dX8_init_218 : decode cX8_init 218 = .ok (.bipush 110, 2) := by decide +kernel
theorem dX8_init_220 : decode cX8_init 220 = .ok (.iastore, 1) := by decide +kernel
theorem dX8_init_221 : decode cX8_init 221 = .ok (.dup, 1) := by decide +kernel
theorem dX8_init_222 : decode cX8_init 222 = .ok (.bipush 19, 2) := by decide +kernel
theorem dX8_init_224 : decode cX8_init 224 = .ok (.bipush 103, 2) := by decide +kernel
theorem dX8_init_226 : decode cX8_init 226 = .ok (.iastore, 1) := by decide +kernel
theorem dX8_init_227 : decode cX8_init 227 = .ok (.dup, 1) := by decide +kernel
theorem dX8_init_228 : decode cX8_init 228 = .ok (.bipush 20, 2) := by decide +kernel
theorem dX8_init_230 : decode cX8_init 230 = .ok (.bipush 108, 2) := by decide +kernel
theorem dX8_init_232 : decode cX8_init 232 = .ok (.iastore, 1) := by decide +kernel
theorem dX8_init_233 : decode cX8_init 233 = .ok (.dup, 1) := by decide +kernel
theorem dX8_init_234 : decode cX8_init 234 = .ok (.bipush 21, 2) := by decide +kernel
theorem dX8_init_236 : decode cX8_init 236 = .ok (.bipush 111, 2) := by decide +kernel
theorem dX8_init_238 : decode cX8_init 238 = .ok (.iastore, 1) := by decide +kernel
theorem dX8_init_239 : decode cX8_init 239 = .ok (.dup, 1) := by decide +kernel
theorem dX8_init_240 : decode cX8_init 240 = .ok (.bipush 22, 2) := by decide +kernel
theorem dX8_init_242 : decode cX8_init 242 = .ok (.bipush 100, 2) := by decide +kernel
theorem dX8_init_244 : decode cX8_init 244 = .ok (.iastore, 1) := by decide +kernel
theorem dX8_init_245 : decode cX8_init 245 = .ok (.dup, 1) := by decide +kernel
theorem dX8_init_246 : decode cX8_init 246 = .ok (.bipush 23, 2) := by decide +kernel
theorem dX8_init_248 : decode cX8_init 248 = .ok (.bipush 103, 2) := by decide +kernel
theorem dX8_init_250 : decode cX8_init 250 = .ok (.iastore, 1) := by decide +kernel
theorem dX8_init_251 : decode cX8_init 251 = .ok (.dup, 1) := by decide +kernel
theorem dX8_init_252 : decode cX8_init 252 = .ok (.bipush 24, 2) := by decide +kernel
theorem dX8_init_254 : decode cX8_init 254 = .ok (.bipush 101, 2) := by decide +kernel
theorem dX8_init_256 : decode cX8_init 256 = .ok (.iastore, 1) := by decide +kernel
theorem dX8_init_257 : decode cX8_init 257 = .ok (.dup, 1) := by decide +kernel
theorem dX8_init_258 : decode cX8_init 258 = .ok (.bipush 25, 2) := by decide +kernel
theorem dX8_init_260 : decode cX8_init 260 = .ok (.bipush 114, 2) := by decide +kernel
theorem dX8_init_262 : decode cX8_init 262 = .ok (.iastore, 1) := by decide +kernel
theorem dX8_init_263 : decode cX8_init 263 = .ok (.dup, 1) := by decide +kernel
theorem dX8_init_264 : decode cX8_init 264 = .ok (.bipush 26, 2) := by decide +kernel
theorem dX8_init_266 : decode cX8_init 266 = .ok (.bipush 103, 2) := by decide +kernel
theorem dX8_init_268 : decode cX8_init 268 = .ok (.iastore, 1) := by decide +kernel
theorem dX8_init_269 : decode cX8_init 269 = .ok (.dup, 1) := by decide +kernel
theorem dX8_init_270 : decode cX8_init 270 = .ok (.bipush 27, 2) := by decide +kernel
theorem dX8_init_272 : decode cX8_init 272 = .ok (.bipush 97, 2) := by decide +kernel
theorem dX8_init_274 : decode cX8_init 274 = .ok (.iastore, 1) := by decide +kernel
theorem dX8_init_275 : decode cX8_init 275 = .ok (.dup, 1) := by decide +kernel
theorem dX8_init_276 : decode cX8_init 276 = .ok (.bipush 28, 2) := by decide +kernel
theorem dX8_init_278 : decode cX8_init 278 = .ok (.bipush 112, 2) := by decide +kernel
theorem dX8_init_280 : decode cX8_init 280 = .ok (.iastore, 1) := by decide +kernel
theorem dX8_init_281 : decode cX8_init 281 = .ok (.dup, 1) := by decide +kernel
theorem dX8_init_282 : decode cX8_init 282 = .ok (.bipush 29, 2) := by decide +kernel
theorem dX8_init_284 : decode cX8_init 284 = .ok (.bipush 104, 2) := by decide +kernel
theorem dX8_init_286 : decode cX8_init 286 = .ok (.iastore, 1) := by decide +kernel
theorem dX8_init_287 : decode cX8_init 287 = .ok (.dup, 1) := by decide +kernel
theorem dX8_init_288 : decode cX8_init 288 = .ok (.bipush 30, 2) := by decide +kernel
theorem dX8_init_290 : decode cX8_init 290 = .ok (.bipush 111, 2) := by decide +kernel
theorem dX8_init_292 : decode cX8_init 292 = .ok (.iastore, 1) := by decide +kernel
theorem dX8_init_293 : decode cX8_init 293 = .ok (.dup, 1) := by decide +kernel
theorem dX8_init_294 : decode cX8_init 294 = .ok (.bipush 31, 2) := by decide +kernel
theorem dX8_init_296 : decode cX8_init 296 = .ok (.bipush 108, 2) := by decide +kernel
theorem dX8_init_298 : decode cX8_init 298 = .ok (.iastore, 1) := by decide +kernel
theorem dX8_init_299 : decode cX8_init 299 = .ok (.dup, 1) := by decide +kernel
theorem dX8_init_300 : decode cX8_init 300 = .ok (.bipush 32, 2) := by decide +kernel
theorem dX8_init_302 : decode cX8_init 302 = .ok (.bipush 100, 2) := by decide +kernel
theorem dX8_init_304 : decode cX8_init 304 = .ok (.iastore, 1) := by decide +kernel
theorem dX8_init_305 : decode cX8_init 305 = .ok (.putfield 34, 3) := by decide +kernel
theorem dX8_init_308 : decode cX8_init 308 = .ok (.aload_n 0, 1) := by decide +kernel
theorem dX8_init_309 : decode cX8_init 309 = .ok (.bipush 11, 2) := by decide +kernel
theorem dX8_init_311 : decode cX8_init 311 = .ok (.newarray .int, 2) := by decide +kernel
theorem dX8_init_313 : decode cX8_init 313 = .ok (.putfield 37, 3) := by decide +kernel
theorem dX8_init_316 : decode cX8_init 316 = .ok (.aload_n 0, 1) := by decide +kernel
theorem dX8_init_317 : decode cX8_init 317 = .ok (.bipush 10, 2) := by decide +kernel
theorem dX8_init_319 : decode cX8_init 319 = .ok (.newarray .int, 2) := by decide +kernel
theorem dX8_init_321 : decode cX8_init 321 = .ok (.putfield 40, 3) := by decide +kernel
theorem dX8_init_324 : decode cX8_init 324 = .ok (.aload_n 0, 1) := by decide +kernel
theorem dX8_init_325 : decode cX8_init 325 = .ok (.bipush 11, 2) := by decide +kernel
theorem dX8_init_327 : decode cX8_init 327 = .ok (.newarray .int, 2) := by decide +kernel
theorem dX8_init_329 : decode cX8_init 329 = .ok (.putfield 43, 3) := by decide +kernel
theorem dX8_init_332 : decode cX8_init 332 = .ok (.aload_n 0, 1) := by decide +kernel
theorem dX8_init_333 : decode cX8_init 333 = .ok (.iconst 4, 1) := by decide +kernel
theorem dX8_init_334 : decode cX8_init 334 = .ok (.newarray .int, 2) := by decide +kernel
theorem dX8_init_336 : decode cX8_init 336 = .ok (.putfield 46, 3) := by decide +kernel
theorem dX8_init_339 : decode cX8_init 339 = .ok (.aload_n 0, 1) := by decide +kernel
theorem dX8_init_340 : decode cX8_init 340 = .ok (.bipush 12, 2) := by decide +kernel
theorem dX8_init_342 : decode cX8_init 342 = .ok (.newarray .int, 2) := by decide +kernel
theorem dX8_init_344 : decode cX8_init 344 = .ok (.putfield 49, 3) := by decide +kernel
theorem dX8_init_347 : decode cX8_init 347 = .ok (.aload_n 0, 1) := by decide +kernel
theorem dX8_init_348 : decode cX8_init 348 = .ok (.iconst 2, 1) := by decide +kernel
theorem dX8_init_349 : decode cX8_init 349 = .ok (.newarray .boolean, 2) := by decide +kernel
theorem dX8_init_351 : decode cX8_init 351 = .ok (.putfield 52, 3) := by decide +kernel
theorem dX8_init_354 : decode cX8_init 354 = .ok (.aload_n 0, 1) := by decide +kernel
theorem dX8_init_355 : decode cX8_init 355 = .ok (.iconst 4, 1) := by decide +kernel
theorem dX8_init_356 : decode cX8_init 356 = .ok (.newarray .int, 2) := by decide +kernel
theorem dX8_init_358 : decode cX8_init 358 = .ok (.dup, 1) := by decide +kernel
theorem dX8_init_359 : decode cX8_init 359 = .ok (.iconst 0, 1) := by decide +kernel
theorem dX8_init_360 : decode cX8_init 360 = .ok (.bipush (-4), 2) := by decide +kernel
theorem dX8_init_362 : decode cX8_init 362 = .ok (.iastore, 1) := by decide +kernel
theorem dX8_init_363 : decode cX8_init 363 = .ok (.dup, 1) := by decide +kernel
theorem dX8_init_364 : decode cX8_init 364 = .ok (.iconst 1, 1) := by decide +kernel
theorem dX8_init_365 : decode cX8_init 365 = .ok (.bipush (-4), 2) := by decide +kernel
theorem dX8_init_367 : decode cX8_init 367 = .ok (.iastore, 1) := by decide +kernel
theorem dX8_init_368 : decode cX8_init 368 = .ok (.dup, 1) := by decide +kernel
theorem dX8_init_369 : decode cX8_init 369 = .ok (.iconst 2, 1) := by decide +kernel
theorem dX8_init_370 : decode cX8_init 370 = .ok (.bipush (-4), 2) := by decide +kernel
theorem dX8_init_372 : decode cX8_init 372 = .ok (.iastore, 1) := by decide +kernel
theorem dX8_init_373 : decode cX8_init 373 = .ok (.dup, 1) := by decide +kernel
theorem dX8_init_374 : decode cX8_init 374 = .ok (.iconst 3, 1) := by decide +kernel
theorem dX8_init_375 : decode cX8_init 375 = .ok (.bipush (-4), 2) := by decide +kernel
theorem dX8_init_377 : decode cX8_init 377 = .ok (.iastore, 1) := by decide +kernel
theorem dX8_init_378 : decode cX8_init 378 = .ok (.putfield 56, 3) := by decide +kernel
theorem dX8_init_381 : decode cX8_init 381 = .ok (.aload_n 0, 1) := by decide +kernel
theorem dX8_init_382 : decode cX8_init 382 = .ok (.iconst 4, 1) := by decide +kernel
theorem dX8_init_383 : decode cX8_init 383 = .ok (.newarray .int, 2) := by decide +kernel
theorem dX8_init_385 : decode cX8_init 385 = .ok (.putfield 59, 3) := by decide +kernel
theorem dX8_init_388 : decode cX8_init 388 = .ok (.aload_n 0, 1) := by decide +kernel
theorem dX8_init_389 : decode cX8_init 389 = .ok (.sipush 160, 3) := by decide +kernel
theorem dX8_init_392 : decode cX8_init 392 = .ok (.newarray .int, 2) := by decide +kernel
theorem dX8_init_394 : decode cX8_init 394 = .ok (.putfield 62, 3) := by decide +kernel
theorem dX8_init_397 : decode cX8_init 397 = .ok (.return_, 1) := by decide +kernel
theorem mkX8_init : mok qX8_init 0 := ⟨⟨⟨by decide, by decide, by decide +kernel⟩, by decide⟩, gd_mem 59 (by decide +kernel) (by decide +kernel), gd_mem 887 (by decide +kernel) (by decide +kernel)⟩
theorem imX8_init : Cond.instanceMethod qX8_init.1 ∈ gdL := gd_mem 886 (by decide +kernel) (by decide +kernel)
theorem koX8_1 : Cond.methodLink RX8 1 Lib.objectInit ∈ gdL := gd_mem 888 (by decide +kernel) (by decide +kernel)
theorem kfX8_7 : Cond.fieldLink RX8 7 "RankStairsModel" "state" "[I" ∈ gdL := gd_mem 889 (by decide +kernel) (by decide +kernel)
theorem kfX8_13 : Cond.fieldLink RX8 13 "RankStairsModel" "kinds" "[I" ∈ gdL := gd_mem 890 (by decide +kernel) (by decide +kernel)
theorem kfX8_16 : Cond.fieldLink RX8 16 "RankStairsModel" "legs" "[I" ∈ gdL := gd_mem 892 (by decide +kernel) (by decide +kernel)
theorem kfX8_19 : Cond.fieldLink RX8 19 "RankStairsModel" "readPage" "[I" ∈ gdL := gd_mem 895 (by decide +kernel) (by decide +kernel)
theorem kfX8_22 : Cond.fieldLink RX8 22 "RankStairsModel" "readKinds" "[I" ∈ gdL := gd_mem 896 (by decide +kernel) (by decide +kernel)
theorem kfX8_25 : Cond.fieldLink RX8 25 "RankStairsModel" "readLegs" "[I" ∈ gdL := gd_mem 897 (by decide +kernel) (by decide +kernel)
theorem kfX8_28 : Cond.fieldLink RX8 28 "RankStairsModel" "tape" "[I" ∈ gdL := gd_mem 902 (by decide +kernel) (by decide +kernel)
theorem kfX8_31 : Cond.fieldLink RX8 31 "RankStairsModel" "cuts" "[I" ∈ gdL := gd_mem 911 (by decide +kernel) (by decide +kernel)
theorem kfX8_34 : Cond.fieldLink RX8 34 "RankStairsModel" "letters" "[I" ∈ gdL := gd_mem 912 (by decide +kernel) (by decide +kernel)
theorem kfX8_37 : Cond.fieldLink RX8 37 "RankStairsModel" "fewest" "[I" ∈ gdL := gd_mem 913 (by decide +kernel) (by decide +kernel)
theorem kfX8_40 : Cond.fieldLink RX8 40 "RankStairsModel" "trod" "[I" ∈ gdL := gd_mem 914 (by decide +kernel) (by decide +kernel)
theorem kfX8_43 : Cond.fieldLink RX8 43 "RankStairsModel" "wayMany" "[I" ∈ gdL := gd_mem 915 (by decide +kernel) (by decide +kernel)
theorem kfX8_46 : Cond.fieldLink RX8 46 "RankStairsModel" "whose" "[I" ∈ gdL := gd_mem 916 (by decide +kernel) (by decide +kernel)
theorem kfX8_49 : Cond.fieldLink RX8 49 "RankStairsModel" "seen" "[I" ∈ gdL := gd_mem 917 (by decide +kernel) (by decide +kernel)
theorem kfX8_52 : Cond.fieldLink RX8 52 "RankStairsModel" "isKept" "[Z" ∈ gdL := gd_mem 919 (by decide +kernel) (by decide +kernel)
theorem kfX8_56 : Cond.fieldLink RX8 56 "RankStairsModel" "lanes" "[I" ∈ gdL := gd_mem 920 (by decide +kernel) (by decide +kernel)
theorem kfX8_59 : Cond.fieldLink RX8 59 "RankStairsModel" "lengths" "[I" ∈ gdL := gd_mem 921 (by decide +kernel) (by decide +kernel)
theorem kfX8_62 : Cond.fieldLink RX8 62 "RankStairsModel" "cells" "[I" ∈ gdL := gd_mem 922 (by decide +kernel) (by decide +kernel)
def wcX8_init (cA : Nat → ClassId) (b : Nat) (a : Nat → Nat) : va_W := [(b, .inr (8, [.ref (a 0), .ref (a 1), .int 0, .ref (a 2), .int 0, .int 0, .ref (a 3), .ref (a 4), .ref (a 5), .int 0, .int 0, .int 0, .int 0, .ref (a 6), .int 0, .int 0, .int 0, .int 0, .int 0, .int 0, .int 0, .int 0, .ref (a 7), .ref (a 8), .ref (a 9), .ref (a 10), .ref (a 11), .ref (a 12), .ref (a 13), .int 0, .ref (a 14), .ref (a 15), .ref (a 16), .ref (a 17), .int 0])), ((a 0), .inl (cA 10, 210, .inl (lf []))), ((a 1), .inl (cA 10, 10, .inl (lf []))), ((a 2), .inl (cA 10, 4, .inl (lf []))), ((a 3), .inl (cA 10, 35, .inl (lf []))), ((a 4), .inl (cA 10, 10, .inl (lf []))), ((a 5), .inl (cA 10, 4, .inl (lf []))), ((a 6), .inl (cA 10, 160, .inl (lf []))), ((a 7), .inl (cA 10, 8, .inl (lf [(0), (4), (9), (13), (20), (26), (29), (33)]))), ((a 8), .inl (cA 10, 33, .inl (lf [(119), (111), (111), (100), (115), (116), (111), (110), (101), (105), (114), (111), (110), (108), (97), (110), (100), (105), (110), (103), (108), (111), (100), (103), (101), (114), (103), (97), (112), (104), (111), (108), (100)]))), ((a 9), .inl (cA 10, 11, .inl (lf []))), ((a 10), .inl (cA 10, 10, .inl (lf []))), ((a 11), .inl (cA 10, 11, .inl (lf []))), ((a 12), .inl (cA 10, 4, .inl (lf []))), ((a 13), .inl (cA 10, 12, .inl (lf []))), ((a 14), .inl (cA 12, 2, .inl (lf []))), ((a 15), .inl (cA 10, 4, .inl (lf [(-4), (-4), (-4), (-4)]))), ((a 16), .inl (cA 10, 4, .inl (lf []))), ((a 17), .inl (cA 10, 160, .inl (lf [])))]
set_option maxRecDepth 100000 in
set_option maxHeartbeats 4000000 in
theorem cnX8_init (l : Launch) : CN l qX8_init 18 692 8 fz8 wcX8_init := CN_of (by decide) rfl (by decide) (fun X b _ => by
    refine TC_aload_n 0 rfl rfl dX8_init_0 ?_
    refine TC_obj koX8_1 (Nat.le_of_ble_eq_true rfl) (Nat.le_of_ble_eq_true rfl) dX8_init_1 ?_
    refine TC_aload_n 0 rfl rfl dX8_init_4 ?_
    refine TC_sipush (210) (by decide) dX8_init_5 ?_
    refine TC_naI 210 (by decide) (by decide) (by decide) (Nat.le_of_ble_eq_true rfl) (Nat.le_of_ble_eq_true rfl) dX8_init_8 (fun z1 => ?_)
    refine TC_w (w' := [(b, .inr (8, fz8)), (z1, .inl ((xcA X) 10, 210, .inl (lf [])))]) rfl ?_
    refine TC_n (c2 := 1) (s2 := 210) rfl rfl ?_
    refine TC_putF (ty := (.array .int)) (c := 8) (i := 0) (k := 0) (w' := [(b, .inr (8, [.ref z1, .null, .int 0, .null, .int 0, .int 0, .null, .null, .null, .int 0, .int 0, .int 0, .int 0, .null, .int 0, .int 0, .int 0, .int 0, .int 0, .int 0, .int 0, .int 0, .null, .null, .null, .null, .null, .null, .null, .int 0, .null, .null, .null, .null, .int 0])), (z1, .inl ((xcA X) 10, 210, .inl (lf [])))]) rfl (by decide) rfl rfl kfX8_7 (by decide) rfl rfl rfl (Nat.le_of_ble_eq_true rfl) rfl dX8_init_10 ?_
    refine TC_aload_n 0 rfl rfl dX8_init_13 ?_
    refine TC_bipush (10) (by decide) dX8_init_14 ?_
    refine TC_naI 10 (by decide) (by decide) (by decide) (Nat.le_of_ble_eq_true rfl) (Nat.le_of_ble_eq_true rfl) dX8_init_16 (fun z2 => ?_)
    refine TC_w (w' := [(b, .inr (8, [.ref z1, .null, .int 0, .null, .int 0, .int 0, .null, .null, .null, .int 0, .int 0, .int 0, .int 0, .null, .int 0, .int 0, .int 0, .int 0, .int 0, .int 0, .int 0, .int 0, .null, .null, .null, .null, .null, .null, .null, .int 0, .null, .null, .null, .null, .int 0])), (z1, .inl ((xcA X) 10, 210, .inl (lf []))), (z2, .inl ((xcA X) 10, 10, .inl (lf [])))]) rfl ?_
    refine TC_n (c2 := 2) (s2 := 220) rfl rfl ?_
    refine TC_putF (ty := (.array .int)) (c := 8) (i := 0) (k := 1) (w' := [(b, .inr (8, [.ref z1, .ref z2, .int 0, .null, .int 0, .int 0, .null, .null, .null, .int 0, .int 0, .int 0, .int 0, .null, .int 0, .int 0, .int 0, .int 0, .int 0, .int 0, .int 0, .int 0, .null, .null, .null, .null, .null, .null, .null, .int 0, .null, .null, .null, .null, .int 0])), (z1, .inl ((xcA X) 10, 210, .inl (lf []))), (z2, .inl ((xcA X) 10, 10, .inl (lf [])))]) rfl (by decide) rfl rfl kfX8_13 (by decide) rfl rfl rfl (Nat.le_of_ble_eq_true rfl) rfl dX8_init_18 ?_
    refine TC_aload_n 0 rfl rfl dX8_init_21 ?_
    refine TC_iconst (4) (by decide) dX8_init_22 ?_
    refine TC_naI 4 (by decide) (by decide) (by decide) (Nat.le_of_ble_eq_true rfl) (Nat.le_of_ble_eq_true rfl) dX8_init_23 (fun z3 => ?_)
    refine TC_w (w' := [(b, .inr (8, [.ref z1, .ref z2, .int 0, .null, .int 0, .int 0, .null, .null, .null, .int 0, .int 0, .int 0, .int 0, .null, .int 0, .int 0, .int 0, .int 0, .int 0, .int 0, .int 0, .int 0, .null, .null, .null, .null, .null, .null, .null, .int 0, .null, .null, .null, .null, .int 0])), (z1, .inl ((xcA X) 10, 210, .inl (lf []))), (z2, .inl ((xcA X) 10, 10, .inl (lf []))), (z3, .inl ((xcA X) 10, 4, .inl (lf [])))]) rfl ?_
    refine TC_n (c2 := 3) (s2 := 224) rfl rfl ?_
    refine TC_putF (ty := (.array .int)) (c := 8) (i := 0) (k := 3) (w' := [(b, .inr (8, [.ref z1, .ref z2, .int 0, .ref z3, .int 0, .int 0, .null, .null, .null, .int 0, .int 0, .int 0, .int 0, .null, .int 0, .int 0, .int 0, .int 0, .int 0, .int 0, .int 0, .int 0, .null, .null, .null, .null, .null, .null, .null, .int 0, .null, .null, .null, .null, .int 0])), (z1, .inl ((xcA X) 10, 210, .inl (lf []))), (z2, .inl ((xcA X) 10, 10, .inl (lf []))), (z3, .inl ((xcA X) 10, 4, .inl (lf [])))]) rfl (by decide) rfl rfl kfX8_16 (by decide) rfl rfl rfl (Nat.le_of_ble_eq_true rfl) rfl dX8_init_25 ?_
    refine TC_aload_n 0 rfl rfl dX8_init_28 ?_
    refine TC_bipush (35) (by decide) dX8_init_29 ?_
    refine TC_naI 35 (by decide) (by decide) (by decide) (Nat.le_of_ble_eq_true rfl) (Nat.le_of_ble_eq_true rfl) dX8_init_31 (fun z4 => ?_)
    refine TC_w (w' := [(b, .inr (8, [.ref z1, .ref z2, .int 0, .ref z3, .int 0, .int 0, .null, .null, .null, .int 0, .int 0, .int 0, .int 0, .null, .int 0, .int 0, .int 0, .int 0, .int 0, .int 0, .int 0, .int 0, .null, .null, .null, .null, .null, .null, .null, .int 0, .null, .null, .null, .null, .int 0])), (z1, .inl ((xcA X) 10, 210, .inl (lf []))), (z2, .inl ((xcA X) 10, 10, .inl (lf []))), (z3, .inl ((xcA X) 10, 4, .inl (lf []))), (z4, .inl ((xcA X) 10, 35, .inl (lf [])))]) rfl ?_
    refine TC_n (c2 := 4) (s2 := 259) rfl rfl ?_
    refine TC_putF (ty := (.array .int)) (c := 8) (i := 0) (k := 6) (w' := [(b, .inr (8, [.ref z1, .ref z2, .int 0, .ref z3, .int 0, .int 0, .ref z4, .null, .null, .int 0, .int 0, .int 0, .int 0, .null, .int 0, .int 0, .int 0, .int 0, .int 0, .int 0, .int 0, .int 0, .null, .null, .null, .null, .null, .null, .null, .int 0, .null, .null, .null, .null, .int 0])), (z1, .inl ((xcA X) 10, 210, .inl (lf []))), (z2, .inl ((xcA X) 10, 10, .inl (lf []))), (z3, .inl ((xcA X) 10, 4, .inl (lf []))), (z4, .inl ((xcA X) 10, 35, .inl (lf [])))]) rfl (by decide) rfl rfl kfX8_19 (by decide) rfl rfl rfl (Nat.le_of_ble_eq_true rfl) rfl dX8_init_33 ?_
    refine TC_aload_n 0 rfl rfl dX8_init_36 ?_
    refine TC_bipush (10) (by decide) dX8_init_37 ?_
    refine TC_naI 10 (by decide) (by decide) (by decide) (Nat.le_of_ble_eq_true rfl) (Nat.le_of_ble_eq_true rfl) dX8_init_39 (fun z5 => ?_)
    refine TC_w (w' := [(b, .inr (8, [.ref z1, .ref z2, .int 0, .ref z3, .int 0, .int 0, .ref z4, .null, .null, .int 0, .int 0, .int 0, .int 0, .null, .int 0, .int 0, .int 0, .int 0, .int 0, .int 0, .int 0, .int 0, .null, .null, .null, .null, .null, .null, .null, .int 0, .null, .null, .null, .null, .int 0])), (z1, .inl ((xcA X) 10, 210, .inl (lf []))), (z2, .inl ((xcA X) 10, 10, .inl (lf []))), (z3, .inl ((xcA X) 10, 4, .inl (lf []))), (z4, .inl ((xcA X) 10, 35, .inl (lf []))), (z5, .inl ((xcA X) 10, 10, .inl (lf [])))]) rfl ?_
    refine TC_n (c2 := 5) (s2 := 269) rfl rfl ?_
    refine TC_putF (ty := (.array .int)) (c := 8) (i := 0) (k := 7) (w' := [(b, .inr (8, [.ref z1, .ref z2, .int 0, .ref z3, .int 0, .int 0, .ref z4, .ref z5, .null, .int 0, .int 0, .int 0, .int 0, .null, .int 0, .int 0, .int 0, .int 0, .int 0, .int 0, .int 0, .int 0, .null, .null, .null, .null, .null, .null, .null, .int 0, .null, .null, .null, .null, .int 0])), (z1, .inl ((xcA X) 10, 210, .inl (lf []))), (z2, .inl ((xcA X) 10, 10, .inl (lf []))), (z3, .inl ((xcA X) 10, 4, .inl (lf []))), (z4, .inl ((xcA X) 10, 35, .inl (lf []))), (z5, .inl ((xcA X) 10, 10, .inl (lf [])))]) rfl (by decide) rfl rfl kfX8_22 (by decide) rfl rfl rfl (Nat.le_of_ble_eq_true rfl) rfl dX8_init_41 ?_
    refine TC_aload_n 0 rfl rfl dX8_init_44 ?_
    refine TC_iconst (4) (by decide) dX8_init_45 ?_
    refine TC_naI 4 (by decide) (by decide) (by decide) (Nat.le_of_ble_eq_true rfl) (Nat.le_of_ble_eq_true rfl) dX8_init_46 (fun z6 => ?_)
    refine TC_w (w' := [(b, .inr (8, [.ref z1, .ref z2, .int 0, .ref z3, .int 0, .int 0, .ref z4, .ref z5, .null, .int 0, .int 0, .int 0, .int 0, .null, .int 0, .int 0, .int 0, .int 0, .int 0, .int 0, .int 0, .int 0, .null, .null, .null, .null, .null, .null, .null, .int 0, .null, .null, .null, .null, .int 0])), (z1, .inl ((xcA X) 10, 210, .inl (lf []))), (z2, .inl ((xcA X) 10, 10, .inl (lf []))), (z3, .inl ((xcA X) 10, 4, .inl (lf []))), (z4, .inl ((xcA X) 10, 35, .inl (lf []))), (z5, .inl ((xcA X) 10, 10, .inl (lf []))), (z6, .inl ((xcA X) 10, 4, .inl (lf [])))]) rfl ?_
    refine TC_n (c2 := 6) (s2 := 273) rfl rfl ?_
    refine TC_putF (ty := (.array .int)) (c := 8) (i := 0) (k := 8) (w' := [(b, .inr (8, [.ref z1, .ref z2, .int 0, .ref z3, .int 0, .int 0, .ref z4, .ref z5, .ref z6, .int 0, .int 0, .int 0, .int 0, .null, .int 0, .int 0, .int 0, .int 0, .int 0, .int 0, .int 0, .int 0, .null, .null, .null, .null, .null, .null, .null, .int 0, .null, .null, .null, .null, .int 0])), (z1, .inl ((xcA X) 10, 210, .inl (lf []))), (z2, .inl ((xcA X) 10, 10, .inl (lf []))), (z3, .inl ((xcA X) 10, 4, .inl (lf []))), (z4, .inl ((xcA X) 10, 35, .inl (lf []))), (z5, .inl ((xcA X) 10, 10, .inl (lf []))), (z6, .inl ((xcA X) 10, 4, .inl (lf [])))]) rfl (by decide) rfl rfl kfX8_25 (by decide) rfl rfl rfl (Nat.le_of_ble_eq_true rfl) rfl dX8_init_48 ?_
    refine TC_aload_n 0 rfl rfl dX8_init_51 ?_
    refine TC_sipush (160) (by decide) dX8_init_52 ?_
    refine TC_naI 160 (by decide) (by decide) (by decide) (Nat.le_of_ble_eq_true rfl) (Nat.le_of_ble_eq_true rfl) dX8_init_55 (fun z7 => ?_)
    refine TC_w (w' := [(b, .inr (8, [.ref z1, .ref z2, .int 0, .ref z3, .int 0, .int 0, .ref z4, .ref z5, .ref z6, .int 0, .int 0, .int 0, .int 0, .null, .int 0, .int 0, .int 0, .int 0, .int 0, .int 0, .int 0, .int 0, .null, .null, .null, .null, .null, .null, .null, .int 0, .null, .null, .null, .null, .int 0])), (z1, .inl ((xcA X) 10, 210, .inl (lf []))), (z2, .inl ((xcA X) 10, 10, .inl (lf []))), (z3, .inl ((xcA X) 10, 4, .inl (lf []))), (z4, .inl ((xcA X) 10, 35, .inl (lf []))), (z5, .inl ((xcA X) 10, 10, .inl (lf []))), (z6, .inl ((xcA X) 10, 4, .inl (lf []))), (z7, .inl ((xcA X) 10, 160, .inl (lf [])))]) rfl ?_
    refine TC_n (c2 := 7) (s2 := 433) rfl rfl ?_
    refine TC_putF (ty := (.array .int)) (c := 8) (i := 0) (k := 13) (w' := [(b, .inr (8, [.ref z1, .ref z2, .int 0, .ref z3, .int 0, .int 0, .ref z4, .ref z5, .ref z6, .int 0, .int 0, .int 0, .int 0, .ref z7, .int 0, .int 0, .int 0, .int 0, .int 0, .int 0, .int 0, .int 0, .null, .null, .null, .null, .null, .null, .null, .int 0, .null, .null, .null, .null, .int 0])), (z1, .inl ((xcA X) 10, 210, .inl (lf []))), (z2, .inl ((xcA X) 10, 10, .inl (lf []))), (z3, .inl ((xcA X) 10, 4, .inl (lf []))), (z4, .inl ((xcA X) 10, 35, .inl (lf []))), (z5, .inl ((xcA X) 10, 10, .inl (lf []))), (z6, .inl ((xcA X) 10, 4, .inl (lf []))), (z7, .inl ((xcA X) 10, 160, .inl (lf [])))]) rfl (by decide) rfl rfl kfX8_28 (by decide) rfl rfl rfl (Nat.le_of_ble_eq_true rfl) rfl dX8_init_57 ?_
    refine TC_aload_n 0 rfl rfl dX8_init_60 ?_
    refine TC_bipush (8) (by decide) dX8_init_61 ?_
    refine TC_naI 8 (by decide) (by decide) (by decide) (Nat.le_of_ble_eq_true rfl) (Nat.le_of_ble_eq_true rfl) dX8_init_63 (fun z8 => ?_)
    refine TC_w (w' := [(b, .inr (8, [.ref z1, .ref z2, .int 0, .ref z3, .int 0, .int 0, .ref z4, .ref z5, .ref z6, .int 0, .int 0, .int 0, .int 0, .ref z7, .int 0, .int 0, .int 0, .int 0, .int 0, .int 0, .int 0, .int 0, .null, .null, .null, .null, .null, .null, .null, .int 0, .null, .null, .null, .null, .int 0])), (z1, .inl ((xcA X) 10, 210, .inl (lf []))), (z2, .inl ((xcA X) 10, 10, .inl (lf []))), (z3, .inl ((xcA X) 10, 4, .inl (lf []))), (z4, .inl ((xcA X) 10, 35, .inl (lf []))), (z5, .inl ((xcA X) 10, 10, .inl (lf []))), (z6, .inl ((xcA X) 10, 4, .inl (lf []))), (z7, .inl ((xcA X) 10, 160, .inl (lf []))), (z8, .inl ((xcA X) 10, 8, .inl (lf [])))]) rfl ?_
    refine TC_n (c2 := 8) (s2 := 441) rfl rfl ?_
    refine TC_dup rfl dX8_init_65 ?_
    refine TC_iconst (0) (by decide) dX8_init_66 ?_
    refine TC_iconst (0) (by decide) dX8_init_67 ?_
    refine TC_iast (i := 8) (w' := [(b, .inr (8, [.ref z1, .ref z2, .int 0, .ref z3, .int 0, .int 0, .ref z4, .ref z5, .ref z6, .int 0, .int 0, .int 0, .int 0, .ref z7, .int 0, .int 0, .int 0, .int 0, .int 0, .int 0, .int 0, .int 0, .null, .null, .null, .null, .null, .null, .null, .int 0, .null, .null, .null, .null, .int 0])), (z1, .inl ((xcA X) 10, 210, .inl (lf []))), (z2, .inl ((xcA X) 10, 10, .inl (lf []))), (z3, .inl ((xcA X) 10, 4, .inl (lf []))), (z4, .inl ((xcA X) 10, 35, .inl (lf []))), (z5, .inl ((xcA X) 10, 10, .inl (lf []))), (z6, .inl ((xcA X) 10, 4, .inl (lf []))), (z7, .inl ((xcA X) 10, 160, .inl (lf []))), (z8, .inl ((xcA X) 10, 8, .inl (lf [(0)])))]) rfl (by decide) (by unfold vp_in; decide) rfl dX8_init_68 ?_
    refine TC_dup rfl dX8_init_69 ?_
    refine TC_iconst (1) (by decide) dX8_init_70 ?_
    refine TC_iconst (4) (by decide) dX8_init_71 ?_
    refine TC_iast (i := 8) (w' := [(b, .inr (8, [.ref z1, .ref z2, .int 0, .ref z3, .int 0, .int 0, .ref z4, .ref z5, .ref z6, .int 0, .int 0, .int 0, .int 0, .ref z7, .int 0, .int 0, .int 0, .int 0, .int 0, .int 0, .int 0, .int 0, .null, .null, .null, .null, .null, .null, .null, .int 0, .null, .null, .null, .null, .int 0])), (z1, .inl ((xcA X) 10, 210, .inl (lf []))), (z2, .inl ((xcA X) 10, 10, .inl (lf []))), (z3, .inl ((xcA X) 10, 4, .inl (lf []))), (z4, .inl ((xcA X) 10, 35, .inl (lf []))), (z5, .inl ((xcA X) 10, 10, .inl (lf []))), (z6, .inl ((xcA X) 10, 4, .inl (lf []))), (z7, .inl ((xcA X) 10, 160, .inl (lf []))), (z8, .inl ((xcA X) 10, 8, .inl (lf [(0), (4)])))]) rfl (by decide) (by unfold vp_in; decide) rfl dX8_init_72 ?_
    refine TC_dup rfl dX8_init_73 ?_
    refine TC_iconst (2) (by decide) dX8_init_74 ?_
    refine TC_bipush (9) (by decide) dX8_init_75 ?_
    refine TC_iast (i := 8) (w' := [(b, .inr (8, [.ref z1, .ref z2, .int 0, .ref z3, .int 0, .int 0, .ref z4, .ref z5, .ref z6, .int 0, .int 0, .int 0, .int 0, .ref z7, .int 0, .int 0, .int 0, .int 0, .int 0, .int 0, .int 0, .int 0, .null, .null, .null, .null, .null, .null, .null, .int 0, .null, .null, .null, .null, .int 0])), (z1, .inl ((xcA X) 10, 210, .inl (lf []))), (z2, .inl ((xcA X) 10, 10, .inl (lf []))), (z3, .inl ((xcA X) 10, 4, .inl (lf []))), (z4, .inl ((xcA X) 10, 35, .inl (lf []))), (z5, .inl ((xcA X) 10, 10, .inl (lf []))), (z6, .inl ((xcA X) 10, 4, .inl (lf []))), (z7, .inl ((xcA X) 10, 160, .inl (lf []))), (z8, .inl ((xcA X) 10, 8, .inl (lf [(0), (4), (9)])))]) rfl (by decide) (by unfold vp_in; decide) rfl dX8_init_77 ?_
    refine TC_dup rfl dX8_init_78 ?_
    refine TC_iconst (3) (by decide) dX8_init_79 ?_
    refine TC_bipush (13) (by decide) dX8_init_80 ?_
    refine TC_iast (i := 8) (w' := [(b, .inr (8, [.ref z1, .ref z2, .int 0, .ref z3, .int 0, .int 0, .ref z4, .ref z5, .ref z6, .int 0, .int 0, .int 0, .int 0, .ref z7, .int 0, .int 0, .int 0, .int 0, .int 0, .int 0, .int 0, .int 0, .null, .null, .null, .null, .null, .null, .null, .int 0, .null, .null, .null, .null, .int 0])), (z1, .inl ((xcA X) 10, 210, .inl (lf []))), (z2, .inl ((xcA X) 10, 10, .inl (lf []))), (z3, .inl ((xcA X) 10, 4, .inl (lf []))), (z4, .inl ((xcA X) 10, 35, .inl (lf []))), (z5, .inl ((xcA X) 10, 10, .inl (lf []))), (z6, .inl ((xcA X) 10, 4, .inl (lf []))), (z7, .inl ((xcA X) 10, 160, .inl (lf []))), (z8, .inl ((xcA X) 10, 8, .inl (lf [(0), (4), (9), (13)])))]) rfl (by decide) (by unfold vp_in; decide) rfl dX8_init_82 ?_
    refine TC_dup rfl dX8_init_83 ?_
    refine TC_iconst (4) (by decide) dX8_init_84 ?_
    refine TC_bipush (20) (by decide) dX8_init_85 ?_
    refine TC_iast (i := 8) (w' := [(b, .inr (8, [.ref z1, .ref z2, .int 0, .ref z3, .int 0, .int 0, .ref z4, .ref z5, .ref z6, .int 0, .int 0, .int 0, .int 0, .ref z7, .int 0, .int 0, .int 0, .int 0, .int 0, .int 0, .int 0, .int 0, .null, .null, .null, .null, .null, .null, .null, .int 0, .null, .null, .null, .null, .int 0])), (z1, .inl ((xcA X) 10, 210, .inl (lf []))), (z2, .inl ((xcA X) 10, 10, .inl (lf []))), (z3, .inl ((xcA X) 10, 4, .inl (lf []))), (z4, .inl ((xcA X) 10, 35, .inl (lf []))), (z5, .inl ((xcA X) 10, 10, .inl (lf []))), (z6, .inl ((xcA X) 10, 4, .inl (lf []))), (z7, .inl ((xcA X) 10, 160, .inl (lf []))), (z8, .inl ((xcA X) 10, 8, .inl (lf [(0), (4), (9), (13), (20)])))]) rfl (by decide) (by unfold vp_in; decide) rfl dX8_init_87 ?_
    refine TC_dup rfl dX8_init_88 ?_
    refine TC_iconst (5) (by decide) dX8_init_89 ?_
    refine TC_bipush (26) (by decide) dX8_init_90 ?_
    refine TC_iast (i := 8) (w' := [(b, .inr (8, [.ref z1, .ref z2, .int 0, .ref z3, .int 0, .int 0, .ref z4, .ref z5, .ref z6, .int 0, .int 0, .int 0, .int 0, .ref z7, .int 0, .int 0, .int 0, .int 0, .int 0, .int 0, .int 0, .int 0, .null, .null, .null, .null, .null, .null, .null, .int 0, .null, .null, .null, .null, .int 0])), (z1, .inl ((xcA X) 10, 210, .inl (lf []))), (z2, .inl ((xcA X) 10, 10, .inl (lf []))), (z3, .inl ((xcA X) 10, 4, .inl (lf []))), (z4, .inl ((xcA X) 10, 35, .inl (lf []))), (z5, .inl ((xcA X) 10, 10, .inl (lf []))), (z6, .inl ((xcA X) 10, 4, .inl (lf []))), (z7, .inl ((xcA X) 10, 160, .inl (lf []))), (z8, .inl ((xcA X) 10, 8, .inl (lf [(0), (4), (9), (13), (20), (26)])))]) rfl (by decide) (by unfold vp_in; decide) rfl dX8_init_92 ?_
    refine TC_dup rfl dX8_init_93 ?_
    refine TC_bipush (6) (by decide) dX8_init_94 ?_
    refine TC_bipush (29) (by decide) dX8_init_96 ?_
    refine TC_iast (i := 8) (w' := [(b, .inr (8, [.ref z1, .ref z2, .int 0, .ref z3, .int 0, .int 0, .ref z4, .ref z5, .ref z6, .int 0, .int 0, .int 0, .int 0, .ref z7, .int 0, .int 0, .int 0, .int 0, .int 0, .int 0, .int 0, .int 0, .null, .null, .null, .null, .null, .null, .null, .int 0, .null, .null, .null, .null, .int 0])), (z1, .inl ((xcA X) 10, 210, .inl (lf []))), (z2, .inl ((xcA X) 10, 10, .inl (lf []))), (z3, .inl ((xcA X) 10, 4, .inl (lf []))), (z4, .inl ((xcA X) 10, 35, .inl (lf []))), (z5, .inl ((xcA X) 10, 10, .inl (lf []))), (z6, .inl ((xcA X) 10, 4, .inl (lf []))), (z7, .inl ((xcA X) 10, 160, .inl (lf []))), (z8, .inl ((xcA X) 10, 8, .inl (lf [(0), (4), (9), (13), (20), (26), (29)])))]) rfl (by decide) (by unfold vp_in; decide) rfl dX8_init_98 ?_
    refine TC_dup rfl dX8_init_99 ?_
    refine TC_bipush (7) (by decide) dX8_init_100 ?_
    refine TC_bipush (33) (by decide) dX8_init_102 ?_
    refine TC_iast (i := 8) (w' := [(b, .inr (8, [.ref z1, .ref z2, .int 0, .ref z3, .int 0, .int 0, .ref z4, .ref z5, .ref z6, .int 0, .int 0, .int 0, .int 0, .ref z7, .int 0, .int 0, .int 0, .int 0, .int 0, .int 0, .int 0, .int 0, .null, .null, .null, .null, .null, .null, .null, .int 0, .null, .null, .null, .null, .int 0])), (z1, .inl ((xcA X) 10, 210, .inl (lf []))), (z2, .inl ((xcA X) 10, 10, .inl (lf []))), (z3, .inl ((xcA X) 10, 4, .inl (lf []))), (z4, .inl ((xcA X) 10, 35, .inl (lf []))), (z5, .inl ((xcA X) 10, 10, .inl (lf []))), (z6, .inl ((xcA X) 10, 4, .inl (lf []))), (z7, .inl ((xcA X) 10, 160, .inl (lf []))), (z8, .inl ((xcA X) 10, 8, .inl (lf [(0), (4), (9), (13), (20), (26), (29), (33)])))]) rfl (by decide) (by unfold vp_in; decide) rfl dX8_init_104 ?_
    refine TC_putF (ty := (.array .int)) (c := 8) (i := 0) (k := 22) (w' := [(b, .inr (8, [.ref z1, .ref z2, .int 0, .ref z3, .int 0, .int 0, .ref z4, .ref z5, .ref z6, .int 0, .int 0, .int 0, .int 0, .ref z7, .int 0, .int 0, .int 0, .int 0, .int 0, .int 0, .int 0, .int 0, .ref z8, .null, .null, .null, .null, .null, .null, .int 0, .null, .null, .null, .null, .int 0])), (z1, .inl ((xcA X) 10, 210, .inl (lf []))), (z2, .inl ((xcA X) 10, 10, .inl (lf []))), (z3, .inl ((xcA X) 10, 4, .inl (lf []))), (z4, .inl ((xcA X) 10, 35, .inl (lf []))), (z5, .inl ((xcA X) 10, 10, .inl (lf []))), (z6, .inl ((xcA X) 10, 4, .inl (lf []))), (z7, .inl ((xcA X) 10, 160, .inl (lf []))), (z8, .inl ((xcA X) 10, 8, .inl (lf [(0), (4), (9), (13), (20), (26), (29), (33)])))]) rfl (by decide) rfl rfl kfX8_31 (by decide) rfl rfl rfl (Nat.le_of_ble_eq_true rfl) rfl dX8_init_105 ?_
    refine TC_aload_n 0 rfl rfl dX8_init_108 ?_
    refine TC_bipush (33) (by decide) dX8_init_109 ?_
    refine TC_naI 33 (by decide) (by decide) (by decide) (Nat.le_of_ble_eq_true rfl) (Nat.le_of_ble_eq_true rfl) dX8_init_111 (fun z9 => ?_)
    refine TC_w (w' := [(b, .inr (8, [.ref z1, .ref z2, .int 0, .ref z3, .int 0, .int 0, .ref z4, .ref z5, .ref z6, .int 0, .int 0, .int 0, .int 0, .ref z7, .int 0, .int 0, .int 0, .int 0, .int 0, .int 0, .int 0, .int 0, .ref z8, .null, .null, .null, .null, .null, .null, .int 0, .null, .null, .null, .null, .int 0])), (z1, .inl ((xcA X) 10, 210, .inl (lf []))), (z2, .inl ((xcA X) 10, 10, .inl (lf []))), (z3, .inl ((xcA X) 10, 4, .inl (lf []))), (z4, .inl ((xcA X) 10, 35, .inl (lf []))), (z5, .inl ((xcA X) 10, 10, .inl (lf []))), (z6, .inl ((xcA X) 10, 4, .inl (lf []))), (z7, .inl ((xcA X) 10, 160, .inl (lf []))), (z8, .inl ((xcA X) 10, 8, .inl (lf [(0), (4), (9), (13), (20), (26), (29), (33)]))), (z9, .inl ((xcA X) 10, 33, .inl (lf [])))]) rfl ?_
    refine TC_n (c2 := 9) (s2 := 474) rfl rfl ?_
    refine TC_dup rfl dX8_init_113 ?_
    refine TC_iconst (0) (by decide) dX8_init_114 ?_
    refine TC_bipush (119) (by decide) dX8_init_115 ?_
    refine TC_iast (i := 9) (w' := [(b, .inr (8, [.ref z1, .ref z2, .int 0, .ref z3, .int 0, .int 0, .ref z4, .ref z5, .ref z6, .int 0, .int 0, .int 0, .int 0, .ref z7, .int 0, .int 0, .int 0, .int 0, .int 0, .int 0, .int 0, .int 0, .ref z8, .null, .null, .null, .null, .null, .null, .int 0, .null, .null, .null, .null, .int 0])), (z1, .inl ((xcA X) 10, 210, .inl (lf []))), (z2, .inl ((xcA X) 10, 10, .inl (lf []))), (z3, .inl ((xcA X) 10, 4, .inl (lf []))), (z4, .inl ((xcA X) 10, 35, .inl (lf []))), (z5, .inl ((xcA X) 10, 10, .inl (lf []))), (z6, .inl ((xcA X) 10, 4, .inl (lf []))), (z7, .inl ((xcA X) 10, 160, .inl (lf []))), (z8, .inl ((xcA X) 10, 8, .inl (lf [(0), (4), (9), (13), (20), (26), (29), (33)]))), (z9, .inl ((xcA X) 10, 33, .inl (lf [(119)])))]) rfl (by decide) (by unfold vp_in; decide) rfl dX8_init_117 ?_
    refine TC_dup rfl dX8_init_118 ?_
    refine TC_iconst (1) (by decide) dX8_init_119 ?_
    refine TC_bipush (111) (by decide) dX8_init_120 ?_
    refine TC_iast (i := 9) (w' := [(b, .inr (8, [.ref z1, .ref z2, .int 0, .ref z3, .int 0, .int 0, .ref z4, .ref z5, .ref z6, .int 0, .int 0, .int 0, .int 0, .ref z7, .int 0, .int 0, .int 0, .int 0, .int 0, .int 0, .int 0, .int 0, .ref z8, .null, .null, .null, .null, .null, .null, .int 0, .null, .null, .null, .null, .int 0])), (z1, .inl ((xcA X) 10, 210, .inl (lf []))), (z2, .inl ((xcA X) 10, 10, .inl (lf []))), (z3, .inl ((xcA X) 10, 4, .inl (lf []))), (z4, .inl ((xcA X) 10, 35, .inl (lf []))), (z5, .inl ((xcA X) 10, 10, .inl (lf []))), (z6, .inl ((xcA X) 10, 4, .inl (lf []))), (z7, .inl ((xcA X) 10, 160, .inl (lf []))), (z8, .inl ((xcA X) 10, 8, .inl (lf [(0), (4), (9), (13), (20), (26), (29), (33)]))), (z9, .inl ((xcA X) 10, 33, .inl (lf [(119), (111)])))]) rfl (by decide) (by unfold vp_in; decide) rfl dX8_init_122 ?_
    refine TC_dup rfl dX8_init_123 ?_
    refine TC_iconst (2) (by decide) dX8_init_124 ?_
    refine TC_bipush (111) (by decide) dX8_init_125 ?_
    refine TC_iast (i := 9) (w' := [(b, .inr (8, [.ref z1, .ref z2, .int 0, .ref z3, .int 0, .int 0, .ref z4, .ref z5, .ref z6, .int 0, .int 0, .int 0, .int 0, .ref z7, .int 0, .int 0, .int 0, .int 0, .int 0, .int 0, .int 0, .int 0, .ref z8, .null, .null, .null, .null, .null, .null, .int 0, .null, .null, .null, .null, .int 0])), (z1, .inl ((xcA X) 10, 210, .inl (lf []))), (z2, .inl ((xcA X) 10, 10, .inl (lf []))), (z3, .inl ((xcA X) 10, 4, .inl (lf []))), (z4, .inl ((xcA X) 10, 35, .inl (lf []))), (z5, .inl ((xcA X) 10, 10, .inl (lf []))), (z6, .inl ((xcA X) 10, 4, .inl (lf []))), (z7, .inl ((xcA X) 10, 160, .inl (lf []))), (z8, .inl ((xcA X) 10, 8, .inl (lf [(0), (4), (9), (13), (20), (26), (29), (33)]))), (z9, .inl ((xcA X) 10, 33, .inl (lf [(119), (111), (111)])))]) rfl (by decide) (by unfold vp_in; decide) rfl dX8_init_127 ?_
    refine TC_dup rfl dX8_init_128 ?_
    refine TC_iconst (3) (by decide) dX8_init_129 ?_
    refine TC_bipush (100) (by decide) dX8_init_130 ?_
    refine TC_iast (i := 9) (w' := [(b, .inr (8, [.ref z1, .ref z2, .int 0, .ref z3, .int 0, .int 0, .ref z4, .ref z5, .ref z6, .int 0, .int 0, .int 0, .int 0, .ref z7, .int 0, .int 0, .int 0, .int 0, .int 0, .int 0, .int 0, .int 0, .ref z8, .null, .null, .null, .null, .null, .null, .int 0, .null, .null, .null, .null, .int 0])), (z1, .inl ((xcA X) 10, 210, .inl (lf []))), (z2, .inl ((xcA X) 10, 10, .inl (lf []))), (z3, .inl ((xcA X) 10, 4, .inl (lf []))), (z4, .inl ((xcA X) 10, 35, .inl (lf []))), (z5, .inl ((xcA X) 10, 10, .inl (lf []))), (z6, .inl ((xcA X) 10, 4, .inl (lf []))), (z7, .inl ((xcA X) 10, 160, .inl (lf []))), (z8, .inl ((xcA X) 10, 8, .inl (lf [(0), (4), (9), (13), (20), (26), (29), (33)]))), (z9, .inl ((xcA X) 10, 33, .inl (lf [(119), (111), (111), (100)])))]) rfl (by decide) (by unfold vp_in; decide) rfl dX8_init_132 ?_
    refine TC_dup rfl dX8_init_133 ?_
    refine TC_iconst (4) (by decide) dX8_init_134 ?_
    refine TC_bipush (115) (by decide) dX8_init_135 ?_
    refine TC_iast (i := 9) (w' := [(b, .inr (8, [.ref z1, .ref z2, .int 0, .ref z3, .int 0, .int 0, .ref z4, .ref z5, .ref z6, .int 0, .int 0, .int 0, .int 0, .ref z7, .int 0, .int 0, .int 0, .int 0, .int 0, .int 0, .int 0, .int 0, .ref z8, .null, .null, .null, .null, .null, .null, .int 0, .null, .null, .null, .null, .int 0])), (z1, .inl ((xcA X) 10, 210, .inl (lf []))), (z2, .inl ((xcA X) 10, 10, .inl (lf []))), (z3, .inl ((xcA X) 10, 4, .inl (lf []))), (z4, .inl ((xcA X) 10, 35, .inl (lf []))), (z5, .inl ((xcA X) 10, 10, .inl (lf []))), (z6, .inl ((xcA X) 10, 4, .inl (lf []))), (z7, .inl ((xcA X) 10, 160, .inl (lf []))), (z8, .inl ((xcA X) 10, 8, .inl (lf [(0), (4), (9), (13), (20), (26), (29), (33)]))), (z9, .inl ((xcA X) 10, 33, .inl (lf [(119), (111), (111), (100), (115)])))]) rfl (by decide) (by unfold vp_in; decide) rfl dX8_init_137 ?_
    refine TC_dup rfl dX8_init_138 ?_
    refine TC_iconst (5) (by decide) dX8_init_139 ?_
    refine TC_bipush (116) (by decide) dX8_init_140 ?_
    refine TC_iast (i := 9) (w' := [(b, .inr (8, [.ref z1, .ref z2, .int 0, .ref z3, .int 0, .int 0, .ref z4, .ref z5, .ref z6, .int 0, .int 0, .int 0, .int 0, .ref z7, .int 0, .int 0, .int 0, .int 0, .int 0, .int 0, .int 0, .int 0, .ref z8, .null, .null, .null, .null, .null, .null, .int 0, .null, .null, .null, .null, .int 0])), (z1, .inl ((xcA X) 10, 210, .inl (lf []))), (z2, .inl ((xcA X) 10, 10, .inl (lf []))), (z3, .inl ((xcA X) 10, 4, .inl (lf []))), (z4, .inl ((xcA X) 10, 35, .inl (lf []))), (z5, .inl ((xcA X) 10, 10, .inl (lf []))), (z6, .inl ((xcA X) 10, 4, .inl (lf []))), (z7, .inl ((xcA X) 10, 160, .inl (lf []))), (z8, .inl ((xcA X) 10, 8, .inl (lf [(0), (4), (9), (13), (20), (26), (29), (33)]))), (z9, .inl ((xcA X) 10, 33, .inl (lf [(119), (111), (111), (100), (115), (116)])))]) rfl (by decide) (by unfold vp_in; decide) rfl dX8_init_142 ?_
    refine TC_dup rfl dX8_init_143 ?_
    refine TC_bipush (6) (by decide) dX8_init_144 ?_
    refine TC_bipush (111) (by decide) dX8_init_146 ?_
    refine TC_iast (i := 9) (w' := [(b, .inr (8, [.ref z1, .ref z2, .int 0, .ref z3, .int 0, .int 0, .ref z4, .ref z5, .ref z6, .int 0, .int 0, .int 0, .int 0, .ref z7, .int 0, .int 0, .int 0, .int 0, .int 0, .int 0, .int 0, .int 0, .ref z8, .null, .null, .null, .null, .null, .null, .int 0, .null, .null, .null, .null, .int 0])), (z1, .inl ((xcA X) 10, 210, .inl (lf []))), (z2, .inl ((xcA X) 10, 10, .inl (lf []))), (z3, .inl ((xcA X) 10, 4, .inl (lf []))), (z4, .inl ((xcA X) 10, 35, .inl (lf []))), (z5, .inl ((xcA X) 10, 10, .inl (lf []))), (z6, .inl ((xcA X) 10, 4, .inl (lf []))), (z7, .inl ((xcA X) 10, 160, .inl (lf []))), (z8, .inl ((xcA X) 10, 8, .inl (lf [(0), (4), (9), (13), (20), (26), (29), (33)]))), (z9, .inl ((xcA X) 10, 33, .inl (lf [(119), (111), (111), (100), (115), (116), (111)])))]) rfl (by decide) (by unfold vp_in; decide) rfl dX8_init_148 ?_
    refine TC_dup rfl dX8_init_149 ?_
    refine TC_bipush (7) (by decide) dX8_init_150 ?_
    refine TC_bipush (110) (by decide) dX8_init_152 ?_
    refine TC_iast (i := 9) (w' := [(b, .inr (8, [.ref z1, .ref z2, .int 0, .ref z3, .int 0, .int 0, .ref z4, .ref z5, .ref z6, .int 0, .int 0, .int 0, .int 0, .ref z7, .int 0, .int 0, .int 0, .int 0, .int 0, .int 0, .int 0, .int 0, .ref z8, .null, .null, .null, .null, .null, .null, .int 0, .null, .null, .null, .null, .int 0])), (z1, .inl ((xcA X) 10, 210, .inl (lf []))), (z2, .inl ((xcA X) 10, 10, .inl (lf []))), (z3, .inl ((xcA X) 10, 4, .inl (lf []))), (z4, .inl ((xcA X) 10, 35, .inl (lf []))), (z5, .inl ((xcA X) 10, 10, .inl (lf []))), (z6, .inl ((xcA X) 10, 4, .inl (lf []))), (z7, .inl ((xcA X) 10, 160, .inl (lf []))), (z8, .inl ((xcA X) 10, 8, .inl (lf [(0), (4), (9), (13), (20), (26), (29), (33)]))), (z9, .inl ((xcA X) 10, 33, .inl (lf [(119), (111), (111), (100), (115), (116), (111), (110)])))]) rfl (by decide) (by unfold vp_in; decide) rfl dX8_init_154 ?_
    refine TC_dup rfl dX8_init_155 ?_
    refine TC_bipush (8) (by decide) dX8_init_156 ?_
    refine TC_bipush (101) (by decide) dX8_init_158 ?_
    refine TC_iast (i := 9) (w' := [(b, .inr (8, [.ref z1, .ref z2, .int 0, .ref z3, .int 0, .int 0, .ref z4, .ref z5, .ref z6, .int 0, .int 0, .int 0, .int 0, .ref z7, .int 0, .int 0, .int 0, .int 0, .int 0, .int 0, .int 0, .int 0, .ref z8, .null, .null, .null, .null, .null, .null, .int 0, .null, .null, .null, .null, .int 0])), (z1, .inl ((xcA X) 10, 210, .inl (lf []))), (z2, .inl ((xcA X) 10, 10, .inl (lf []))), (z3, .inl ((xcA X) 10, 4, .inl (lf []))), (z4, .inl ((xcA X) 10, 35, .inl (lf []))), (z5, .inl ((xcA X) 10, 10, .inl (lf []))), (z6, .inl ((xcA X) 10, 4, .inl (lf []))), (z7, .inl ((xcA X) 10, 160, .inl (lf []))), (z8, .inl ((xcA X) 10, 8, .inl (lf [(0), (4), (9), (13), (20), (26), (29), (33)]))), (z9, .inl ((xcA X) 10, 33, .inl (lf [(119), (111), (111), (100), (115), (116), (111), (110), (101)])))]) rfl (by decide) (by unfold vp_in; decide) rfl dX8_init_160 ?_
    refine TC_dup rfl dX8_init_161 ?_
    refine TC_bipush (9) (by decide) dX8_init_162 ?_
    refine TC_bipush (105) (by decide) dX8_init_164 ?_
    refine TC_iast (i := 9) (w' := [(b, .inr (8, [.ref z1, .ref z2, .int 0, .ref z3, .int 0, .int 0, .ref z4, .ref z5, .ref z6, .int 0, .int 0, .int 0, .int 0, .ref z7, .int 0, .int 0, .int 0, .int 0, .int 0, .int 0, .int 0, .int 0, .ref z8, .null, .null, .null, .null, .null, .null, .int 0, .null, .null, .null, .null, .int 0])), (z1, .inl ((xcA X) 10, 210, .inl (lf []))), (z2, .inl ((xcA X) 10, 10, .inl (lf []))), (z3, .inl ((xcA X) 10, 4, .inl (lf []))), (z4, .inl ((xcA X) 10, 35, .inl (lf []))), (z5, .inl ((xcA X) 10, 10, .inl (lf []))), (z6, .inl ((xcA X) 10, 4, .inl (lf []))), (z7, .inl ((xcA X) 10, 160, .inl (lf []))), (z8, .inl ((xcA X) 10, 8, .inl (lf [(0), (4), (9), (13), (20), (26), (29), (33)]))), (z9, .inl ((xcA X) 10, 33, .inl (lf [(119), (111), (111), (100), (115), (116), (111), (110), (101), (105)])))]) rfl (by decide) (by unfold vp_in; decide) rfl dX8_init_166 ?_
    refine TC_dup rfl dX8_init_167 ?_
    refine TC_bipush (10) (by decide) dX8_init_168 ?_
    refine TC_bipush (114) (by decide) dX8_init_170 ?_
    refine TC_iast (i := 9) (w' := [(b, .inr (8, [.ref z1, .ref z2, .int 0, .ref z3, .int 0, .int 0, .ref z4, .ref z5, .ref z6, .int 0, .int 0, .int 0, .int 0, .ref z7, .int 0, .int 0, .int 0, .int 0, .int 0, .int 0, .int 0, .int 0, .ref z8, .null, .null, .null, .null, .null, .null, .int 0, .null, .null, .null, .null, .int 0])), (z1, .inl ((xcA X) 10, 210, .inl (lf []))), (z2, .inl ((xcA X) 10, 10, .inl (lf []))), (z3, .inl ((xcA X) 10, 4, .inl (lf []))), (z4, .inl ((xcA X) 10, 35, .inl (lf []))), (z5, .inl ((xcA X) 10, 10, .inl (lf []))), (z6, .inl ((xcA X) 10, 4, .inl (lf []))), (z7, .inl ((xcA X) 10, 160, .inl (lf []))), (z8, .inl ((xcA X) 10, 8, .inl (lf [(0), (4), (9), (13), (20), (26), (29), (33)]))), (z9, .inl ((xcA X) 10, 33, .inl (lf [(119), (111), (111), (100), (115), (116), (111), (110), (101), (105), (114)])))]) rfl (by decide) (by unfold vp_in; decide) rfl dX8_init_172 ?_
    refine TC_dup rfl dX8_init_173 ?_
    refine TC_bipush (11) (by decide) dX8_init_174 ?_
    refine TC_bipush (111) (by decide) dX8_init_176 ?_
    refine TC_iast (i := 9) (w' := [(b, .inr (8, [.ref z1, .ref z2, .int 0, .ref z3, .int 0, .int 0, .ref z4, .ref z5, .ref z6, .int 0, .int 0, .int 0, .int 0, .ref z7, .int 0, .int 0, .int 0, .int 0, .int 0, .int 0, .int 0, .int 0, .ref z8, .null, .null, .null, .null, .null, .null, .int 0, .null, .null, .null, .null, .int 0])), (z1, .inl ((xcA X) 10, 210, .inl (lf []))), (z2, .inl ((xcA X) 10, 10, .inl (lf []))), (z3, .inl ((xcA X) 10, 4, .inl (lf []))), (z4, .inl ((xcA X) 10, 35, .inl (lf []))), (z5, .inl ((xcA X) 10, 10, .inl (lf []))), (z6, .inl ((xcA X) 10, 4, .inl (lf []))), (z7, .inl ((xcA X) 10, 160, .inl (lf []))), (z8, .inl ((xcA X) 10, 8, .inl (lf [(0), (4), (9), (13), (20), (26), (29), (33)]))), (z9, .inl ((xcA X) 10, 33, .inl (lf [(119), (111), (111), (100), (115), (116), (111), (110), (101), (105), (114), (111)])))]) rfl (by decide) (by unfold vp_in; decide) rfl dX8_init_178 ?_
    refine TC_dup rfl dX8_init_179 ?_
    refine TC_bipush (12) (by decide) dX8_init_180 ?_
    refine TC_bipush (110) (by decide) dX8_init_182 ?_
    refine TC_iast (i := 9) (w' := [(b, .inr (8, [.ref z1, .ref z2, .int 0, .ref z3, .int 0, .int 0, .ref z4, .ref z5, .ref z6, .int 0, .int 0, .int 0, .int 0, .ref z7, .int 0, .int 0, .int 0, .int 0, .int 0, .int 0, .int 0, .int 0, .ref z8, .null, .null, .null, .null, .null, .null, .int 0, .null, .null, .null, .null, .int 0])), (z1, .inl ((xcA X) 10, 210, .inl (lf []))), (z2, .inl ((xcA X) 10, 10, .inl (lf []))), (z3, .inl ((xcA X) 10, 4, .inl (lf []))), (z4, .inl ((xcA X) 10, 35, .inl (lf []))), (z5, .inl ((xcA X) 10, 10, .inl (lf []))), (z6, .inl ((xcA X) 10, 4, .inl (lf []))), (z7, .inl ((xcA X) 10, 160, .inl (lf []))), (z8, .inl ((xcA X) 10, 8, .inl (lf [(0), (4), (9), (13), (20), (26), (29), (33)]))), (z9, .inl ((xcA X) 10, 33, .inl (lf [(119), (111), (111), (100), (115), (116), (111), (110), (101), (105), (114), (111), (110)])))]) rfl (by decide) (by unfold vp_in; decide) rfl dX8_init_184 ?_
    refine TC_dup rfl dX8_init_185 ?_
    refine TC_bipush (13) (by decide) dX8_init_186 ?_
    refine TC_bipush (108) (by decide) dX8_init_188 ?_
    refine TC_iast (i := 9) (w' := [(b, .inr (8, [.ref z1, .ref z2, .int 0, .ref z3, .int 0, .int 0, .ref z4, .ref z5, .ref z6, .int 0, .int 0, .int 0, .int 0, .ref z7, .int 0, .int 0, .int 0, .int 0, .int 0, .int 0, .int 0, .int 0, .ref z8, .null, .null, .null, .null, .null, .null, .int 0, .null, .null, .null, .null, .int 0])), (z1, .inl ((xcA X) 10, 210, .inl (lf []))), (z2, .inl ((xcA X) 10, 10, .inl (lf []))), (z3, .inl ((xcA X) 10, 4, .inl (lf []))), (z4, .inl ((xcA X) 10, 35, .inl (lf []))), (z5, .inl ((xcA X) 10, 10, .inl (lf []))), (z6, .inl ((xcA X) 10, 4, .inl (lf []))), (z7, .inl ((xcA X) 10, 160, .inl (lf []))), (z8, .inl ((xcA X) 10, 8, .inl (lf [(0), (4), (9), (13), (20), (26), (29), (33)]))), (z9, .inl ((xcA X) 10, 33, .inl (lf [(119), (111), (111), (100), (115), (116), (111), (110), (101), (105), (114), (111), (110), (108)])))]) rfl (by decide) (by unfold vp_in; decide) rfl dX8_init_190 ?_
    refine TC_dup rfl dX8_init_191 ?_
    refine TC_bipush (14) (by decide) dX8_init_192 ?_
    refine TC_bipush (97) (by decide) dX8_init_194 ?_
    refine TC_iast (i := 9) (w' := [(b, .inr (8, [.ref z1, .ref z2, .int 0, .ref z3, .int 0, .int 0, .ref z4, .ref z5, .ref z6, .int 0, .int 0, .int 0, .int 0, .ref z7, .int 0, .int 0, .int 0, .int 0, .int 0, .int 0, .int 0, .int 0, .ref z8, .null, .null, .null, .null, .null, .null, .int 0, .null, .null, .null, .null, .int 0])), (z1, .inl ((xcA X) 10, 210, .inl (lf []))), (z2, .inl ((xcA X) 10, 10, .inl (lf []))), (z3, .inl ((xcA X) 10, 4, .inl (lf []))), (z4, .inl ((xcA X) 10, 35, .inl (lf []))), (z5, .inl ((xcA X) 10, 10, .inl (lf []))), (z6, .inl ((xcA X) 10, 4, .inl (lf []))), (z7, .inl ((xcA X) 10, 160, .inl (lf []))), (z8, .inl ((xcA X) 10, 8, .inl (lf [(0), (4), (9), (13), (20), (26), (29), (33)]))), (z9, .inl ((xcA X) 10, 33, .inl (lf [(119), (111), (111), (100), (115), (116), (111), (110), (101), (105), (114), (111), (110), (108), (97)])))]) rfl (by decide) (by unfold vp_in; decide) rfl dX8_init_196 ?_
    refine TC_dup rfl dX8_init_197 ?_
    refine TC_bipush (15) (by decide) dX8_init_198 ?_
    refine TC_bipush (110) (by decide) dX8_init_200 ?_
    refine TC_iast (i := 9) (w' := [(b, .inr (8, [.ref z1, .ref z2, .int 0, .ref z3, .int 0, .int 0, .ref z4, .ref z5, .ref z6, .int 0, .int 0, .int 0, .int 0, .ref z7, .int 0, .int 0, .int 0, .int 0, .int 0, .int 0, .int 0, .int 0, .ref z8, .null, .null, .null, .null, .null, .null, .int 0, .null, .null, .null, .null, .int 0])), (z1, .inl ((xcA X) 10, 210, .inl (lf []))), (z2, .inl ((xcA X) 10, 10, .inl (lf []))), (z3, .inl ((xcA X) 10, 4, .inl (lf []))), (z4, .inl ((xcA X) 10, 35, .inl (lf []))), (z5, .inl ((xcA X) 10, 10, .inl (lf []))), (z6, .inl ((xcA X) 10, 4, .inl (lf []))), (z7, .inl ((xcA X) 10, 160, .inl (lf []))), (z8, .inl ((xcA X) 10, 8, .inl (lf [(0), (4), (9), (13), (20), (26), (29), (33)]))), (z9, .inl ((xcA X) 10, 33, .inl (lf [(119), (111), (111), (100), (115), (116), (111), (110), (101), (105), (114), (111), (110), (108), (97), (110)])))]) rfl (by decide) (by unfold vp_in; decide) rfl dX8_init_202 ?_
    refine TC_dup rfl dX8_init_203 ?_
    refine TC_bipush (16) (by decide) dX8_init_204 ?_
    refine TC_bipush (100) (by decide) dX8_init_206 ?_
    refine TC_iast (i := 9) (w' := [(b, .inr (8, [.ref z1, .ref z2, .int 0, .ref z3, .int 0, .int 0, .ref z4, .ref z5, .ref z6, .int 0, .int 0, .int 0, .int 0, .ref z7, .int 0, .int 0, .int 0, .int 0, .int 0, .int 0, .int 0, .int 0, .ref z8, .null, .null, .null, .null, .null, .null, .int 0, .null, .null, .null, .null, .int 0])), (z1, .inl ((xcA X) 10, 210, .inl (lf []))), (z2, .inl ((xcA X) 10, 10, .inl (lf []))), (z3, .inl ((xcA X) 10, 4, .inl (lf []))), (z4, .inl ((xcA X) 10, 35, .inl (lf []))), (z5, .inl ((xcA X) 10, 10, .inl (lf []))), (z6, .inl ((xcA X) 10, 4, .inl (lf []))), (z7, .inl ((xcA X) 10, 160, .inl (lf []))), (z8, .inl ((xcA X) 10, 8, .inl (lf [(0), (4), (9), (13), (20), (26), (29), (33)]))), (z9, .inl ((xcA X) 10, 33, .inl (lf [(119), (111), (111), (100), (115), (116), (111), (110), (101), (105), (114), (111), (110), (108), (97), (110), (100)])))]) rfl (by decide) (by unfold vp_in; decide) rfl dX8_init_208 ?_
    refine TC_dup rfl dX8_init_209 ?_
    refine TC_bipush (17) (by decide) dX8_init_210 ?_
    refine TC_bipush (105) (by decide) dX8_init_212 ?_
    refine TC_iast (i := 9) (w' := [(b, .inr (8, [.ref z1, .ref z2, .int 0, .ref z3, .int 0, .int 0, .ref z4, .ref z5, .ref z6, .int 0, .int 0, .int 0, .int 0, .ref z7, .int 0, .int 0, .int 0, .int 0, .int 0, .int 0, .int 0, .int 0, .ref z8, .null, .null, .null, .null, .null, .null, .int 0, .null, .null, .null, .null, .int 0])), (z1, .inl ((xcA X) 10, 210, .inl (lf []))), (z2, .inl ((xcA X) 10, 10, .inl (lf []))), (z3, .inl ((xcA X) 10, 4, .inl (lf []))), (z4, .inl ((xcA X) 10, 35, .inl (lf []))), (z5, .inl ((xcA X) 10, 10, .inl (lf []))), (z6, .inl ((xcA X) 10, 4, .inl (lf []))), (z7, .inl ((xcA X) 10, 160, .inl (lf []))), (z8, .inl ((xcA X) 10, 8, .inl (lf [(0), (4), (9), (13), (20), (26), (29), (33)]))), (z9, .inl ((xcA X) 10, 33, .inl (lf [(119), (111), (111), (100), (115), (116), (111), (110), (101), (105), (114), (111), (110), (108), (97), (110), (100), (105)])))]) rfl (by decide) (by unfold vp_in; decide) rfl dX8_init_214 ?_
    refine TC_dup rfl dX8_init_215 ?_
    refine TC_bipush (18) (by decide) dX8_init_216 ?_
    refine TC_bipush (110) (by decide) dX8_init_218 ?_
    refine TC_iast (i := 9) (w' := [(b, .inr (8, [.ref z1, .ref z2, .int 0, .ref z3, .int 0, .int 0, .ref z4, .ref z5, .ref z6, .int 0, .int 0, .int 0, .int 0, .ref z7, .int 0, .int 0, .int 0, .int 0, .int 0, .int 0, .int 0, .int 0, .ref z8, .null, .null, .null, .null, .null, .null, .int 0, .null, .null, .null, .null, .int 0])), (z1, .inl ((xcA X) 10, 210, .inl (lf []))), (z2, .inl ((xcA X) 10, 10, .inl (lf []))), (z3, .inl ((xcA X) 10, 4, .inl (lf []))), (z4, .inl ((xcA X) 10, 35, .inl (lf []))), (z5, .inl ((xcA X) 10, 10, .inl (lf []))), (z6, .inl ((xcA X) 10, 4, .inl (lf []))), (z7, .inl ((xcA X) 10, 160, .inl (lf []))), (z8, .inl ((xcA X) 10, 8, .inl (lf [(0), (4), (9), (13), (20), (26), (29), (33)]))), (z9, .inl ((xcA X) 10, 33, .inl (lf [(119), (111), (111), (100), (115), (116), (111), (110), (101), (105), (114), (111), (110), (108), (97), (110), (100), (105), (110)])))]) rfl (by decide) (by unfold vp_in; decide) rfl dX8_init_220 ?_
    refine TC_dup rfl dX8_init_221 ?_
    refine TC_bipush (19) (by decide) dX8_init_222 ?_
    refine TC_bipush (103) (by decide) dX8_init_224 ?_
    refine TC_iast (i := 9) (w' := [(b, .inr (8, [.ref z1, .ref z2, .int 0, .ref z3, .int 0, .int 0, .ref z4, .ref z5, .ref z6, .int 0, .int 0, .int 0, .int 0, .ref z7, .int 0, .int 0, .int 0, .int 0, .int 0, .int 0, .int 0, .int 0, .ref z8, .null, .null, .null, .null, .null, .null, .int 0, .null, .null, .null, .null, .int 0])), (z1, .inl ((xcA X) 10, 210, .inl (lf []))), (z2, .inl ((xcA X) 10, 10, .inl (lf []))), (z3, .inl ((xcA X) 10, 4, .inl (lf []))), (z4, .inl ((xcA X) 10, 35, .inl (lf []))), (z5, .inl ((xcA X) 10, 10, .inl (lf []))), (z6, .inl ((xcA X) 10, 4, .inl (lf []))), (z7, .inl ((xcA X) 10, 160, .inl (lf []))), (z8, .inl ((xcA X) 10, 8, .inl (lf [(0), (4), (9), (13), (20), (26), (29), (33)]))), (z9, .inl ((xcA X) 10, 33, .inl (lf [(119), (111), (111), (100), (115), (116), (111), (110), (101), (105), (114), (111), (110), (108), (97), (110), (100), (105), (110), (103)])))]) rfl (by decide) (by unfold vp_in; decide) rfl dX8_init_226 ?_
    refine TC_dup rfl dX8_init_227 ?_
    refine TC_bipush (20) (by decide) dX8_init_228 ?_
    refine TC_bipush (108) (by decide) dX8_init_230 ?_
    refine TC_iast (i := 9) (w' := [(b, .inr (8, [.ref z1, .ref z2, .int 0, .ref z3, .int 0, .int 0, .ref z4, .ref z5, .ref z6, .int 0, .int 0, .int 0, .int 0, .ref z7, .int 0, .int 0, .int 0, .int 0, .int 0, .int 0, .int 0, .int 0, .ref z8, .null, .null, .null, .null, .null, .null, .int 0, .null, .null, .null, .null, .int 0])), (z1, .inl ((xcA X) 10, 210, .inl (lf []))), (z2, .inl ((xcA X) 10, 10, .inl (lf []))), (z3, .inl ((xcA X) 10, 4, .inl (lf []))), (z4, .inl ((xcA X) 10, 35, .inl (lf []))), (z5, .inl ((xcA X) 10, 10, .inl (lf []))), (z6, .inl ((xcA X) 10, 4, .inl (lf []))), (z7, .inl ((xcA X) 10, 160, .inl (lf []))), (z8, .inl ((xcA X) 10, 8, .inl (lf [(0), (4), (9), (13), (20), (26), (29), (33)]))), (z9, .inl ((xcA X) 10, 33, .inl (lf [(119), (111), (111), (100), (115), (116), (111), (110), (101), (105), (114), (111), (110), (108), (97), (110), (100), (105), (110), (103), (108)])))]) rfl (by decide) (by unfold vp_in; decide) rfl dX8_init_232 ?_
    refine TC_dup rfl dX8_init_233 ?_
    refine TC_bipush (21) (by decide) dX8_init_234 ?_
    refine TC_bipush (111) (by decide) dX8_init_236 ?_
    refine TC_iast (i := 9) (w' := [(b, .inr (8, [.ref z1, .ref z2, .int 0, .ref z3, .int 0, .int 0, .ref z4, .ref z5, .ref z6, .int 0, .int 0, .int 0, .int 0, .ref z7, .int 0, .int 0, .int 0, .int 0, .int 0, .int 0, .int 0, .int 0, .ref z8, .null, .null, .null, .null, .null, .null, .int 0, .null, .null, .null, .null, .int 0])), (z1, .inl ((xcA X) 10, 210, .inl (lf []))), (z2, .inl ((xcA X) 10, 10, .inl (lf []))), (z3, .inl ((xcA X) 10, 4, .inl (lf []))), (z4, .inl ((xcA X) 10, 35, .inl (lf []))), (z5, .inl ((xcA X) 10, 10, .inl (lf []))), (z6, .inl ((xcA X) 10, 4, .inl (lf []))), (z7, .inl ((xcA X) 10, 160, .inl (lf []))), (z8, .inl ((xcA X) 10, 8, .inl (lf [(0), (4), (9), (13), (20), (26), (29), (33)]))), (z9, .inl ((xcA X) 10, 33, .inl (lf [(119), (111), (111), (100), (115), (116), (111), (110), (101), (105), (114), (111), (110), (108), (97), (110), (100), (105), (110), (103), (108), (111)])))]) rfl (by decide) (by unfold vp_in; decide) rfl dX8_init_238 ?_
    refine TC_dup rfl dX8_init_239 ?_
    refine TC_bipush (22) (by decide) dX8_init_240 ?_
    refine TC_bipush (100) (by decide) dX8_init_242 ?_
    refine TC_iast (i := 9) (w' := [(b, .inr (8, [.ref z1, .ref z2, .int 0, .ref z3, .int 0, .int 0, .ref z4, .ref z5, .ref z6, .int 0, .int 0, .int 0, .int 0, .ref z7, .int 0, .int 0, .int 0, .int 0, .int 0, .int 0, .int 0, .int 0, .ref z8, .null, .null, .null, .null, .null, .null, .int 0, .null, .null, .null, .null, .int 0])), (z1, .inl ((xcA X) 10, 210, .inl (lf []))), (z2, .inl ((xcA X) 10, 10, .inl (lf []))), (z3, .inl ((xcA X) 10, 4, .inl (lf []))), (z4, .inl ((xcA X) 10, 35, .inl (lf []))), (z5, .inl ((xcA X) 10, 10, .inl (lf []))), (z6, .inl ((xcA X) 10, 4, .inl (lf []))), (z7, .inl ((xcA X) 10, 160, .inl (lf []))), (z8, .inl ((xcA X) 10, 8, .inl (lf [(0), (4), (9), (13), (20), (26), (29), (33)]))), (z9, .inl ((xcA X) 10, 33, .inl (lf [(119), (111), (111), (100), (115), (116), (111), (110), (101), (105), (114), (111), (110), (108), (97), (110), (100), (105), (110), (103), (108), (111), (100)])))]) rfl (by decide) (by unfold vp_in; decide) rfl dX8_init_244 ?_
    refine TC_dup rfl dX8_init_245 ?_
    refine TC_bipush (23) (by decide) dX8_init_246 ?_
    refine TC_bipush (103) (by decide) dX8_init_248 ?_
    refine TC_iast (i := 9) (w' := [(b, .inr (8, [.ref z1, .ref z2, .int 0, .ref z3, .int 0, .int 0, .ref z4, .ref z5, .ref z6, .int 0, .int 0, .int 0, .int 0, .ref z7, .int 0, .int 0, .int 0, .int 0, .int 0, .int 0, .int 0, .int 0, .ref z8, .null, .null, .null, .null, .null, .null, .int 0, .null, .null, .null, .null, .int 0])), (z1, .inl ((xcA X) 10, 210, .inl (lf []))), (z2, .inl ((xcA X) 10, 10, .inl (lf []))), (z3, .inl ((xcA X) 10, 4, .inl (lf []))), (z4, .inl ((xcA X) 10, 35, .inl (lf []))), (z5, .inl ((xcA X) 10, 10, .inl (lf []))), (z6, .inl ((xcA X) 10, 4, .inl (lf []))), (z7, .inl ((xcA X) 10, 160, .inl (lf []))), (z8, .inl ((xcA X) 10, 8, .inl (lf [(0), (4), (9), (13), (20), (26), (29), (33)]))), (z9, .inl ((xcA X) 10, 33, .inl (lf [(119), (111), (111), (100), (115), (116), (111), (110), (101), (105), (114), (111), (110), (108), (97), (110), (100), (105), (110), (103), (108), (111), (100), (103)])))]) rfl (by decide) (by unfold vp_in; decide) rfl dX8_init_250 ?_
    refine TC_dup rfl dX8_init_251 ?_
    refine TC_bipush (24) (by decide) dX8_init_252 ?_
    refine TC_bipush (101) (by decide) dX8_init_254 ?_
    refine TC_iast (i := 9) (w' := [(b, .inr (8, [.ref z1, .ref z2, .int 0, .ref z3, .int 0, .int 0, .ref z4, .ref z5, .ref z6, .int 0, .int 0, .int 0, .int 0, .ref z7, .int 0, .int 0, .int 0, .int 0, .int 0, .int 0, .int 0, .int 0, .ref z8, .null, .null, .null, .null, .null, .null, .int 0, .null, .null, .null, .null, .int 0])), (z1, .inl ((xcA X) 10, 210, .inl (lf []))), (z2, .inl ((xcA X) 10, 10, .inl (lf []))), (z3, .inl ((xcA X) 10, 4, .inl (lf []))), (z4, .inl ((xcA X) 10, 35, .inl (lf []))), (z5, .inl ((xcA X) 10, 10, .inl (lf []))), (z6, .inl ((xcA X) 10, 4, .inl (lf []))), (z7, .inl ((xcA X) 10, 160, .inl (lf []))), (z8, .inl ((xcA X) 10, 8, .inl (lf [(0), (4), (9), (13), (20), (26), (29), (33)]))), (z9, .inl ((xcA X) 10, 33, .inl (lf [(119), (111), (111), (100), (115), (116), (111), (110), (101), (105), (114), (111), (110), (108), (97), (110), (100), (105), (110), (103), (108), (111), (100), (103), (101)])))]) rfl (by decide) (by unfold vp_in; decide) rfl dX8_init_256 ?_
    refine TC_dup rfl dX8_init_257 ?_
    refine TC_bipush (25) (by decide) dX8_init_258 ?_
    refine TC_bipush (114) (by decide) dX8_init_260 ?_
    refine TC_iast (i := 9) (w' := [(b, .inr (8, [.ref z1, .ref z2, .int 0, .ref z3, .int 0, .int 0, .ref z4, .ref z5, .ref z6, .int 0, .int 0, .int 0, .int 0, .ref z7, .int 0, .int 0, .int 0, .int 0, .int 0, .int 0, .int 0, .int 0, .ref z8, .null, .null, .null, .null, .null, .null, .int 0, .null, .null, .null, .null, .int 0])), (z1, .inl ((xcA X) 10, 210, .inl (lf []))), (z2, .inl ((xcA X) 10, 10, .inl (lf []))), (z3, .inl ((xcA X) 10, 4, .inl (lf []))), (z4, .inl ((xcA X) 10, 35, .inl (lf []))), (z5, .inl ((xcA X) 10, 10, .inl (lf []))), (z6, .inl ((xcA X) 10, 4, .inl (lf []))), (z7, .inl ((xcA X) 10, 160, .inl (lf []))), (z8, .inl ((xcA X) 10, 8, .inl (lf [(0), (4), (9), (13), (20), (26), (29), (33)]))), (z9, .inl ((xcA X) 10, 33, .inl (lf [(119), (111), (111), (100), (115), (116), (111), (110), (101), (105), (114), (111), (110), (108), (97), (110), (100), (105), (110), (103), (108), (111), (100), (103), (101), (114)])))]) rfl (by decide) (by unfold vp_in; decide) rfl dX8_init_262 ?_
    refine TC_dup rfl dX8_init_263 ?_
    refine TC_bipush (26) (by decide) dX8_init_264 ?_
    refine TC_bipush (103) (by decide) dX8_init_266 ?_
    refine TC_iast (i := 9) (w' := [(b, .inr (8, [.ref z1, .ref z2, .int 0, .ref z3, .int 0, .int 0, .ref z4, .ref z5, .ref z6, .int 0, .int 0, .int 0, .int 0, .ref z7, .int 0, .int 0, .int 0, .int 0, .int 0, .int 0, .int 0, .int 0, .ref z8, .null, .null, .null, .null, .null, .null, .int 0, .null, .null, .null, .null, .int 0])), (z1, .inl ((xcA X) 10, 210, .inl (lf []))), (z2, .inl ((xcA X) 10, 10, .inl (lf []))), (z3, .inl ((xcA X) 10, 4, .inl (lf []))), (z4, .inl ((xcA X) 10, 35, .inl (lf []))), (z5, .inl ((xcA X) 10, 10, .inl (lf []))), (z6, .inl ((xcA X) 10, 4, .inl (lf []))), (z7, .inl ((xcA X) 10, 160, .inl (lf []))), (z8, .inl ((xcA X) 10, 8, .inl (lf [(0), (4), (9), (13), (20), (26), (29), (33)]))), (z9, .inl ((xcA X) 10, 33, .inl (lf [(119), (111), (111), (100), (115), (116), (111), (110), (101), (105), (114), (111), (110), (108), (97), (110), (100), (105), (110), (103), (108), (111), (100), (103), (101), (114), (103)])))]) rfl (by decide) (by unfold vp_in; decide) rfl dX8_init_268 ?_
    refine TC_dup rfl dX8_init_269 ?_
    refine TC_bipush (27) (by decide) dX8_init_270 ?_
    refine TC_bipush (97) (by decide) dX8_init_272 ?_
    refine TC_iast (i := 9) (w' := [(b, .inr (8, [.ref z1, .ref z2, .int 0, .ref z3, .int 0, .int 0, .ref z4, .ref z5, .ref z6, .int 0, .int 0, .int 0, .int 0, .ref z7, .int 0, .int 0, .int 0, .int 0, .int 0, .int 0, .int 0, .int 0, .ref z8, .null, .null, .null, .null, .null, .null, .int 0, .null, .null, .null, .null, .int 0])), (z1, .inl ((xcA X) 10, 210, .inl (lf []))), (z2, .inl ((xcA X) 10, 10, .inl (lf []))), (z3, .inl ((xcA X) 10, 4, .inl (lf []))), (z4, .inl ((xcA X) 10, 35, .inl (lf []))), (z5, .inl ((xcA X) 10, 10, .inl (lf []))), (z6, .inl ((xcA X) 10, 4, .inl (lf []))), (z7, .inl ((xcA X) 10, 160, .inl (lf []))), (z8, .inl ((xcA X) 10, 8, .inl (lf [(0), (4), (9), (13), (20), (26), (29), (33)]))), (z9, .inl ((xcA X) 10, 33, .inl (lf [(119), (111), (111), (100), (115), (116), (111), (110), (101), (105), (114), (111), (110), (108), (97), (110), (100), (105), (110), (103), (108), (111), (100), (103), (101), (114), (103), (97)])))]) rfl (by decide) (by unfold vp_in; decide) rfl dX8_init_274 ?_
    refine TC_dup rfl dX8_init_275 ?_
    refine TC_bipush (28) (by decide) dX8_init_276 ?_
    refine TC_bipush (112) (by decide) dX8_init_278 ?_
    refine TC_iast (i := 9) (w' := [(b, .inr (8, [.ref z1, .ref z2, .int 0, .ref z3, .int 0, .int 0, .ref z4, .ref z5, .ref z6, .int 0, .int 0, .int 0, .int 0, .ref z7, .int 0, .int 0, .int 0, .int 0, .int 0, .int 0, .int 0, .int 0, .ref z8, .null, .null, .null, .null, .null, .null, .int 0, .null, .null, .null, .null, .int 0])), (z1, .inl ((xcA X) 10, 210, .inl (lf []))), (z2, .inl ((xcA X) 10, 10, .inl (lf []))), (z3, .inl ((xcA X) 10, 4, .inl (lf []))), (z4, .inl ((xcA X) 10, 35, .inl (lf []))), (z5, .inl ((xcA X) 10, 10, .inl (lf []))), (z6, .inl ((xcA X) 10, 4, .inl (lf []))), (z7, .inl ((xcA X) 10, 160, .inl (lf []))), (z8, .inl ((xcA X) 10, 8, .inl (lf [(0), (4), (9), (13), (20), (26), (29), (33)]))), (z9, .inl ((xcA X) 10, 33, .inl (lf [(119), (111), (111), (100), (115), (116), (111), (110), (101), (105), (114), (111), (110), (108), (97), (110), (100), (105), (110), (103), (108), (111), (100), (103), (101), (114), (103), (97), (112)])))]) rfl (by decide) (by unfold vp_in; decide) rfl dX8_init_280 ?_
    refine TC_dup rfl dX8_init_281 ?_
    refine TC_bipush (29) (by decide) dX8_init_282 ?_
    refine TC_bipush (104) (by decide) dX8_init_284 ?_
    refine TC_iast (i := 9) (w' := [(b, .inr (8, [.ref z1, .ref z2, .int 0, .ref z3, .int 0, .int 0, .ref z4, .ref z5, .ref z6, .int 0, .int 0, .int 0, .int 0, .ref z7, .int 0, .int 0, .int 0, .int 0, .int 0, .int 0, .int 0, .int 0, .ref z8, .null, .null, .null, .null, .null, .null, .int 0, .null, .null, .null, .null, .int 0])), (z1, .inl ((xcA X) 10, 210, .inl (lf []))), (z2, .inl ((xcA X) 10, 10, .inl (lf []))), (z3, .inl ((xcA X) 10, 4, .inl (lf []))), (z4, .inl ((xcA X) 10, 35, .inl (lf []))), (z5, .inl ((xcA X) 10, 10, .inl (lf []))), (z6, .inl ((xcA X) 10, 4, .inl (lf []))), (z7, .inl ((xcA X) 10, 160, .inl (lf []))), (z8, .inl ((xcA X) 10, 8, .inl (lf [(0), (4), (9), (13), (20), (26), (29), (33)]))), (z9, .inl ((xcA X) 10, 33, .inl (lf [(119), (111), (111), (100), (115), (116), (111), (110), (101), (105), (114), (111), (110), (108), (97), (110), (100), (105), (110), (103), (108), (111), (100), (103), (101), (114), (103), (97), (112), (104)])))]) rfl (by decide) (by unfold vp_in; decide) rfl dX8_init_286 ?_
    refine TC_dup rfl dX8_init_287 ?_
    refine TC_bipush (30) (by decide) dX8_init_288 ?_
    refine TC_bipush (111) (by decide) dX8_init_290 ?_
    refine TC_iast (i := 9) (w' := [(b, .inr (8, [.ref z1, .ref z2, .int 0, .ref z3, .int 0, .int 0, .ref z4, .ref z5, .ref z6, .int 0, .int 0, .int 0, .int 0, .ref z7, .int 0, .int 0, .int 0, .int 0, .int 0, .int 0, .int 0, .int 0, .ref z8, .null, .null, .null, .null, .null, .null, .int 0, .null, .null, .null, .null, .int 0])), (z1, .inl ((xcA X) 10, 210, .inl (lf []))), (z2, .inl ((xcA X) 10, 10, .inl (lf []))), (z3, .inl ((xcA X) 10, 4, .inl (lf []))), (z4, .inl ((xcA X) 10, 35, .inl (lf []))), (z5, .inl ((xcA X) 10, 10, .inl (lf []))), (z6, .inl ((xcA X) 10, 4, .inl (lf []))), (z7, .inl ((xcA X) 10, 160, .inl (lf []))), (z8, .inl ((xcA X) 10, 8, .inl (lf [(0), (4), (9), (13), (20), (26), (29), (33)]))), (z9, .inl ((xcA X) 10, 33, .inl (lf [(119), (111), (111), (100), (115), (116), (111), (110), (101), (105), (114), (111), (110), (108), (97), (110), (100), (105), (110), (103), (108), (111), (100), (103), (101), (114), (103), (97), (112), (104), (111)])))]) rfl (by decide) (by unfold vp_in; decide) rfl dX8_init_292 ?_
    refine TC_dup rfl dX8_init_293 ?_
    refine TC_bipush (31) (by decide) dX8_init_294 ?_
    refine TC_bipush (108) (by decide) dX8_init_296 ?_
    refine TC_iast (i := 9) (w' := [(b, .inr (8, [.ref z1, .ref z2, .int 0, .ref z3, .int 0, .int 0, .ref z4, .ref z5, .ref z6, .int 0, .int 0, .int 0, .int 0, .ref z7, .int 0, .int 0, .int 0, .int 0, .int 0, .int 0, .int 0, .int 0, .ref z8, .null, .null, .null, .null, .null, .null, .int 0, .null, .null, .null, .null, .int 0])), (z1, .inl ((xcA X) 10, 210, .inl (lf []))), (z2, .inl ((xcA X) 10, 10, .inl (lf []))), (z3, .inl ((xcA X) 10, 4, .inl (lf []))), (z4, .inl ((xcA X) 10, 35, .inl (lf []))), (z5, .inl ((xcA X) 10, 10, .inl (lf []))), (z6, .inl ((xcA X) 10, 4, .inl (lf []))), (z7, .inl ((xcA X) 10, 160, .inl (lf []))), (z8, .inl ((xcA X) 10, 8, .inl (lf [(0), (4), (9), (13), (20), (26), (29), (33)]))), (z9, .inl ((xcA X) 10, 33, .inl (lf [(119), (111), (111), (100), (115), (116), (111), (110), (101), (105), (114), (111), (110), (108), (97), (110), (100), (105), (110), (103), (108), (111), (100), (103), (101), (114), (103), (97), (112), (104), (111), (108)])))]) rfl (by decide) (by unfold vp_in; decide) rfl dX8_init_298 ?_
    refine TC_dup rfl dX8_init_299 ?_
    refine TC_bipush (32) (by decide) dX8_init_300 ?_
    refine TC_bipush (100) (by decide) dX8_init_302 ?_
    refine TC_iast (i := 9) (w' := [(b, .inr (8, [.ref z1, .ref z2, .int 0, .ref z3, .int 0, .int 0, .ref z4, .ref z5, .ref z6, .int 0, .int 0, .int 0, .int 0, .ref z7, .int 0, .int 0, .int 0, .int 0, .int 0, .int 0, .int 0, .int 0, .ref z8, .null, .null, .null, .null, .null, .null, .int 0, .null, .null, .null, .null, .int 0])), (z1, .inl ((xcA X) 10, 210, .inl (lf []))), (z2, .inl ((xcA X) 10, 10, .inl (lf []))), (z3, .inl ((xcA X) 10, 4, .inl (lf []))), (z4, .inl ((xcA X) 10, 35, .inl (lf []))), (z5, .inl ((xcA X) 10, 10, .inl (lf []))), (z6, .inl ((xcA X) 10, 4, .inl (lf []))), (z7, .inl ((xcA X) 10, 160, .inl (lf []))), (z8, .inl ((xcA X) 10, 8, .inl (lf [(0), (4), (9), (13), (20), (26), (29), (33)]))), (z9, .inl ((xcA X) 10, 33, .inl (lf [(119), (111), (111), (100), (115), (116), (111), (110), (101), (105), (114), (111), (110), (108), (97), (110), (100), (105), (110), (103), (108), (111), (100), (103), (101), (114), (103), (97), (112), (104), (111), (108), (100)])))]) rfl (by decide) (by unfold vp_in; decide) rfl dX8_init_304 ?_
    refine TC_putF (ty := (.array .int)) (c := 8) (i := 0) (k := 23) (w' := [(b, .inr (8, [.ref z1, .ref z2, .int 0, .ref z3, .int 0, .int 0, .ref z4, .ref z5, .ref z6, .int 0, .int 0, .int 0, .int 0, .ref z7, .int 0, .int 0, .int 0, .int 0, .int 0, .int 0, .int 0, .int 0, .ref z8, .ref z9, .null, .null, .null, .null, .null, .int 0, .null, .null, .null, .null, .int 0])), (z1, .inl ((xcA X) 10, 210, .inl (lf []))), (z2, .inl ((xcA X) 10, 10, .inl (lf []))), (z3, .inl ((xcA X) 10, 4, .inl (lf []))), (z4, .inl ((xcA X) 10, 35, .inl (lf []))), (z5, .inl ((xcA X) 10, 10, .inl (lf []))), (z6, .inl ((xcA X) 10, 4, .inl (lf []))), (z7, .inl ((xcA X) 10, 160, .inl (lf []))), (z8, .inl ((xcA X) 10, 8, .inl (lf [(0), (4), (9), (13), (20), (26), (29), (33)]))), (z9, .inl ((xcA X) 10, 33, .inl (lf [(119), (111), (111), (100), (115), (116), (111), (110), (101), (105), (114), (111), (110), (108), (97), (110), (100), (105), (110), (103), (108), (111), (100), (103), (101), (114), (103), (97), (112), (104), (111), (108), (100)])))]) rfl (by decide) rfl rfl kfX8_34 (by decide) rfl rfl rfl (Nat.le_of_ble_eq_true rfl) rfl dX8_init_305 ?_
    refine TC_aload_n 0 rfl rfl dX8_init_308 ?_
    refine TC_bipush (11) (by decide) dX8_init_309 ?_
    refine TC_naI 11 (by decide) (by decide) (by decide) (Nat.le_of_ble_eq_true rfl) (Nat.le_of_ble_eq_true rfl) dX8_init_311 (fun z10 => ?_)
    refine TC_w (w' := [(b, .inr (8, [.ref z1, .ref z2, .int 0, .ref z3, .int 0, .int 0, .ref z4, .ref z5, .ref z6, .int 0, .int 0, .int 0, .int 0, .ref z7, .int 0, .int 0, .int 0, .int 0, .int 0, .int 0, .int 0, .int 0, .ref z8, .ref z9, .null, .null, .null, .null, .null, .int 0, .null, .null, .null, .null, .int 0])), (z1, .inl ((xcA X) 10, 210, .inl (lf []))), (z2, .inl ((xcA X) 10, 10, .inl (lf []))), (z3, .inl ((xcA X) 10, 4, .inl (lf []))), (z4, .inl ((xcA X) 10, 35, .inl (lf []))), (z5, .inl ((xcA X) 10, 10, .inl (lf []))), (z6, .inl ((xcA X) 10, 4, .inl (lf []))), (z7, .inl ((xcA X) 10, 160, .inl (lf []))), (z8, .inl ((xcA X) 10, 8, .inl (lf [(0), (4), (9), (13), (20), (26), (29), (33)]))), (z9, .inl ((xcA X) 10, 33, .inl (lf [(119), (111), (111), (100), (115), (116), (111), (110), (101), (105), (114), (111), (110), (108), (97), (110), (100), (105), (110), (103), (108), (111), (100), (103), (101), (114), (103), (97), (112), (104), (111), (108), (100)]))), (z10, .inl ((xcA X) 10, 11, .inl (lf [])))]) rfl ?_
    refine TC_n (c2 := 10) (s2 := 485) rfl rfl ?_
    refine TC_putF (ty := (.array .int)) (c := 8) (i := 0) (k := 24) (w' := [(b, .inr (8, [.ref z1, .ref z2, .int 0, .ref z3, .int 0, .int 0, .ref z4, .ref z5, .ref z6, .int 0, .int 0, .int 0, .int 0, .ref z7, .int 0, .int 0, .int 0, .int 0, .int 0, .int 0, .int 0, .int 0, .ref z8, .ref z9, .ref z10, .null, .null, .null, .null, .int 0, .null, .null, .null, .null, .int 0])), (z1, .inl ((xcA X) 10, 210, .inl (lf []))), (z2, .inl ((xcA X) 10, 10, .inl (lf []))), (z3, .inl ((xcA X) 10, 4, .inl (lf []))), (z4, .inl ((xcA X) 10, 35, .inl (lf []))), (z5, .inl ((xcA X) 10, 10, .inl (lf []))), (z6, .inl ((xcA X) 10, 4, .inl (lf []))), (z7, .inl ((xcA X) 10, 160, .inl (lf []))), (z8, .inl ((xcA X) 10, 8, .inl (lf [(0), (4), (9), (13), (20), (26), (29), (33)]))), (z9, .inl ((xcA X) 10, 33, .inl (lf [(119), (111), (111), (100), (115), (116), (111), (110), (101), (105), (114), (111), (110), (108), (97), (110), (100), (105), (110), (103), (108), (111), (100), (103), (101), (114), (103), (97), (112), (104), (111), (108), (100)]))), (z10, .inl ((xcA X) 10, 11, .inl (lf [])))]) rfl (by decide) rfl rfl kfX8_37 (by decide) rfl rfl rfl (Nat.le_of_ble_eq_true rfl) rfl dX8_init_313 ?_
    refine TC_aload_n 0 rfl rfl dX8_init_316 ?_
    refine TC_bipush (10) (by decide) dX8_init_317 ?_
    refine TC_naI 10 (by decide) (by decide) (by decide) (Nat.le_of_ble_eq_true rfl) (Nat.le_of_ble_eq_true rfl) dX8_init_319 (fun z11 => ?_)
    refine TC_w (w' := [(b, .inr (8, [.ref z1, .ref z2, .int 0, .ref z3, .int 0, .int 0, .ref z4, .ref z5, .ref z6, .int 0, .int 0, .int 0, .int 0, .ref z7, .int 0, .int 0, .int 0, .int 0, .int 0, .int 0, .int 0, .int 0, .ref z8, .ref z9, .ref z10, .null, .null, .null, .null, .int 0, .null, .null, .null, .null, .int 0])), (z1, .inl ((xcA X) 10, 210, .inl (lf []))), (z2, .inl ((xcA X) 10, 10, .inl (lf []))), (z3, .inl ((xcA X) 10, 4, .inl (lf []))), (z4, .inl ((xcA X) 10, 35, .inl (lf []))), (z5, .inl ((xcA X) 10, 10, .inl (lf []))), (z6, .inl ((xcA X) 10, 4, .inl (lf []))), (z7, .inl ((xcA X) 10, 160, .inl (lf []))), (z8, .inl ((xcA X) 10, 8, .inl (lf [(0), (4), (9), (13), (20), (26), (29), (33)]))), (z9, .inl ((xcA X) 10, 33, .inl (lf [(119), (111), (111), (100), (115), (116), (111), (110), (101), (105), (114), (111), (110), (108), (97), (110), (100), (105), (110), (103), (108), (111), (100), (103), (101), (114), (103), (97), (112), (104), (111), (108), (100)]))), (z10, .inl ((xcA X) 10, 11, .inl (lf []))), (z11, .inl ((xcA X) 10, 10, .inl (lf [])))]) rfl ?_
    refine TC_n (c2 := 11) (s2 := 495) rfl rfl ?_
    refine TC_putF (ty := (.array .int)) (c := 8) (i := 0) (k := 25) (w' := [(b, .inr (8, [.ref z1, .ref z2, .int 0, .ref z3, .int 0, .int 0, .ref z4, .ref z5, .ref z6, .int 0, .int 0, .int 0, .int 0, .ref z7, .int 0, .int 0, .int 0, .int 0, .int 0, .int 0, .int 0, .int 0, .ref z8, .ref z9, .ref z10, .ref z11, .null, .null, .null, .int 0, .null, .null, .null, .null, .int 0])), (z1, .inl ((xcA X) 10, 210, .inl (lf []))), (z2, .inl ((xcA X) 10, 10, .inl (lf []))), (z3, .inl ((xcA X) 10, 4, .inl (lf []))), (z4, .inl ((xcA X) 10, 35, .inl (lf []))), (z5, .inl ((xcA X) 10, 10, .inl (lf []))), (z6, .inl ((xcA X) 10, 4, .inl (lf []))), (z7, .inl ((xcA X) 10, 160, .inl (lf []))), (z8, .inl ((xcA X) 10, 8, .inl (lf [(0), (4), (9), (13), (20), (26), (29), (33)]))), (z9, .inl ((xcA X) 10, 33, .inl (lf [(119), (111), (111), (100), (115), (116), (111), (110), (101), (105), (114), (111), (110), (108), (97), (110), (100), (105), (110), (103), (108), (111), (100), (103), (101), (114), (103), (97), (112), (104), (111), (108), (100)]))), (z10, .inl ((xcA X) 10, 11, .inl (lf []))), (z11, .inl ((xcA X) 10, 10, .inl (lf [])))]) rfl (by decide) rfl rfl kfX8_40 (by decide) rfl rfl rfl (Nat.le_of_ble_eq_true rfl) rfl dX8_init_321 ?_
    refine TC_aload_n 0 rfl rfl dX8_init_324 ?_
    refine TC_bipush (11) (by decide) dX8_init_325 ?_
    refine TC_naI 11 (by decide) (by decide) (by decide) (Nat.le_of_ble_eq_true rfl) (Nat.le_of_ble_eq_true rfl) dX8_init_327 (fun z12 => ?_)
    refine TC_w (w' := [(b, .inr (8, [.ref z1, .ref z2, .int 0, .ref z3, .int 0, .int 0, .ref z4, .ref z5, .ref z6, .int 0, .int 0, .int 0, .int 0, .ref z7, .int 0, .int 0, .int 0, .int 0, .int 0, .int 0, .int 0, .int 0, .ref z8, .ref z9, .ref z10, .ref z11, .null, .null, .null, .int 0, .null, .null, .null, .null, .int 0])), (z1, .inl ((xcA X) 10, 210, .inl (lf []))), (z2, .inl ((xcA X) 10, 10, .inl (lf []))), (z3, .inl ((xcA X) 10, 4, .inl (lf []))), (z4, .inl ((xcA X) 10, 35, .inl (lf []))), (z5, .inl ((xcA X) 10, 10, .inl (lf []))), (z6, .inl ((xcA X) 10, 4, .inl (lf []))), (z7, .inl ((xcA X) 10, 160, .inl (lf []))), (z8, .inl ((xcA X) 10, 8, .inl (lf [(0), (4), (9), (13), (20), (26), (29), (33)]))), (z9, .inl ((xcA X) 10, 33, .inl (lf [(119), (111), (111), (100), (115), (116), (111), (110), (101), (105), (114), (111), (110), (108), (97), (110), (100), (105), (110), (103), (108), (111), (100), (103), (101), (114), (103), (97), (112), (104), (111), (108), (100)]))), (z10, .inl ((xcA X) 10, 11, .inl (lf []))), (z11, .inl ((xcA X) 10, 10, .inl (lf []))), (z12, .inl ((xcA X) 10, 11, .inl (lf [])))]) rfl ?_
    refine TC_n (c2 := 12) (s2 := 506) rfl rfl ?_
    refine TC_putF (ty := (.array .int)) (c := 8) (i := 0) (k := 26) (w' := [(b, .inr (8, [.ref z1, .ref z2, .int 0, .ref z3, .int 0, .int 0, .ref z4, .ref z5, .ref z6, .int 0, .int 0, .int 0, .int 0, .ref z7, .int 0, .int 0, .int 0, .int 0, .int 0, .int 0, .int 0, .int 0, .ref z8, .ref z9, .ref z10, .ref z11, .ref z12, .null, .null, .int 0, .null, .null, .null, .null, .int 0])), (z1, .inl ((xcA X) 10, 210, .inl (lf []))), (z2, .inl ((xcA X) 10, 10, .inl (lf []))), (z3, .inl ((xcA X) 10, 4, .inl (lf []))), (z4, .inl ((xcA X) 10, 35, .inl (lf []))), (z5, .inl ((xcA X) 10, 10, .inl (lf []))), (z6, .inl ((xcA X) 10, 4, .inl (lf []))), (z7, .inl ((xcA X) 10, 160, .inl (lf []))), (z8, .inl ((xcA X) 10, 8, .inl (lf [(0), (4), (9), (13), (20), (26), (29), (33)]))), (z9, .inl ((xcA X) 10, 33, .inl (lf [(119), (111), (111), (100), (115), (116), (111), (110), (101), (105), (114), (111), (110), (108), (97), (110), (100), (105), (110), (103), (108), (111), (100), (103), (101), (114), (103), (97), (112), (104), (111), (108), (100)]))), (z10, .inl ((xcA X) 10, 11, .inl (lf []))), (z11, .inl ((xcA X) 10, 10, .inl (lf []))), (z12, .inl ((xcA X) 10, 11, .inl (lf [])))]) rfl (by decide) rfl rfl kfX8_43 (by decide) rfl rfl rfl (Nat.le_of_ble_eq_true rfl) rfl dX8_init_329 ?_
    refine TC_aload_n 0 rfl rfl dX8_init_332 ?_
    refine TC_iconst (4) (by decide) dX8_init_333 ?_
    refine TC_naI 4 (by decide) (by decide) (by decide) (Nat.le_of_ble_eq_true rfl) (Nat.le_of_ble_eq_true rfl) dX8_init_334 (fun z13 => ?_)
    refine TC_w (w' := [(b, .inr (8, [.ref z1, .ref z2, .int 0, .ref z3, .int 0, .int 0, .ref z4, .ref z5, .ref z6, .int 0, .int 0, .int 0, .int 0, .ref z7, .int 0, .int 0, .int 0, .int 0, .int 0, .int 0, .int 0, .int 0, .ref z8, .ref z9, .ref z10, .ref z11, .ref z12, .null, .null, .int 0, .null, .null, .null, .null, .int 0])), (z1, .inl ((xcA X) 10, 210, .inl (lf []))), (z2, .inl ((xcA X) 10, 10, .inl (lf []))), (z3, .inl ((xcA X) 10, 4, .inl (lf []))), (z4, .inl ((xcA X) 10, 35, .inl (lf []))), (z5, .inl ((xcA X) 10, 10, .inl (lf []))), (z6, .inl ((xcA X) 10, 4, .inl (lf []))), (z7, .inl ((xcA X) 10, 160, .inl (lf []))), (z8, .inl ((xcA X) 10, 8, .inl (lf [(0), (4), (9), (13), (20), (26), (29), (33)]))), (z9, .inl ((xcA X) 10, 33, .inl (lf [(119), (111), (111), (100), (115), (116), (111), (110), (101), (105), (114), (111), (110), (108), (97), (110), (100), (105), (110), (103), (108), (111), (100), (103), (101), (114), (103), (97), (112), (104), (111), (108), (100)]))), (z10, .inl ((xcA X) 10, 11, .inl (lf []))), (z11, .inl ((xcA X) 10, 10, .inl (lf []))), (z12, .inl ((xcA X) 10, 11, .inl (lf []))), (z13, .inl ((xcA X) 10, 4, .inl (lf [])))]) rfl ?_
    refine TC_n (c2 := 13) (s2 := 510) rfl rfl ?_
    refine TC_putF (ty := (.array .int)) (c := 8) (i := 0) (k := 27) (w' := [(b, .inr (8, [.ref z1, .ref z2, .int 0, .ref z3, .int 0, .int 0, .ref z4, .ref z5, .ref z6, .int 0, .int 0, .int 0, .int 0, .ref z7, .int 0, .int 0, .int 0, .int 0, .int 0, .int 0, .int 0, .int 0, .ref z8, .ref z9, .ref z10, .ref z11, .ref z12, .ref z13, .null, .int 0, .null, .null, .null, .null, .int 0])), (z1, .inl ((xcA X) 10, 210, .inl (lf []))), (z2, .inl ((xcA X) 10, 10, .inl (lf []))), (z3, .inl ((xcA X) 10, 4, .inl (lf []))), (z4, .inl ((xcA X) 10, 35, .inl (lf []))), (z5, .inl ((xcA X) 10, 10, .inl (lf []))), (z6, .inl ((xcA X) 10, 4, .inl (lf []))), (z7, .inl ((xcA X) 10, 160, .inl (lf []))), (z8, .inl ((xcA X) 10, 8, .inl (lf [(0), (4), (9), (13), (20), (26), (29), (33)]))), (z9, .inl ((xcA X) 10, 33, .inl (lf [(119), (111), (111), (100), (115), (116), (111), (110), (101), (105), (114), (111), (110), (108), (97), (110), (100), (105), (110), (103), (108), (111), (100), (103), (101), (114), (103), (97), (112), (104), (111), (108), (100)]))), (z10, .inl ((xcA X) 10, 11, .inl (lf []))), (z11, .inl ((xcA X) 10, 10, .inl (lf []))), (z12, .inl ((xcA X) 10, 11, .inl (lf []))), (z13, .inl ((xcA X) 10, 4, .inl (lf [])))]) rfl (by decide) rfl rfl kfX8_46 (by decide) rfl rfl rfl (Nat.le_of_ble_eq_true rfl) rfl dX8_init_336 ?_
    refine TC_aload_n 0 rfl rfl dX8_init_339 ?_
    refine TC_bipush (12) (by decide) dX8_init_340 ?_
    refine TC_naI 12 (by decide) (by decide) (by decide) (Nat.le_of_ble_eq_true rfl) (Nat.le_of_ble_eq_true rfl) dX8_init_342 (fun z14 => ?_)
    refine TC_w (w' := [(b, .inr (8, [.ref z1, .ref z2, .int 0, .ref z3, .int 0, .int 0, .ref z4, .ref z5, .ref z6, .int 0, .int 0, .int 0, .int 0, .ref z7, .int 0, .int 0, .int 0, .int 0, .int 0, .int 0, .int 0, .int 0, .ref z8, .ref z9, .ref z10, .ref z11, .ref z12, .ref z13, .null, .int 0, .null, .null, .null, .null, .int 0])), (z1, .inl ((xcA X) 10, 210, .inl (lf []))), (z2, .inl ((xcA X) 10, 10, .inl (lf []))), (z3, .inl ((xcA X) 10, 4, .inl (lf []))), (z4, .inl ((xcA X) 10, 35, .inl (lf []))), (z5, .inl ((xcA X) 10, 10, .inl (lf []))), (z6, .inl ((xcA X) 10, 4, .inl (lf []))), (z7, .inl ((xcA X) 10, 160, .inl (lf []))), (z8, .inl ((xcA X) 10, 8, .inl (lf [(0), (4), (9), (13), (20), (26), (29), (33)]))), (z9, .inl ((xcA X) 10, 33, .inl (lf [(119), (111), (111), (100), (115), (116), (111), (110), (101), (105), (114), (111), (110), (108), (97), (110), (100), (105), (110), (103), (108), (111), (100), (103), (101), (114), (103), (97), (112), (104), (111), (108), (100)]))), (z10, .inl ((xcA X) 10, 11, .inl (lf []))), (z11, .inl ((xcA X) 10, 10, .inl (lf []))), (z12, .inl ((xcA X) 10, 11, .inl (lf []))), (z13, .inl ((xcA X) 10, 4, .inl (lf []))), (z14, .inl ((xcA X) 10, 12, .inl (lf [])))]) rfl ?_
    refine TC_n (c2 := 14) (s2 := 522) rfl rfl ?_
    refine TC_putF (ty := (.array .int)) (c := 8) (i := 0) (k := 28) (w' := [(b, .inr (8, [.ref z1, .ref z2, .int 0, .ref z3, .int 0, .int 0, .ref z4, .ref z5, .ref z6, .int 0, .int 0, .int 0, .int 0, .ref z7, .int 0, .int 0, .int 0, .int 0, .int 0, .int 0, .int 0, .int 0, .ref z8, .ref z9, .ref z10, .ref z11, .ref z12, .ref z13, .ref z14, .int 0, .null, .null, .null, .null, .int 0])), (z1, .inl ((xcA X) 10, 210, .inl (lf []))), (z2, .inl ((xcA X) 10, 10, .inl (lf []))), (z3, .inl ((xcA X) 10, 4, .inl (lf []))), (z4, .inl ((xcA X) 10, 35, .inl (lf []))), (z5, .inl ((xcA X) 10, 10, .inl (lf []))), (z6, .inl ((xcA X) 10, 4, .inl (lf []))), (z7, .inl ((xcA X) 10, 160, .inl (lf []))), (z8, .inl ((xcA X) 10, 8, .inl (lf [(0), (4), (9), (13), (20), (26), (29), (33)]))), (z9, .inl ((xcA X) 10, 33, .inl (lf [(119), (111), (111), (100), (115), (116), (111), (110), (101), (105), (114), (111), (110), (108), (97), (110), (100), (105), (110), (103), (108), (111), (100), (103), (101), (114), (103), (97), (112), (104), (111), (108), (100)]))), (z10, .inl ((xcA X) 10, 11, .inl (lf []))), (z11, .inl ((xcA X) 10, 10, .inl (lf []))), (z12, .inl ((xcA X) 10, 11, .inl (lf []))), (z13, .inl ((xcA X) 10, 4, .inl (lf []))), (z14, .inl ((xcA X) 10, 12, .inl (lf [])))]) rfl (by decide) rfl rfl kfX8_49 (by decide) rfl rfl rfl (Nat.le_of_ble_eq_true rfl) rfl dX8_init_344 ?_
    refine TC_aload_n 0 rfl rfl dX8_init_347 ?_
    refine TC_iconst (2) (by decide) dX8_init_348 ?_
    refine TC_naZ 2 (by decide) (by decide) (by decide) (Nat.le_of_ble_eq_true rfl) (Nat.le_of_ble_eq_true rfl) dX8_init_349 (fun z15 => ?_)
    refine TC_w (w' := [(b, .inr (8, [.ref z1, .ref z2, .int 0, .ref z3, .int 0, .int 0, .ref z4, .ref z5, .ref z6, .int 0, .int 0, .int 0, .int 0, .ref z7, .int 0, .int 0, .int 0, .int 0, .int 0, .int 0, .int 0, .int 0, .ref z8, .ref z9, .ref z10, .ref z11, .ref z12, .ref z13, .ref z14, .int 0, .null, .null, .null, .null, .int 0])), (z1, .inl ((xcA X) 10, 210, .inl (lf []))), (z2, .inl ((xcA X) 10, 10, .inl (lf []))), (z3, .inl ((xcA X) 10, 4, .inl (lf []))), (z4, .inl ((xcA X) 10, 35, .inl (lf []))), (z5, .inl ((xcA X) 10, 10, .inl (lf []))), (z6, .inl ((xcA X) 10, 4, .inl (lf []))), (z7, .inl ((xcA X) 10, 160, .inl (lf []))), (z8, .inl ((xcA X) 10, 8, .inl (lf [(0), (4), (9), (13), (20), (26), (29), (33)]))), (z9, .inl ((xcA X) 10, 33, .inl (lf [(119), (111), (111), (100), (115), (116), (111), (110), (101), (105), (114), (111), (110), (108), (97), (110), (100), (105), (110), (103), (108), (111), (100), (103), (101), (114), (103), (97), (112), (104), (111), (108), (100)]))), (z10, .inl ((xcA X) 10, 11, .inl (lf []))), (z11, .inl ((xcA X) 10, 10, .inl (lf []))), (z12, .inl ((xcA X) 10, 11, .inl (lf []))), (z13, .inl ((xcA X) 10, 4, .inl (lf []))), (z14, .inl ((xcA X) 10, 12, .inl (lf []))), (z15, .inl ((xcA X) 12, 2, .inl (lf [])))]) rfl ?_
    refine TC_n (c2 := 15) (s2 := 524) rfl rfl ?_
    refine TC_putF (ty := (.array .boolean)) (c := 8) (i := 0) (k := 30) (w' := [(b, .inr (8, [.ref z1, .ref z2, .int 0, .ref z3, .int 0, .int 0, .ref z4, .ref z5, .ref z6, .int 0, .int 0, .int 0, .int 0, .ref z7, .int 0, .int 0, .int 0, .int 0, .int 0, .int 0, .int 0, .int 0, .ref z8, .ref z9, .ref z10, .ref z11, .ref z12, .ref z13, .ref z14, .int 0, .ref z15, .null, .null, .null, .int 0])), (z1, .inl ((xcA X) 10, 210, .inl (lf []))), (z2, .inl ((xcA X) 10, 10, .inl (lf []))), (z3, .inl ((xcA X) 10, 4, .inl (lf []))), (z4, .inl ((xcA X) 10, 35, .inl (lf []))), (z5, .inl ((xcA X) 10, 10, .inl (lf []))), (z6, .inl ((xcA X) 10, 4, .inl (lf []))), (z7, .inl ((xcA X) 10, 160, .inl (lf []))), (z8, .inl ((xcA X) 10, 8, .inl (lf [(0), (4), (9), (13), (20), (26), (29), (33)]))), (z9, .inl ((xcA X) 10, 33, .inl (lf [(119), (111), (111), (100), (115), (116), (111), (110), (101), (105), (114), (111), (110), (108), (97), (110), (100), (105), (110), (103), (108), (111), (100), (103), (101), (114), (103), (97), (112), (104), (111), (108), (100)]))), (z10, .inl ((xcA X) 10, 11, .inl (lf []))), (z11, .inl ((xcA X) 10, 10, .inl (lf []))), (z12, .inl ((xcA X) 10, 11, .inl (lf []))), (z13, .inl ((xcA X) 10, 4, .inl (lf []))), (z14, .inl ((xcA X) 10, 12, .inl (lf []))), (z15, .inl ((xcA X) 12, 2, .inl (lf [])))]) rfl (by decide) rfl rfl kfX8_52 (by decide) rfl rfl rfl (Nat.le_of_ble_eq_true rfl) rfl dX8_init_351 ?_
    refine TC_aload_n 0 rfl rfl dX8_init_354 ?_
    refine TC_iconst (4) (by decide) dX8_init_355 ?_
    refine TC_naI 4 (by decide) (by decide) (by decide) (Nat.le_of_ble_eq_true rfl) (Nat.le_of_ble_eq_true rfl) dX8_init_356 (fun z16 => ?_)
    refine TC_w (w' := [(b, .inr (8, [.ref z1, .ref z2, .int 0, .ref z3, .int 0, .int 0, .ref z4, .ref z5, .ref z6, .int 0, .int 0, .int 0, .int 0, .ref z7, .int 0, .int 0, .int 0, .int 0, .int 0, .int 0, .int 0, .int 0, .ref z8, .ref z9, .ref z10, .ref z11, .ref z12, .ref z13, .ref z14, .int 0, .ref z15, .null, .null, .null, .int 0])), (z1, .inl ((xcA X) 10, 210, .inl (lf []))), (z2, .inl ((xcA X) 10, 10, .inl (lf []))), (z3, .inl ((xcA X) 10, 4, .inl (lf []))), (z4, .inl ((xcA X) 10, 35, .inl (lf []))), (z5, .inl ((xcA X) 10, 10, .inl (lf []))), (z6, .inl ((xcA X) 10, 4, .inl (lf []))), (z7, .inl ((xcA X) 10, 160, .inl (lf []))), (z8, .inl ((xcA X) 10, 8, .inl (lf [(0), (4), (9), (13), (20), (26), (29), (33)]))), (z9, .inl ((xcA X) 10, 33, .inl (lf [(119), (111), (111), (100), (115), (116), (111), (110), (101), (105), (114), (111), (110), (108), (97), (110), (100), (105), (110), (103), (108), (111), (100), (103), (101), (114), (103), (97), (112), (104), (111), (108), (100)]))), (z10, .inl ((xcA X) 10, 11, .inl (lf []))), (z11, .inl ((xcA X) 10, 10, .inl (lf []))), (z12, .inl ((xcA X) 10, 11, .inl (lf []))), (z13, .inl ((xcA X) 10, 4, .inl (lf []))), (z14, .inl ((xcA X) 10, 12, .inl (lf []))), (z15, .inl ((xcA X) 12, 2, .inl (lf []))), (z16, .inl ((xcA X) 10, 4, .inl (lf [])))]) rfl ?_
    refine TC_n (c2 := 16) (s2 := 528) rfl rfl ?_
    refine TC_dup rfl dX8_init_358 ?_
    refine TC_iconst (0) (by decide) dX8_init_359 ?_
    refine TC_bipush (-4) (by decide) dX8_init_360 ?_
    refine TC_iast (i := 16) (w' := [(b, .inr (8, [.ref z1, .ref z2, .int 0, .ref z3, .int 0, .int 0, .ref z4, .ref z5, .ref z6, .int 0, .int 0, .int 0, .int 0, .ref z7, .int 0, .int 0, .int 0, .int 0, .int 0, .int 0, .int 0, .int 0, .ref z8, .ref z9, .ref z10, .ref z11, .ref z12, .ref z13, .ref z14, .int 0, .ref z15, .null, .null, .null, .int 0])), (z1, .inl ((xcA X) 10, 210, .inl (lf []))), (z2, .inl ((xcA X) 10, 10, .inl (lf []))), (z3, .inl ((xcA X) 10, 4, .inl (lf []))), (z4, .inl ((xcA X) 10, 35, .inl (lf []))), (z5, .inl ((xcA X) 10, 10, .inl (lf []))), (z6, .inl ((xcA X) 10, 4, .inl (lf []))), (z7, .inl ((xcA X) 10, 160, .inl (lf []))), (z8, .inl ((xcA X) 10, 8, .inl (lf [(0), (4), (9), (13), (20), (26), (29), (33)]))), (z9, .inl ((xcA X) 10, 33, .inl (lf [(119), (111), (111), (100), (115), (116), (111), (110), (101), (105), (114), (111), (110), (108), (97), (110), (100), (105), (110), (103), (108), (111), (100), (103), (101), (114), (103), (97), (112), (104), (111), (108), (100)]))), (z10, .inl ((xcA X) 10, 11, .inl (lf []))), (z11, .inl ((xcA X) 10, 10, .inl (lf []))), (z12, .inl ((xcA X) 10, 11, .inl (lf []))), (z13, .inl ((xcA X) 10, 4, .inl (lf []))), (z14, .inl ((xcA X) 10, 12, .inl (lf []))), (z15, .inl ((xcA X) 12, 2, .inl (lf []))), (z16, .inl ((xcA X) 10, 4, .inl (lf [(-4)])))]) rfl (by decide) (by unfold vp_in; decide) rfl dX8_init_362 ?_
    refine TC_dup rfl dX8_init_363 ?_
    refine TC_iconst (1) (by decide) dX8_init_364 ?_
    refine TC_bipush (-4) (by decide) dX8_init_365 ?_
    refine TC_iast (i := 16) (w' := [(b, .inr (8, [.ref z1, .ref z2, .int 0, .ref z3, .int 0, .int 0, .ref z4, .ref z5, .ref z6, .int 0, .int 0, .int 0, .int 0, .ref z7, .int 0, .int 0, .int 0, .int 0, .int 0, .int 0, .int 0, .int 0, .ref z8, .ref z9, .ref z10, .ref z11, .ref z12, .ref z13, .ref z14, .int 0, .ref z15, .null, .null, .null, .int 0])), (z1, .inl ((xcA X) 10, 210, .inl (lf []))), (z2, .inl ((xcA X) 10, 10, .inl (lf []))), (z3, .inl ((xcA X) 10, 4, .inl (lf []))), (z4, .inl ((xcA X) 10, 35, .inl (lf []))), (z5, .inl ((xcA X) 10, 10, .inl (lf []))), (z6, .inl ((xcA X) 10, 4, .inl (lf []))), (z7, .inl ((xcA X) 10, 160, .inl (lf []))), (z8, .inl ((xcA X) 10, 8, .inl (lf [(0), (4), (9), (13), (20), (26), (29), (33)]))), (z9, .inl ((xcA X) 10, 33, .inl (lf [(119), (111), (111), (100), (115), (116), (111), (110), (101), (105), (114), (111), (110), (108), (97), (110), (100), (105), (110), (103), (108), (111), (100), (103), (101), (114), (103), (97), (112), (104), (111), (108), (100)]))), (z10, .inl ((xcA X) 10, 11, .inl (lf []))), (z11, .inl ((xcA X) 10, 10, .inl (lf []))), (z12, .inl ((xcA X) 10, 11, .inl (lf []))), (z13, .inl ((xcA X) 10, 4, .inl (lf []))), (z14, .inl ((xcA X) 10, 12, .inl (lf []))), (z15, .inl ((xcA X) 12, 2, .inl (lf []))), (z16, .inl ((xcA X) 10, 4, .inl (lf [(-4), (-4)])))]) rfl (by decide) (by unfold vp_in; decide) rfl dX8_init_367 ?_
    refine TC_dup rfl dX8_init_368 ?_
    refine TC_iconst (2) (by decide) dX8_init_369 ?_
    refine TC_bipush (-4) (by decide) dX8_init_370 ?_
    refine TC_iast (i := 16) (w' := [(b, .inr (8, [.ref z1, .ref z2, .int 0, .ref z3, .int 0, .int 0, .ref z4, .ref z5, .ref z6, .int 0, .int 0, .int 0, .int 0, .ref z7, .int 0, .int 0, .int 0, .int 0, .int 0, .int 0, .int 0, .int 0, .ref z8, .ref z9, .ref z10, .ref z11, .ref z12, .ref z13, .ref z14, .int 0, .ref z15, .null, .null, .null, .int 0])), (z1, .inl ((xcA X) 10, 210, .inl (lf []))), (z2, .inl ((xcA X) 10, 10, .inl (lf []))), (z3, .inl ((xcA X) 10, 4, .inl (lf []))), (z4, .inl ((xcA X) 10, 35, .inl (lf []))), (z5, .inl ((xcA X) 10, 10, .inl (lf []))), (z6, .inl ((xcA X) 10, 4, .inl (lf []))), (z7, .inl ((xcA X) 10, 160, .inl (lf []))), (z8, .inl ((xcA X) 10, 8, .inl (lf [(0), (4), (9), (13), (20), (26), (29), (33)]))), (z9, .inl ((xcA X) 10, 33, .inl (lf [(119), (111), (111), (100), (115), (116), (111), (110), (101), (105), (114), (111), (110), (108), (97), (110), (100), (105), (110), (103), (108), (111), (100), (103), (101), (114), (103), (97), (112), (104), (111), (108), (100)]))), (z10, .inl ((xcA X) 10, 11, .inl (lf []))), (z11, .inl ((xcA X) 10, 10, .inl (lf []))), (z12, .inl ((xcA X) 10, 11, .inl (lf []))), (z13, .inl ((xcA X) 10, 4, .inl (lf []))), (z14, .inl ((xcA X) 10, 12, .inl (lf []))), (z15, .inl ((xcA X) 12, 2, .inl (lf []))), (z16, .inl ((xcA X) 10, 4, .inl (lf [(-4), (-4), (-4)])))]) rfl (by decide) (by unfold vp_in; decide) rfl dX8_init_372 ?_
    refine TC_dup rfl dX8_init_373 ?_
    refine TC_iconst (3) (by decide) dX8_init_374 ?_
    refine TC_bipush (-4) (by decide) dX8_init_375 ?_
    refine TC_iast (i := 16) (w' := [(b, .inr (8, [.ref z1, .ref z2, .int 0, .ref z3, .int 0, .int 0, .ref z4, .ref z5, .ref z6, .int 0, .int 0, .int 0, .int 0, .ref z7, .int 0, .int 0, .int 0, .int 0, .int 0, .int 0, .int 0, .int 0, .ref z8, .ref z9, .ref z10, .ref z11, .ref z12, .ref z13, .ref z14, .int 0, .ref z15, .null, .null, .null, .int 0])), (z1, .inl ((xcA X) 10, 210, .inl (lf []))), (z2, .inl ((xcA X) 10, 10, .inl (lf []))), (z3, .inl ((xcA X) 10, 4, .inl (lf []))), (z4, .inl ((xcA X) 10, 35, .inl (lf []))), (z5, .inl ((xcA X) 10, 10, .inl (lf []))), (z6, .inl ((xcA X) 10, 4, .inl (lf []))), (z7, .inl ((xcA X) 10, 160, .inl (lf []))), (z8, .inl ((xcA X) 10, 8, .inl (lf [(0), (4), (9), (13), (20), (26), (29), (33)]))), (z9, .inl ((xcA X) 10, 33, .inl (lf [(119), (111), (111), (100), (115), (116), (111), (110), (101), (105), (114), (111), (110), (108), (97), (110), (100), (105), (110), (103), (108), (111), (100), (103), (101), (114), (103), (97), (112), (104), (111), (108), (100)]))), (z10, .inl ((xcA X) 10, 11, .inl (lf []))), (z11, .inl ((xcA X) 10, 10, .inl (lf []))), (z12, .inl ((xcA X) 10, 11, .inl (lf []))), (z13, .inl ((xcA X) 10, 4, .inl (lf []))), (z14, .inl ((xcA X) 10, 12, .inl (lf []))), (z15, .inl ((xcA X) 12, 2, .inl (lf []))), (z16, .inl ((xcA X) 10, 4, .inl (lf [(-4), (-4), (-4), (-4)])))]) rfl (by decide) (by unfold vp_in; decide) rfl dX8_init_377 ?_
    refine TC_putF (ty := (.array .int)) (c := 8) (i := 0) (k := 31) (w' := [(b, .inr (8, [.ref z1, .ref z2, .int 0, .ref z3, .int 0, .int 0, .ref z4, .ref z5, .ref z6, .int 0, .int 0, .int 0, .int 0, .ref z7, .int 0, .int 0, .int 0, .int 0, .int 0, .int 0, .int 0, .int 0, .ref z8, .ref z9, .ref z10, .ref z11, .ref z12, .ref z13, .ref z14, .int 0, .ref z15, .ref z16, .null, .null, .int 0])), (z1, .inl ((xcA X) 10, 210, .inl (lf []))), (z2, .inl ((xcA X) 10, 10, .inl (lf []))), (z3, .inl ((xcA X) 10, 4, .inl (lf []))), (z4, .inl ((xcA X) 10, 35, .inl (lf []))), (z5, .inl ((xcA X) 10, 10, .inl (lf []))), (z6, .inl ((xcA X) 10, 4, .inl (lf []))), (z7, .inl ((xcA X) 10, 160, .inl (lf []))), (z8, .inl ((xcA X) 10, 8, .inl (lf [(0), (4), (9), (13), (20), (26), (29), (33)]))), (z9, .inl ((xcA X) 10, 33, .inl (lf [(119), (111), (111), (100), (115), (116), (111), (110), (101), (105), (114), (111), (110), (108), (97), (110), (100), (105), (110), (103), (108), (111), (100), (103), (101), (114), (103), (97), (112), (104), (111), (108), (100)]))), (z10, .inl ((xcA X) 10, 11, .inl (lf []))), (z11, .inl ((xcA X) 10, 10, .inl (lf []))), (z12, .inl ((xcA X) 10, 11, .inl (lf []))), (z13, .inl ((xcA X) 10, 4, .inl (lf []))), (z14, .inl ((xcA X) 10, 12, .inl (lf []))), (z15, .inl ((xcA X) 12, 2, .inl (lf []))), (z16, .inl ((xcA X) 10, 4, .inl (lf [(-4), (-4), (-4), (-4)])))]) rfl (by decide) rfl rfl kfX8_56 (by decide) rfl rfl rfl (Nat.le_of_ble_eq_true rfl) rfl dX8_init_378 ?_
    refine TC_aload_n 0 rfl rfl dX8_init_381 ?_
    refine TC_iconst (4) (by decide) dX8_init_382 ?_
    refine TC_naI 4 (by decide) (by decide) (by decide) (Nat.le_of_ble_eq_true rfl) (Nat.le_of_ble_eq_true rfl) dX8_init_383 (fun z17 => ?_)
    refine TC_w (w' := [(b, .inr (8, [.ref z1, .ref z2, .int 0, .ref z3, .int 0, .int 0, .ref z4, .ref z5, .ref z6, .int 0, .int 0, .int 0, .int 0, .ref z7, .int 0, .int 0, .int 0, .int 0, .int 0, .int 0, .int 0, .int 0, .ref z8, .ref z9, .ref z10, .ref z11, .ref z12, .ref z13, .ref z14, .int 0, .ref z15, .ref z16, .null, .null, .int 0])), (z1, .inl ((xcA X) 10, 210, .inl (lf []))), (z2, .inl ((xcA X) 10, 10, .inl (lf []))), (z3, .inl ((xcA X) 10, 4, .inl (lf []))), (z4, .inl ((xcA X) 10, 35, .inl (lf []))), (z5, .inl ((xcA X) 10, 10, .inl (lf []))), (z6, .inl ((xcA X) 10, 4, .inl (lf []))), (z7, .inl ((xcA X) 10, 160, .inl (lf []))), (z8, .inl ((xcA X) 10, 8, .inl (lf [(0), (4), (9), (13), (20), (26), (29), (33)]))), (z9, .inl ((xcA X) 10, 33, .inl (lf [(119), (111), (111), (100), (115), (116), (111), (110), (101), (105), (114), (111), (110), (108), (97), (110), (100), (105), (110), (103), (108), (111), (100), (103), (101), (114), (103), (97), (112), (104), (111), (108), (100)]))), (z10, .inl ((xcA X) 10, 11, .inl (lf []))), (z11, .inl ((xcA X) 10, 10, .inl (lf []))), (z12, .inl ((xcA X) 10, 11, .inl (lf []))), (z13, .inl ((xcA X) 10, 4, .inl (lf []))), (z14, .inl ((xcA X) 10, 12, .inl (lf []))), (z15, .inl ((xcA X) 12, 2, .inl (lf []))), (z16, .inl ((xcA X) 10, 4, .inl (lf [(-4), (-4), (-4), (-4)]))), (z17, .inl ((xcA X) 10, 4, .inl (lf [])))]) rfl ?_
    refine TC_n (c2 := 17) (s2 := 532) rfl rfl ?_
    refine TC_putF (ty := (.array .int)) (c := 8) (i := 0) (k := 32) (w' := [(b, .inr (8, [.ref z1, .ref z2, .int 0, .ref z3, .int 0, .int 0, .ref z4, .ref z5, .ref z6, .int 0, .int 0, .int 0, .int 0, .ref z7, .int 0, .int 0, .int 0, .int 0, .int 0, .int 0, .int 0, .int 0, .ref z8, .ref z9, .ref z10, .ref z11, .ref z12, .ref z13, .ref z14, .int 0, .ref z15, .ref z16, .ref z17, .null, .int 0])), (z1, .inl ((xcA X) 10, 210, .inl (lf []))), (z2, .inl ((xcA X) 10, 10, .inl (lf []))), (z3, .inl ((xcA X) 10, 4, .inl (lf []))), (z4, .inl ((xcA X) 10, 35, .inl (lf []))), (z5, .inl ((xcA X) 10, 10, .inl (lf []))), (z6, .inl ((xcA X) 10, 4, .inl (lf []))), (z7, .inl ((xcA X) 10, 160, .inl (lf []))), (z8, .inl ((xcA X) 10, 8, .inl (lf [(0), (4), (9), (13), (20), (26), (29), (33)]))), (z9, .inl ((xcA X) 10, 33, .inl (lf [(119), (111), (111), (100), (115), (116), (111), (110), (101), (105), (114), (111), (110), (108), (97), (110), (100), (105), (110), (103), (108), (111), (100), (103), (101), (114), (103), (97), (112), (104), (111), (108), (100)]))), (z10, .inl ((xcA X) 10, 11, .inl (lf []))), (z11, .inl ((xcA X) 10, 10, .inl (lf []))), (z12, .inl ((xcA X) 10, 11, .inl (lf []))), (z13, .inl ((xcA X) 10, 4, .inl (lf []))), (z14, .inl ((xcA X) 10, 12, .inl (lf []))), (z15, .inl ((xcA X) 12, 2, .inl (lf []))), (z16, .inl ((xcA X) 10, 4, .inl (lf [(-4), (-4), (-4), (-4)]))), (z17, .inl ((xcA X) 10, 4, .inl (lf [])))]) rfl (by decide) rfl rfl kfX8_59 (by decide) rfl rfl rfl (Nat.le_of_ble_eq_true rfl) rfl dX8_init_385 ?_
    refine TC_aload_n 0 rfl rfl dX8_init_388 ?_
    refine TC_sipush (160) (by decide) dX8_init_389 ?_
    refine TC_naI 160 (by decide) (by decide) (by decide) (Nat.le_of_ble_eq_true rfl) (Nat.le_of_ble_eq_true rfl) dX8_init_392 (fun z18 => ?_)
    refine TC_w (w' := [(b, .inr (8, [.ref z1, .ref z2, .int 0, .ref z3, .int 0, .int 0, .ref z4, .ref z5, .ref z6, .int 0, .int 0, .int 0, .int 0, .ref z7, .int 0, .int 0, .int 0, .int 0, .int 0, .int 0, .int 0, .int 0, .ref z8, .ref z9, .ref z10, .ref z11, .ref z12, .ref z13, .ref z14, .int 0, .ref z15, .ref z16, .ref z17, .null, .int 0])), (z1, .inl ((xcA X) 10, 210, .inl (lf []))), (z2, .inl ((xcA X) 10, 10, .inl (lf []))), (z3, .inl ((xcA X) 10, 4, .inl (lf []))), (z4, .inl ((xcA X) 10, 35, .inl (lf []))), (z5, .inl ((xcA X) 10, 10, .inl (lf []))), (z6, .inl ((xcA X) 10, 4, .inl (lf []))), (z7, .inl ((xcA X) 10, 160, .inl (lf []))), (z8, .inl ((xcA X) 10, 8, .inl (lf [(0), (4), (9), (13), (20), (26), (29), (33)]))), (z9, .inl ((xcA X) 10, 33, .inl (lf [(119), (111), (111), (100), (115), (116), (111), (110), (101), (105), (114), (111), (110), (108), (97), (110), (100), (105), (110), (103), (108), (111), (100), (103), (101), (114), (103), (97), (112), (104), (111), (108), (100)]))), (z10, .inl ((xcA X) 10, 11, .inl (lf []))), (z11, .inl ((xcA X) 10, 10, .inl (lf []))), (z12, .inl ((xcA X) 10, 11, .inl (lf []))), (z13, .inl ((xcA X) 10, 4, .inl (lf []))), (z14, .inl ((xcA X) 10, 12, .inl (lf []))), (z15, .inl ((xcA X) 12, 2, .inl (lf []))), (z16, .inl ((xcA X) 10, 4, .inl (lf [(-4), (-4), (-4), (-4)]))), (z17, .inl ((xcA X) 10, 4, .inl (lf []))), (z18, .inl ((xcA X) 10, 160, .inl (lf [])))]) rfl ?_
    refine TC_n (c2 := 18) (s2 := 692) rfl rfl ?_
    refine TC_putF (ty := (.array .int)) (c := 8) (i := 0) (k := 33) (w' := [(b, .inr (8, [.ref z1, .ref z2, .int 0, .ref z3, .int 0, .int 0, .ref z4, .ref z5, .ref z6, .int 0, .int 0, .int 0, .int 0, .ref z7, .int 0, .int 0, .int 0, .int 0, .int 0, .int 0, .int 0, .int 0, .ref z8, .ref z9, .ref z10, .ref z11, .ref z12, .ref z13, .ref z14, .int 0, .ref z15, .ref z16, .ref z17, .ref z18, .int 0])), (z1, .inl ((xcA X) 10, 210, .inl (lf []))), (z2, .inl ((xcA X) 10, 10, .inl (lf []))), (z3, .inl ((xcA X) 10, 4, .inl (lf []))), (z4, .inl ((xcA X) 10, 35, .inl (lf []))), (z5, .inl ((xcA X) 10, 10, .inl (lf []))), (z6, .inl ((xcA X) 10, 4, .inl (lf []))), (z7, .inl ((xcA X) 10, 160, .inl (lf []))), (z8, .inl ((xcA X) 10, 8, .inl (lf [(0), (4), (9), (13), (20), (26), (29), (33)]))), (z9, .inl ((xcA X) 10, 33, .inl (lf [(119), (111), (111), (100), (115), (116), (111), (110), (101), (105), (114), (111), (110), (108), (97), (110), (100), (105), (110), (103), (108), (111), (100), (103), (101), (114), (103), (97), (112), (104), (111), (108), (100)]))), (z10, .inl ((xcA X) 10, 11, .inl (lf []))), (z11, .inl ((xcA X) 10, 10, .inl (lf []))), (z12, .inl ((xcA X) 10, 11, .inl (lf []))), (z13, .inl ((xcA X) 10, 4, .inl (lf []))), (z14, .inl ((xcA X) 10, 12, .inl (lf []))), (z15, .inl ((xcA X) 12, 2, .inl (lf []))), (z16, .inl ((xcA X) 10, 4, .inl (lf [(-4), (-4), (-4), (-4)]))), (z17, .inl ((xcA X) 10, 4, .inl (lf []))), (z18, .inl ((xcA X) 10, 160, .inl (lf [])))]) rfl (by decide) rfl rfl kfX8_62 (by decide) rfl rfl rfl (Nat.le_of_ble_eq_true rfl) rfl dX8_init_394 ?_
    exact TC_ret (fun i => [z1, z2, z3, z4, z5, z6, z7, z8, z9, z10, z11, z12, z13, z14, z15, z16, z17, z18].getD i 0) [0, 1, 2, 3, 4, 5, 6, 7, 8, 9, 10, 11, 12, 13, 14, 15, 16, 17, 18] rfl (by decide) rfl rfl dX8_init_397)
end
section
/-! THE CLAIM OUT OF ONE WALK OF THE LAW'S BODY. Your part is whole_start (and what it stands on); all else here is the same for every law, but numbers. -/
def R_law : String := "RankStairsLaw"
def lw_P (b : Addr) (xs : List Int32) (args : Array Value) (s : State) : Prop := args = #[.ref b] ∧ s.IntsAt b xs ∧ xs.length ≤ 2560 ∧ (Jvm.Cond.and given_1 narrow_1).before args s = true
def lw_Q (_ : Array Value) (s : State) (o : Outcome) (t : State) : Prop := o = .returned (some (.int 1)) ∧ Framed s o t [] 600000 7302250
def lw_Z (below : List Frame) (a : Array Value) (s : State) : State → Prop := fun t => ∃ o, t.status = .running ∧ Ended t below o ∧ lw_Q a s o t
/-- the law's own end, with 1 on the stack, nothing written that was there before, its room as the claim has it -/
theorem lw_ret {p : Program} {l : Launch} {e : Env} {s : State} {m : MethodId} {below : List Frame} {meth : Method} {c : Code} {b : Nat} (hx : p.tables.exec = Jvm.exec) (hb : c.code = code) (hr : meth.sig.returnType = ret) (hlocks : meth.locks = false) {pc : Nat} {H : Heap} {ls : Array Slot} (hdg : decode code pc = .ok (.ireturn, 1)) : W p l e room_1 s m #[Value.ref b] below meth c H [] 600000 7302250 (lw_Z below #[Value.ref b] s) (F0 m pc ls [.int 1]) := by
  intro T hT X
  obtain ⟨fs, hret, hrun, hended, hW, hframe⟩ := X.leave (v := some (.int 1)) (hlocks := hlocks) (fun h => by rw [hr] at h; cases h)
  have hmeth' : T.vm.method? m = some meth := X.method'
  refine ⟨T.setFrames fs, ?_, .returned (some (.int 1)), hrun, hended, rfl, ⟨_, rfl⟩, hW, hframe⟩
  jvm_step X.here [X.here.top, hx, hb, hdg, hmeth', hr, ret, narrow_b1]
  (try refine ⟨rfl, ?_⟩); (try refine ⟨rfl, ?_⟩)
  first | (intro acts; rw [hret _ acts rfl rfl rfl]) | rw [hret _ _ rfl rfl rfl]
  exact Steps.refl _
/-- what holds at the law's entry: the machine, the code, the tables' words (any of lw_tbl by 'hts w (by decide +kernel)'), the script of L ints xs at the cell b, what the Statement gives of the start (any of its parts by flat_of_before) -/
def lw_At (p : Program) (s : State) (m : MethodId) (meth : Method) (c : Code) (b L : Nat) (xs : Nat → Int32) : Prop :=
  p.tables.exec = Jvm.exec ∧ c.code = code ∧ meth.sig.returnType = ret ∧ c.maxLocals = 4 ∧ s.vm.findClass R_law = some m.cls ∧ (∀ w ∈ lw_tbl, w.before #[Value.ref b] s = true) ∧ va_X b L xs s s.heap ∧ b < s.heap.size ∧ meth.locks = false ∧ (Jvm.Cond.and given_1 narrow_1).before #[Value.ref b] s = true

theorem dL_law_0 : decode code 0 = .ok (.new 7, 3) := by decide +kernel
theorem dL_law_3 : decode code 3 = .ok (.dup, 1) := by decide +kernel
theorem dL_law_4 : decode code 4 = .ok (.invokespecial 9, 3) := by decide +kernel
theorem dL_law_7 : decode code 7 = .ok (.astore_n 1, 1) := by decide +kernel
theorem dL_law_8 : decode code 8 = .ok (.new 10, 3) := by decide +kernel
theorem dL_law_11 : decode code 11 = .ok (.dup, 1) := by decide +kernel
theorem dL_law_12 : decode code 12 = .ok (.invokespecial 12, 3) := by decide +kernel
theorem dL_law_15 : decode code 15 = .ok (.astore_n 2, 1) := by decide +kernel
theorem dL_law_16 : decode code 16 = .ok (.iconst 0, 1) := by decide +kernel
theorem dL_law_17 : decode code 17 = .ok (.istore_n 3, 1) := by decide +kernel
theorem dL_law_18 : decode code 18 = .ok (.iload_n 3, 1) := by decide +kernel
theorem dL_law_19 : decode code 19 = .ok (.aload_n 0, 1) := by decide +kernel
theorem dL_law_20 : decode code 20 = .ok (.arraylength, 1) := by decide +kernel
theorem dL_law_21 : decode code 21 = .ok (.iconst 5, 1) := by decide +kernel
theorem dL_law_22 : decode code 22 = .ok (.isub, 1) := by decide +kernel
theorem dL_law_23 : decode code 23 = .ok (.if_icmp .gt 1374, 3) := by decide +kernel
theorem dL_law_26 : decode code 26 = .ok (.aload_n 0, 1) := by decide +kernel
theorem dL_law_27 : decode code 27 = .ok (.iload_n 3, 1) := by decide +kernel
theorem dL_law_28 : decode code 28 = .ok (.iaload, 1) := by decide +kernel
theorem dL_law_29 : decode code 29 = .ok (.bipush 63, 2) := by decide +kernel
theorem dL_law_31 : decode code 31 = .ok (.iand, 1) := by decide +kernel
theorem dL_law_32 : decode code 32 = .ok (.tableswitch 1359 0 42 #[188, 211, 234, 247, 260, 283, 316, 349, 382, 415, 438, 471, 504, 537, 570, 583, 616, 639, 672, 685, 708, 731, 764, 787, 810, 833, 856, 879, 902, 925, 969, 1003, 1036, 1059, 1072, 1095, 1138, 1161, 1184, 1227, 1270, 1323, 1336], 188) := by decide +kernel
theorem dL_law_220 : decode code 220 = .ok (.aload_n 1, 1) := by decide +kernel
theorem dL_law_221 : decode code 221 = .ok (.aload_n 0, 1) := by decide +kernel
theorem dL_law_222 : decode code 222 = .ok (.iload_n 3, 1) := by decide +kernel
theorem dL_law_223 : decode code 223 = .ok (.iconst 1, 1) := by decide +kernel
theorem dL_law_224 : decode code 224 = .ok (.iadd, 1) := by decide +kernel
theorem dL_law_225 : decode code 225 = .ok (.iaload, 1) := by decide +kernel
theorem dL_law_226 : decode code 226 = .ok (.invokevirtual 13, 3) := by decide +kernel
theorem dL_law_229 : decode code 229 = .ok (.aload_n 2, 1) := by decide +kernel
theorem dL_law_230 : decode code 230 = .ok (.aload_n 0, 1) := by decide +kernel
theorem dL_law_231 : decode code 231 = .ok (.iload_n 3, 1) := by decide +kernel
theorem dL_law_232 : decode code 232 = .ok (.iconst 1, 1) := by decide +kernel
theorem dL_law_233 : decode code 233 = .ok (.iadd, 1) := by decide +kernel
theorem dL_law_234 : decode code 234 = .ok (.iaload, 1) := by decide +kernel
theorem dL_law_235 : decode code 235 = .ok (.invokevirtual 17, 3) := by decide +kernel
theorem dL_law_238 : decode code 238 = .ok (.if_icmp .eq 1153, 3) := by decide +kernel
theorem dL_law_241 : decode code 241 = .ok (.iconst 0, 1) := by decide +kernel
theorem dL_law_242 : decode code 242 = .ok (.ireturn, 1) := by decide +kernel
theorem dL_law_243 : decode code 243 = .ok (.aload_n 1, 1) := by decide +kernel
theorem dL_law_244 : decode code 244 = .ok (.aload_n 0, 1) := by decide +kernel
theorem dL_law_245 : decode code 245 = .ok (.iload_n 3, 1) := by decide +kernel
theorem dL_law_246 : decode code 246 = .ok (.iconst 1, 1) := by decide +kernel
theorem dL_law_247 : decode code 247 = .ok (.iadd, 1) := by decide +kernel
theorem dL_law_248 : decode code 248 = .ok (.iaload, 1) := by decide +kernel
theorem dL_law_249 : decode code 249 = .ok (.invokevirtual 18, 3) := by decide +kernel
theorem dL_law_252 : decode code 252 = .ok (.aload_n 2, 1) := by decide +kernel
theorem dL_law_253 : decode code 253 = .ok (.aload_n 0, 1) := by decide +kernel
theorem dL_law_254 : decode code 254 = .ok (.iload_n 3, 1) := by decide +kernel
theorem dL_law_255 : decode code 255 = .ok (.iconst 1, 1) := by decide +kernel
theorem dL_law_256 : decode code 256 = .ok (.iadd, 1) := by decide +kernel
theorem dL_law_257 : decode code 257 = .ok (.iaload, 1) := by decide +kernel
theorem dL_law_258 : decode code 258 = .ok (.invokevirtual 21, 3) := by decide +kernel
theorem dL_law_261 : decode code 261 = .ok (.if_icmp .eq 1130, 3) := by decide +kernel
theorem dL_law_264 : decode code 264 = .ok (.iconst 0, 1) := by decide +kernel
theorem dL_law_265 : decode code 265 = .ok (.ireturn, 1) := by decide +kernel
theorem dL_law_266 : decode code 266 = .ok (.aload_n 1, 1) := by decide +kernel
theorem dL_law_267 : decode code 267 = .ok (.invokevirtual 22, 3) := by decide +kernel
theorem dL_law_270 : decode code 270 = .ok (.aload_n 2, 1) := by decide +kernel
theorem dL_law_271 : decode code 271 = .ok (.invokevirtual 26, 3) := by decide +kernel
theorem dL_law_274 : decode code 274 = .ok (.if_icmp .eq 1117, 3) := by decide +kernel
theorem dL_law_277 : decode code 277 = .ok (.iconst 0, 1) := by decide +kernel
theorem dL_law_278 : decode code 278 = .ok (.ireturn, 1) := by decide +kernel
theorem dL_law_279 : decode code 279 = .ok (.aload_n 1, 1) := by decide +kernel
theorem dL_law_280 : decode code 280 = .ok (.invokevirtual 27, 3) := by decide +kernel
theorem dL_law_283 : decode code 283 = .ok (.aload_n 2, 1) := by decide +kernel
theorem dL_law_284 : decode code 284 = .ok (.invokevirtual 30, 3) := by decide +kernel
theorem dL_law_287 : decode code 287 = .ok (.if_icmp .eq 1104, 3) := by decide +kernel
theorem dL_law_290 : decode code 290 = .ok (.iconst 0, 1) := by decide +kernel
theorem dL_law_291 : decode code 291 = .ok (.ireturn, 1) := by decide +kernel
theorem dL_law_292 : decode code 292 = .ok (.aload_n 1, 1) := by decide +kernel
theorem dL_law_293 : decode code 293 = .ok (.aload_n 0, 1) := by decide +kernel
theorem dL_law_294 : decode code 294 = .ok (.iload_n 3, 1) := by decide +kernel
theorem dL_law_295 : decode code 295 = .ok (.iconst 1, 1) := by decide +kernel
theorem dL_law_296 : decode code 296 = .ok (.iadd, 1) := by decide +kernel
theorem dL_law_297 : decode code 297 = .ok (.iaload, 1) := by decide +kernel
theorem dL_law_298 : decode code 298 = .ok (.invokevirtual 31, 3) := by decide +kernel
theorem dL_law_301 : decode code 301 = .ok (.aload_n 2, 1) := by decide +kernel
theorem dL_law_302 : decode code 302 = .ok (.aload_n 0, 1) := by decide +kernel
theorem dL_law_303 : decode code 303 = .ok (.iload_n 3, 1) := by decide +kernel
theorem dL_law_304 : decode code 304 = .ok (.iconst 1, 1) := by decide +kernel
theorem dL_law_305 : decode code 305 = .ok (.iadd, 1) := by decide +kernel
theorem dL_law_306 : decode code 306 = .ok (.iaload, 1) := by decide +kernel
theorem dL_law_307 : decode code 307 = .ok (.invokevirtual 34, 3) := by decide +kernel
theorem dL_law_310 : decode code 310 = .ok (.if_icmp .eq 1081, 3) := by decide +kernel
theorem dL_law_313 : decode code 313 = .ok (.iconst 0, 1) := by decide +kernel
theorem dL_law_314 : decode code 314 = .ok (.ireturn, 1) := by decide +kernel
theorem dL_law_315 : decode code 315 = .ok (.aload_n 1, 1) := by decide +kernel
theorem dL_law_316 : decode code 316 = .ok (.aload_n 0, 1) := by decide +kernel
theorem dL_law_317 : decode code 317 = .ok (.iload_n 3, 1) := by decide +kernel
theorem dL_law_318 : decode code 318 = .ok (.iconst 1, 1) := by decide +kernel
theorem dL_law_319 : decode code 319 = .ok (.iadd, 1) := by decide +kernel
theorem dL_law_320 : decode code 320 = .ok (.iaload, 1) := by decide +kernel
theorem dL_law_321 : decode code 321 = .ok (.aload_n 0, 1) := by decide +kernel
theorem dL_law_322 : decode code 322 = .ok (.iload_n 3, 1) := by decide +kernel
theorem dL_law_323 : decode code 323 = .ok (.iconst 2, 1) := by decide +kernel
theorem dL_law_324 : decode code 324 = .ok (.iadd, 1) := by decide +kernel
theorem dL_law_325 : decode code 325 = .ok (.iaload, 1) := by decide +kernel
theorem dL_law_326 : decode code 326 = .ok (.invokevirtual 35, 3) := by decide +kernel
theorem dL_law_329 : decode code 329 = .ok (.aload_n 2, 1) := by decide +kernel
theorem dL_law_330 : decode code 330 = .ok (.aload_n 0, 1) := by decide +kernel
theorem dL_law_331 : decode code 331 = .ok (.iload_n 3, 1) := by decide +kernel
theorem dL_law_332 : decode code 332 = .ok (.iconst 1, 1) := by decide +kernel
theorem dL_law_333 : decode code 333 = .ok (.iadd, 1) := by decide +kernel
theorem dL_law_334 : decode code 334 = .ok (.iaload, 1) := by decide +kernel
theorem dL_law_335 : decode code 335 = .ok (.aload_n 0, 1) := by decide +kernel
theorem dL_law_336 : decode code 336 = .ok (.iload_n 3, 1) := by decide +kernel
theorem dL_law_337 : decode code 337 = .ok (.iconst 2, 1) := by decide +kernel
theorem dL_law_338 : decode code 338 = .ok (.iadd, 1) := by decide +kernel
theorem dL_law_339 : decode code 339 = .ok (.iaload, 1) := by decide +kernel
theorem dL_law_340 : decode code 340 = .ok (.invokevirtual 39, 3) := by decide +kernel
theorem dL_law_343 : decode code 343 = .ok (.if_icmp .eq 1048, 3) := by decide +kernel
theorem dL_law_346 : decode code 346 = .ok (.iconst 0, 1) := by decide +kernel
theorem dL_law_347 : decode code 347 = .ok (.ireturn, 1) := by decide +kernel
theorem dL_law_348 : decode code 348 = .ok (.aload_n 1, 1) := by decide +kernel
theorem dL_law_349 : decode code 349 = .ok (.aload_n 0, 1) := by decide +kernel
theorem dL_law_350 : decode code 350 = .ok (.iload_n 3, 1) := by decide +kernel
theorem dL_law_351 : decode code 351 = .ok (.iconst 1, 1) := by decide +kernel
theorem dL_law_352 : decode code 352 = .ok (.iadd, 1) := by decide +kernel
theorem dL_law_353 : decode code 353 = .ok (.iaload, 1) := by decide +kernel
theorem dL_law_354 : decode code 354 = .ok (.aload_n 0, 1) := by decide +kernel
theorem dL_law_355 : decode code 355 = .ok (.iload_n 3, 1) := by decide +kernel
theorem dL_law_356 : decode code 356 = .ok (.iconst 2, 1) := by decide +kernel
theorem dL_law_357 : decode code 357 = .ok (.iadd, 1) := by decide +kernel
theorem dL_law_358 : decode code 358 = .ok (.iaload, 1) := by decide +kernel
theorem dL_law_359 : decode code 359 = .ok (.invokevirtual 40, 3) := by decide +kernel
theorem dL_law_362 : decode code 362 = .ok (.aload_n 2, 1) := by decide +kernel
theorem dL_law_363 : decode code 363 = .ok (.aload_n 0, 1) := by decide +kernel
theorem dL_law_364 : decode code 364 = .ok (.iload_n 3, 1) := by decide +kernel
theorem dL_law_365 : decode code 365 = .ok (.iconst 1, 1) := by decide +kernel
theorem dL_law_366 : decode code 366 = .ok (.iadd, 1) := by decide +kernel
theorem dL_law_367 : decode code 367 = .ok (.iaload, 1) := by decide +kernel
theorem dL_law_368 : decode code 368 = .ok (.aload_n 0, 1) := by decide +kernel
theorem dL_law_369 : decode code 369 = .ok (.iload_n 3, 1) := by decide +kernel
theorem dL_law_370 : decode code 370 = .ok (.iconst 2, 1) := by decide +kernel
theorem dL_law_371 : decode code 371 = .ok (.iadd, 1) := by decide +kernel
theorem dL_law_372 : decode code 372 = .ok (.iaload, 1) := by decide +kernel
theorem dL_law_373 : decode code 373 = .ok (.invokevirtual 43, 3) := by decide +kernel
theorem dL_law_376 : decode code 376 = .ok (.if_icmp .eq 1015, 3) := by decide +kernel
theorem dL_law_379 : decode code 379 = .ok (.iconst 0, 1) := by decide +kernel
theorem dL_law_380 : decode code 380 = .ok (.ireturn, 1) := by decide +kernel
theorem dL_law_381 : decode code 381 = .ok (.aload_n 1, 1) := by decide +kernel
theorem dL_law_382 : decode code 382 = .ok (.aload_n 0, 1) := by decide +kernel
theorem dL_law_383 : decode code 383 = .ok (.iload_n 3, 1) := by decide +kernel
theorem dL_law_384 : decode code 384 = .ok (.iconst 1, 1) := by decide +kernel
theorem dL_law_385 : decode code 385 = .ok (.iadd, 1) := by decide +kernel
theorem dL_law_386 : decode code 386 = .ok (.iaload, 1) := by decide +kernel
theorem dL_law_387 : decode code 387 = .ok (.aload_n 0, 1) := by decide +kernel
theorem dL_law_388 : decode code 388 = .ok (.iload_n 3, 1) := by decide +kernel
theorem dL_law_389 : decode code 389 = .ok (.iconst 2, 1) := by decide +kernel
theorem dL_law_390 : decode code 390 = .ok (.iadd, 1) := by decide +kernel
theorem dL_law_391 : decode code 391 = .ok (.iaload, 1) := by decide +kernel
theorem dL_law_392 : decode code 392 = .ok (.invokevirtual 44, 3) := by decide +kernel
theorem dL_law_395 : decode code 395 = .ok (.aload_n 2, 1) := by decide +kernel
theorem dL_law_396 : decode code 396 = .ok (.aload_n 0, 1) := by decide +kernel
theorem dL_law_397 : decode code 397 = .ok (.iload_n 3, 1) := by decide +kernel
theorem dL_law_398 : decode code 398 = .ok (.iconst 1, 1) := by decide +kernel
theorem dL_law_399 : decode code 399 = .ok (.iadd, 1) := by decide +kernel
theorem dL_law_400 : decode code 400 = .ok (.iaload, 1) := by decide +kernel
theorem dL_law_401 : decode code 401 = .ok (.aload_n 0, 1) := by decide +kernel
theorem dL_law_402 : decode code 402 = .ok (.iload_n 3, 1) := by decide +kernel
theorem dL_law_403 : decode code 403 = .ok (.iconst 2, 1) := by decide +kernel
theorem dL_law_404 : decode code 404 = .ok (.iadd, 1) := by decide +kernel
theorem dL_law_405 : decode code 405 = .ok (.iaload, 1) := by decide +kernel
theorem dL_law_406 : decode code 406 = .ok (.invokevirtual 47, 3) := by decide +kernel
theorem dL_law_409 : decode code 409 = .ok (.if_icmp .eq 982, 3) := by decide +kernel
theorem dL_law_412 : decode code 412 = .ok (.iconst 0, 1) := by decide +kernel
theorem dL_law_413 : decode code 413 = .ok (.ireturn, 1) := by decide +kernel
theorem dL_law_414 : decode code 414 = .ok (.aload_n 1, 1) := by decide +kernel
theorem dL_law_415 : decode code 415 = .ok (.aload_n 0, 1) := by decide +kernel
theorem dL_law_416 : decode code 416 = .ok (.iload_n 3, 1) := by decide +kernel
theorem dL_law_417 : decode code 417 = .ok (.iconst 1, 1) := by decide +kernel
theorem dL_law_418 : decode code 418 = .ok (.iadd, 1) := by decide +kernel
theorem dL_law_419 : decode code 419 = .ok (.iaload, 1) := by decide +kernel
theorem dL_law_420 : decode code 420 = .ok (.aload_n 0, 1) := by decide +kernel
theorem dL_law_421 : decode code 421 = .ok (.iload_n 3, 1) := by decide +kernel
theorem dL_law_422 : decode code 422 = .ok (.iconst 2, 1) := by decide +kernel
theorem dL_law_423 : decode code 423 = .ok (.iadd, 1) := by decide +kernel
theorem dL_law_424 : decode code 424 = .ok (.iaload, 1) := by decide +kernel
theorem dL_law_425 : decode code 425 = .ok (.invokevirtual 48, 3) := by decide +kernel
theorem dL_law_428 : decode code 428 = .ok (.aload_n 2, 1) := by decide +kernel
theorem dL_law_429 : decode code 429 = .ok (.aload_n 0, 1) := by decide +kernel
theorem dL_law_430 : decode code 430 = .ok (.iload_n 3, 1) := by decide +kernel
theorem dL_law_431 : decode code 431 = .ok (.iconst 1, 1) := by decide +kernel
theorem dL_law_432 : decode code 432 = .ok (.iadd, 1) := by decide +kernel
theorem dL_law_433 : decode code 433 = .ok (.iaload, 1) := by decide +kernel
theorem dL_law_434 : decode code 434 = .ok (.aload_n 0, 1) := by decide +kernel
theorem dL_law_435 : decode code 435 = .ok (.iload_n 3, 1) := by decide +kernel
theorem dL_law_436 : decode code 436 = .ok (.iconst 2, 1) := by decide +kernel
theorem dL_law_437 : decode code 437 = .ok (.iadd, 1) := by decide +kernel
theorem dL_law_438 : decode code 438 = .ok (.iaload, 1) := by decide +kernel
theorem dL_law_439 : decode code 439 = .ok (.invokevirtual 51, 3) := by decide +kernel
theorem dL_law_442 : decode code 442 = .ok (.if_icmp .eq 949, 3) := by decide +kernel
theorem dL_law_445 : decode code 445 = .ok (.iconst 0, 1) := by decide +kernel
theorem dL_law_446 : decode code 446 = .ok (.ireturn, 1) := by decide +kernel
theorem dL_law_447 : decode code 447 = .ok (.aload_n 1, 1) := by decide +kernel
theorem dL_law_448 : decode code 448 = .ok (.aload_n 0, 1) := by decide +kernel
theorem dL_law_449 : decode code 449 = .ok (.iload_n 3, 1) := by decide +kernel
theorem dL_law_450 : decode code 450 = .ok (.iconst 1, 1) := by decide +kernel
theorem dL_law_451 : decode code 451 = .ok (.iadd, 1) := by decide +kernel
theorem dL_law_452 : decode code 452 = .ok (.iaload, 1) := by decide +kernel
theorem dL_law_453 : decode code 453 = .ok (.invokevirtual 52, 3) := by decide +kernel
theorem dL_law_456 : decode code 456 = .ok (.aload_n 2, 1) := by decide +kernel
theorem dL_law_457 : decode code 457 = .ok (.aload_n 0, 1) := by decide +kernel
theorem dL_law_458 : decode code 458 = .ok (.iload_n 3, 1) := by decide +kernel
theorem dL_law_459 : decode code 459 = .ok (.iconst 1, 1) := by decide +kernel
theorem dL_law_460 : decode code 460 = .ok (.iadd, 1) := by decide +kernel
theorem dL_law_461 : decode code 461 = .ok (.iaload, 1) := by decide +kernel
theorem dL_law_462 : decode code 462 = .ok (.invokevirtual 55, 3) := by decide +kernel
theorem dL_law_465 : decode code 465 = .ok (.if_icmp .eq 926, 3) := by decide +kernel
theorem dL_law_468 : decode code 468 = .ok (.iconst 0, 1) := by decide +kernel
theorem dL_law_469 : decode code 469 = .ok (.ireturn, 1) := by decide +kernel
theorem dL_law_470 : decode code 470 = .ok (.aload_n 1, 1) := by decide +kernel
theorem dL_law_471 : decode code 471 = .ok (.aload_n 0, 1) := by decide +kernel
theorem dL_law_472 : decode code 472 = .ok (.iload_n 3, 1) := by decide +kernel
theorem dL_law_473 : decode code 473 = .ok (.iconst 1, 1) := by decide +kernel
theorem dL_law_474 : decode code 474 = .ok (.iadd, 1) := by decide +kernel
theorem dL_law_475 : decode code 475 = .ok (.iaload, 1) := by decide +kernel
theorem dL_law_476 : decode code 476 = .ok (.aload_n 0, 1) := by decide +kernel
theorem dL_law_477 : decode code 477 = .ok (.iload_n 3, 1) := by decide +kernel
theorem dL_law_478 : decode code 478 = .ok (.iconst 2, 1) := by decide +kernel
theorem dL_law_479 : decode code 479 = .ok (.iadd, 1) := by decide +kernel
theorem dL_law_480 : decode code 480 = .ok (.iaload, 1) := by decide +kernel
theorem dL_law_481 : decode code 481 = .ok (.invokevirtual 56, 3) := by decide +kernel
theorem dL_law_484 : decode code 484 = .ok (.aload_n 2, 1) := by decide +kernel
theorem dL_law_485 : decode code 485 = .ok (.aload_n 0, 1) := by decide +kernel
theorem dL_law_486 : decode code 486 = .ok (.iload_n 3, 1) := by decide +kernel
theorem dL_law_487 : decode code 487 = .ok (.iconst 1, 1) := by decide +kernel
theorem dL_law_488 : decode code 488 = .ok (.iadd, 1) := by decide +kernel
theorem dL_law_489 : decode code 489 = .ok (.iaload, 1) := by decide +kernel
theorem dL_law_490 : decode code 490 = .ok (.aload_n 0, 1) := by decide +kernel
theorem dL_law_491 : decode code 491 = .ok (.iload_n 3, 1) := by decide +kernel
theorem dL_law_492 : decode code 492 = .ok (.iconst 2, 1) := by decide +kernel
theorem dL_law_493 : decode code 493 = .ok (.iadd, 1) := by decide +kernel
theorem dL_law_494 : decode code 494 = .ok (.iaload, 1) := by decide +kernel
theorem dL_law_495 : decode code 495 = .ok (.invokevirtual 59, 3) := by decide +kernel
theorem dL_law_498 : decode code 498 = .ok (.if_icmp .eq 893, 3) := by decide +kernel
theorem dL_law_501 : decode code 501 = .ok (.iconst 0, 1) := by decide +kernel
theorem dL_law_502 : decode code 502 = .ok (.ireturn, 1) := by decide +kernel
theorem dL_law_503 : decode code 503 = .ok (.aload_n 1, 1) := by decide +kernel
theorem dL_law_504 : decode code 504 = .ok (.aload_n 0, 1) := by decide +kernel
theorem dL_law_505 : decode code 505 = .ok (.iload_n 3, 1) := by decide +kernel
theorem dL_law_506 : decode code 506 = .ok (.iconst 1, 1) := by decide +kernel
theorem dL_law_507 : decode code 507 = .ok (.iadd, 1) := by decide +kernel
theorem dL_law_508 : decode code 508 = .ok (.iaload, 1) := by decide +kernel
theorem dL_law_509 : decode code 509 = .ok (.aload_n 0, 1) := by decide +kernel
theorem dL_law_510 : decode code 510 = .ok (.iload_n 3, 1) := by decide +kernel
theorem dL_law_511 : decode code 511 = .ok (.iconst 2, 1) := by decide +kernel
theorem dL_law_512 : decode code 512 = .ok (.iadd, 1) := by decide +kernel
theorem dL_law_513 : decode code 513 = .ok (.iaload, 1) := by decide +kernel
theorem dL_law_514 : decode code 514 = .ok (.invokevirtual 60, 3) := by decide +kernel
theorem dL_law_517 : decode code 517 = .ok (.aload_n 2, 1) := by decide +kernel
theorem dL_law_518 : decode code 518 = .ok (.aload_n 0, 1) := by decide +kernel
theorem dL_law_519 : decode code 519 = .ok (.iload_n 3, 1) := by decide +kernel
theorem dL_law_520 : decode code 520 = .ok (.iconst 1, 1) := by decide +kernel
theorem dL_law_521 : decode code 521 = .ok (.iadd, 1) := by decide +kernel
theorem dL_law_522 : decode code 522 = .ok (.iaload, 1) := by decide +kernel
theorem dL_law_523 : decode code 523 = .ok (.aload_n 0, 1) := by decide +kernel
theorem dL_law_524 : decode code 524 = .ok (.iload_n 3, 1) := by decide +kernel
theorem dL_law_525 : decode code 525 = .ok (.iconst 2, 1) := by decide +kernel
theorem dL_law_526 : decode code 526 = .ok (.iadd, 1) := by decide +kernel
theorem dL_law_527 : decode code 527 = .ok (.iaload, 1) := by decide +kernel
theorem dL_law_528 : decode code 528 = .ok (.invokevirtual 63, 3) := by decide +kernel
theorem dL_law_531 : decode code 531 = .ok (.if_icmp .eq 860, 3) := by decide +kernel
theorem dL_law_534 : decode code 534 = .ok (.iconst 0, 1) := by decide +kernel
theorem dL_law_535 : decode code 535 = .ok (.ireturn, 1) := by decide +kernel
theorem dL_law_536 : decode code 536 = .ok (.aload_n 1, 1) := by decide +kernel
theorem dL_law_537 : decode code 537 = .ok (.aload_n 0, 1) := by decide +kernel
theorem dL_law_538 : decode code 538 = .ok (.iload_n 3, 1) := by decide +kernel
theorem dL_law_539 : decode code 539 = .ok (.iconst 1, 1) := by decide +kernel
theorem dL_law_540 : decode code 540 = .ok (.iadd, 1) := by decide +kernel
theorem dL_law_541 : decode code 541 = .ok (.iaload, 1) := by decide +kernel
theorem dL_law_542 : decode code 542 = .ok (.aload_n 0, 1) := by decide +kernel
theorem dL_law_543 : decode code 543 = .ok (.iload_n 3, 1) := by decide +kernel
theorem dL_law_544 : decode code 544 = .ok (.iconst 2, 1) := by decide +kernel
theorem dL_law_545 : decode code 545 = .ok (.iadd, 1) := by decide +kernel
theorem dL_law_546 : decode code 546 = .ok (.iaload, 1) := by decide +kernel
theorem dL_law_547 : decode code 547 = .ok (.invokevirtual 64, 3) := by decide +kernel
theorem dL_law_550 : decode code 550 = .ok (.aload_n 2, 1) := by decide +kernel
theorem dL_law_551 : decode code 551 = .ok (.aload_n 0, 1) := by decide +kernel
theorem dL_law_552 : decode code 552 = .ok (.iload_n 3, 1) := by decide +kernel
theorem dL_law_553 : decode code 553 = .ok (.iconst 1, 1) := by decide +kernel
theorem dL_law_554 : decode code 554 = .ok (.iadd, 1) := by decide +kernel
theorem dL_law_555 : decode code 555 = .ok (.iaload, 1) := by decide +kernel
theorem dL_law_556 : decode code 556 = .ok (.aload_n 0, 1) := by decide +kernel
theorem dL_law_557 : decode code 557 = .ok (.iload_n 3, 1) := by decide +kernel
theorem dL_law_558 : decode code 558 = .ok (.iconst 2, 1) := by decide +kernel
theorem dL_law_559 : decode code 559 = .ok (.iadd, 1) := by decide +kernel
theorem dL_law_560 : decode code 560 = .ok (.iaload, 1) := by decide +kernel
theorem dL_law_561 : decode code 561 = .ok (.invokevirtual 67, 3) := by decide +kernel
theorem dL_law_564 : decode code 564 = .ok (.if_icmp .eq 827, 3) := by decide +kernel
theorem dL_law_567 : decode code 567 = .ok (.iconst 0, 1) := by decide +kernel
theorem dL_law_568 : decode code 568 = .ok (.ireturn, 1) := by decide +kernel
theorem dL_law_569 : decode code 569 = .ok (.aload_n 1, 1) := by decide +kernel
theorem dL_law_570 : decode code 570 = .ok (.aload_n 0, 1) := by decide +kernel
theorem dL_law_571 : decode code 571 = .ok (.iload_n 3, 1) := by decide +kernel
theorem dL_law_572 : decode code 572 = .ok (.iconst 1, 1) := by decide +kernel
theorem dL_law_573 : decode code 573 = .ok (.iadd, 1) := by decide +kernel
theorem dL_law_574 : decode code 574 = .ok (.iaload, 1) := by decide +kernel
theorem dL_law_575 : decode code 575 = .ok (.aload_n 0, 1) := by decide +kernel
theorem dL_law_576 : decode code 576 = .ok (.iload_n 3, 1) := by decide +kernel
theorem dL_law_577 : decode code 577 = .ok (.iconst 2, 1) := by decide +kernel
theorem dL_law_578 : decode code 578 = .ok (.iadd, 1) := by decide +kernel
theorem dL_law_579 : decode code 579 = .ok (.iaload, 1) := by decide +kernel
theorem dL_law_580 : decode code 580 = .ok (.invokevirtual 68, 3) := by decide +kernel
theorem dL_law_583 : decode code 583 = .ok (.aload_n 2, 1) := by decide +kernel
theorem dL_law_584 : decode code 584 = .ok (.aload_n 0, 1) := by decide +kernel
theorem dL_law_585 : decode code 585 = .ok (.iload_n 3, 1) := by decide +kernel
theorem dL_law_586 : decode code 586 = .ok (.iconst 1, 1) := by decide +kernel
theorem dL_law_587 : decode code 587 = .ok (.iadd, 1) := by decide +kernel
theorem dL_law_588 : decode code 588 = .ok (.iaload, 1) := by decide +kernel
theorem dL_law_589 : decode code 589 = .ok (.aload_n 0, 1) := by decide +kernel
theorem dL_law_590 : decode code 590 = .ok (.iload_n 3, 1) := by decide +kernel
theorem dL_law_591 : decode code 591 = .ok (.iconst 2, 1) := by decide +kernel
theorem dL_law_592 : decode code 592 = .ok (.iadd, 1) := by decide +kernel
theorem dL_law_593 : decode code 593 = .ok (.iaload, 1) := by decide +kernel
theorem dL_law_594 : decode code 594 = .ok (.invokevirtual 71, 3) := by decide +kernel
theorem dL_law_597 : decode code 597 = .ok (.if_icmp .eq 794, 3) := by decide +kernel
theorem dL_law_600 : decode code 600 = .ok (.iconst 0, 1) := by decide +kernel
theorem dL_law_601 : decode code 601 = .ok (.ireturn, 1) := by decide +kernel
theorem dL_law_602 : decode code 602 = .ok (.aload_n 1, 1) := by decide +kernel
theorem dL_law_603 : decode code 603 = .ok (.invokevirtual 72, 3) := by decide +kernel
theorem dL_law_606 : decode code 606 = .ok (.aload_n 2, 1) := by decide +kernel
theorem dL_law_607 : decode code 607 = .ok (.invokevirtual 75, 3) := by decide +kernel
theorem dL_law_610 : decode code 610 = .ok (.if_icmp .eq 781, 3) := by decide +kernel
theorem dL_law_613 : decode code 613 = .ok (.iconst 0, 1) := by decide +kernel
theorem dL_law_614 : decode code 614 = .ok (.ireturn, 1) := by decide +kernel
theorem dL_law_615 : decode code 615 = .ok (.aload_n 1, 1) := by decide +kernel
theorem dL_law_616 : decode code 616 = .ok (.aload_n 0, 1) := by decide +kernel
theorem dL_law_617 : decode code 617 = .ok (.iload_n 3, 1) := by decide +kernel
theorem dL_law_618 : decode code 618 = .ok (.iconst 1, 1) := by decide +kernel
theorem dL_law_619 : decode code 619 = .ok (.iadd, 1) := by decide +kernel
theorem dL_law_620 : decode code 620 = .ok (.iaload, 1) := by decide +kernel
theorem dL_law_621 : decode code 621 = .ok (.aload_n 0, 1) := by decide +kernel
theorem dL_law_622 : decode code 622 = .ok (.iload_n 3, 1) := by decide +kernel
theorem dL_law_623 : decode code 623 = .ok (.iconst 2, 1) := by decide +kernel
theorem dL_law_624 : decode code 624 = .ok (.iadd, 1) := by decide +kernel
theorem dL_law_625 : decode code 625 = .ok (.iaload, 1) := by decide +kernel
theorem dL_law_626 : decode code 626 = .ok (.invokevirtual 76, 3) := by decide +kernel
theorem dL_law_629 : decode code 629 = .ok (.aload_n 2, 1) := by decide +kernel
theorem dL_law_630 : decode code 630 = .ok (.aload_n 0, 1) := by decide +kernel
theorem dL_law_631 : decode code 631 = .ok (.iload_n 3, 1) := by decide +kernel
theorem dL_law_632 : decode code 632 = .ok (.iconst 1, 1) := by decide +kernel
theorem dL_law_633 : decode code 633 = .ok (.iadd, 1) := by decide +kernel
theorem dL_law_634 : decode code 634 = .ok (.iaload, 1) := by decide +kernel
theorem dL_law_635 : decode code 635 = .ok (.aload_n 0, 1) := by decide +kernel
theorem dL_law_636 : decode code 636 = .ok (.iload_n 3, 1) := by decide +kernel
theorem dL_law_637 : decode code 637 = .ok (.iconst 2, 1) := by decide +kernel
theorem dL_law_638 : decode code 638 = .ok (.iadd, 1) := by decide +kernel
theorem dL_law_639 : decode code 639 = .ok (.iaload, 1) := by decide +kernel
theorem dL_law_640 : decode code 640 = .ok (.invokevirtual 79, 3) := by decide +kernel
theorem dL_law_643 : decode code 643 = .ok (.if_icmp .eq 748, 3) := by decide +kernel
theorem dL_law_646 : decode code 646 = .ok (.iconst 0, 1) := by decide +kernel
theorem dL_law_647 : decode code 647 = .ok (.ireturn, 1) := by decide +kernel
theorem dL_law_648 : decode code 648 = .ok (.aload_n 1, 1) := by decide +kernel
theorem dL_law_649 : decode code 649 = .ok (.aload_n 0, 1) := by decide +kernel
theorem dL_law_650 : decode code 650 = .ok (.iload_n 3, 1) := by decide +kernel
theorem dL_law_651 : decode code 651 = .ok (.iconst 1, 1) := by decide +kernel
theorem dL_law_652 : decode code 652 = .ok (.iadd, 1) := by decide +kernel
theorem dL_law_653 : decode code 653 = .ok (.iaload, 1) := by decide +kernel
theorem dL_law_654 : decode code 654 = .ok (.invokevirtual 80, 3) := by decide +kernel
theorem dL_law_657 : decode code 657 = .ok (.aload_n 2, 1) := by decide +kernel
theorem dL_law_658 : decode code 658 = .ok (.aload_n 0, 1) := by decide +kernel
theorem dL_law_659 : decode code 659 = .ok (.iload_n 3, 1) := by decide +kernel
theorem dL_law_660 : decode code 660 = .ok (.iconst 1, 1) := by decide +kernel
theorem dL_law_661 : decode code 661 = .ok (.iadd, 1) := by decide +kernel
theorem dL_law_662 : decode code 662 = .ok (.iaload, 1) := by decide +kernel
theorem dL_law_663 : decode code 663 = .ok (.invokevirtual 83, 3) := by decide +kernel
theorem dL_law_666 : decode code 666 = .ok (.if_icmp .eq 725, 3) := by decide +kernel
theorem dL_law_669 : decode code 669 = .ok (.iconst 0, 1) := by decide +kernel
theorem dL_law_670 : decode code 670 = .ok (.ireturn, 1) := by decide +kernel
theorem dL_law_671 : decode code 671 = .ok (.aload_n 1, 1) := by decide +kernel
theorem dL_law_672 : decode code 672 = .ok (.aload_n 0, 1) := by decide +kernel
theorem dL_law_673 : decode code 673 = .ok (.iload_n 3, 1) := by decide +kernel
theorem dL_law_674 : decode code 674 = .ok (.iconst 1, 1) := by decide +kernel
theorem dL_law_675 : decode code 675 = .ok (.iadd, 1) := by decide +kernel
theorem dL_law_676 : decode code 676 = .ok (.iaload, 1) := by decide +kernel
theorem dL_law_677 : decode code 677 = .ok (.aload_n 0, 1) := by decide +kernel
theorem dL_law_678 : decode code 678 = .ok (.iload_n 3, 1) := by decide +kernel
theorem dL_law_679 : decode code 679 = .ok (.iconst 2, 1) := by decide +kernel
theorem dL_law_680 : decode code 680 = .ok (.iadd, 1) := by decide +kernel
theorem dL_law_681 : decode code 681 = .ok (.iaload, 1) := by decide +kernel
theorem dL_law_682 : decode code 682 = .ok (.invokevirtual 84, 3) := by decide +kernel
theorem dL_law_685 : decode code 685 = .ok (.aload_n 2, 1) := by decide +kernel
theorem dL_law_686 : decode code 686 = .ok (.aload_n 0, 1) := by decide +kernel
theorem dL_law_687 : decode code 687 = .ok (.iload_n 3, 1) := by decide +kernel
theorem dL_law_688 : decode code 688 = .ok (.iconst 1, 1) := by decide +kernel
theorem dL_law_689 : decode code 689 = .ok (.iadd, 1) := by decide +kernel
theorem dL_law_690 : decode code 690 = .ok (.iaload, 1) := by decide +kernel
theorem dL_law_691 : decode code 691 = .ok (.aload_n 0, 1) := by decide +kernel
theorem dL_law_692 : decode code 692 = .ok (.iload_n 3, 1) := by decide +kernel
theorem dL_law_693 : decode code 693 = .ok (.iconst 2, 1) := by decide +kernel
theorem dL_law_694 : decode code 694 = .ok (.iadd, 1) := by decide +kernel
theorem dL_law_695 : decode code 695 = .ok (.iaload, 1) := by decide +kernel
theorem dL_law_696 : decode code 696 = .ok (.invokevirtual 87, 3) := by decide +kernel
theorem dL_law_699 : decode code 699 = .ok (.if_icmp .eq 692, 3) := by decide +kernel
theorem dL_law_702 : decode code 702 = .ok (.iconst 0, 1) := by decide +kernel
theorem dL_law_703 : decode code 703 = .ok (.ireturn, 1) := by decide +kernel
theorem dL_law_704 : decode code 704 = .ok (.aload_n 1, 1) := by decide +kernel
theorem dL_law_705 : decode code 705 = .ok (.invokevirtual 88, 3) := by decide +kernel
theorem dL_law_708 : decode code 708 = .ok (.aload_n 2, 1) := by decide +kernel
theorem dL_law_709 : decode code 709 = .ok (.invokevirtual 91, 3) := by decide +kernel
theorem dL_law_712 : decode code 712 = .ok (.if_icmp .eq 679, 3) := by decide +kernel
theorem dL_law_715 : decode code 715 = .ok (.iconst 0, 1) := by decide +kernel
theorem dL_law_716 : decode code 716 = .ok (.ireturn, 1) := by decide +kernel
theorem dL_law_717 : decode code 717 = .ok (.aload_n 1, 1) := by decide +kernel
theorem dL_law_718 : decode code 718 = .ok (.aload_n 0, 1) := by decide +kernel
theorem dL_law_719 : decode code 719 = .ok (.iload_n 3, 1) := by decide +kernel
theorem dL_law_720 : decode code 720 = .ok (.iconst 1, 1) := by decide +kernel
theorem dL_law_721 : decode code 721 = .ok (.iadd, 1) := by decide +kernel
theorem dL_law_722 : decode code 722 = .ok (.iaload, 1) := by decide +kernel
theorem dL_law_723 : decode code 723 = .ok (.invokevirtual 92, 3) := by decide +kernel
theorem dL_law_726 : decode code 726 = .ok (.aload_n 2, 1) := by decide +kernel
theorem dL_law_727 : decode code 727 = .ok (.aload_n 0, 1) := by decide +kernel
theorem dL_law_728 : decode code 728 = .ok (.iload_n 3, 1) := by decide +kernel
theorem dL_law_729 : decode code 729 = .ok (.iconst 1, 1) := by decide +kernel
theorem dL_law_730 : decode code 730 = .ok (.iadd, 1) := by decide +kernel
theorem dL_law_731 : decode code 731 = .ok (.iaload, 1) := by decide +kernel
theorem dL_law_732 : decode code 732 = .ok (.invokevirtual 95, 3) := by decide +kernel
theorem dL_law_735 : decode code 735 = .ok (.if_icmp .eq 656, 3) := by decide +kernel
theorem dL_law_738 : decode code 738 = .ok (.iconst 0, 1) := by decide +kernel
theorem dL_law_739 : decode code 739 = .ok (.ireturn, 1) := by decide +kernel
theorem dL_law_740 : decode code 740 = .ok (.aload_n 1, 1) := by decide +kernel
theorem dL_law_741 : decode code 741 = .ok (.aload_n 0, 1) := by decide +kernel
theorem dL_law_742 : decode code 742 = .ok (.iload_n 3, 1) := by decide +kernel
theorem dL_law_743 : decode code 743 = .ok (.iconst 1, 1) := by decide +kernel
theorem dL_law_744 : decode code 744 = .ok (.iadd, 1) := by decide +kernel
theorem dL_law_745 : decode code 745 = .ok (.iaload, 1) := by decide +kernel
theorem dL_law_746 : decode code 746 = .ok (.invokevirtual 96, 3) := by decide +kernel
theorem dL_law_749 : decode code 749 = .ok (.aload_n 2, 1) := by decide +kernel
theorem dL_law_750 : decode code 750 = .ok (.aload_n 0, 1) := by decide +kernel
theorem dL_law_751 : decode code 751 = .ok (.iload_n 3, 1) := by decide +kernel
theorem dL_law_752 : decode code 752 = .ok (.iconst 1, 1) := by decide +kernel
theorem dL_law_753 : decode code 753 = .ok (.iadd, 1) := by decide +kernel
theorem dL_law_754 : decode code 754 = .ok (.iaload, 1) := by decide +kernel
theorem dL_law_755 : decode code 755 = .ok (.invokevirtual 99, 3) := by decide +kernel
theorem dL_law_758 : decode code 758 = .ok (.if_icmp .eq 633, 3) := by decide +kernel
theorem dL_law_761 : decode code 761 = .ok (.iconst 0, 1) := by decide +kernel
theorem dL_law_762 : decode code 762 = .ok (.ireturn, 1) := by decide +kernel
theorem dL_law_763 : decode code 763 = .ok (.aload_n 1, 1) := by decide +kernel
theorem dL_law_764 : decode code 764 = .ok (.aload_n 0, 1) := by decide +kernel
theorem dL_law_765 : decode code 765 = .ok (.iload_n 3, 1) := by decide +kernel
theorem dL_law_766 : decode code 766 = .ok (.iconst 1, 1) := by decide +kernel
theorem dL_law_767 : decode code 767 = .ok (.iadd, 1) := by decide +kernel
theorem dL_law_768 : decode code 768 = .ok (.iaload, 1) := by decide +kernel
theorem dL_law_769 : decode code 769 = .ok (.aload_n 0, 1) := by decide +kernel
theorem dL_law_770 : decode code 770 = .ok (.iload_n 3, 1) := by decide +kernel
theorem dL_law_771 : decode code 771 = .ok (.iconst 2, 1) := by decide +kernel
theorem dL_law_772 : decode code 772 = .ok (.iadd, 1) := by decide +kernel
theorem dL_law_773 : decode code 773 = .ok (.iaload, 1) := by decide +kernel
theorem dL_law_774 : decode code 774 = .ok (.invokevirtual 100, 3) := by decide +kernel
theorem dL_law_777 : decode code 777 = .ok (.aload_n 2, 1) := by decide +kernel
theorem dL_law_778 : decode code 778 = .ok (.aload_n 0, 1) := by decide +kernel
theorem dL_law_779 : decode code 779 = .ok (.iload_n 3, 1) := by decide +kernel
theorem dL_law_780 : decode code 780 = .ok (.iconst 1, 1) := by decide +kernel
theorem dL_law_781 : decode code 781 = .ok (.iadd, 1) := by decide +kernel
theorem dL_law_782 : decode code 782 = .ok (.iaload, 1) := by decide +kernel
theorem dL_law_783 : decode code 783 = .ok (.aload_n 0, 1) := by decide +kernel
theorem dL_law_784 : decode code 784 = .ok (.iload_n 3, 1) := by decide +kernel
theorem dL_law_785 : decode code 785 = .ok (.iconst 2, 1) := by decide +kernel
theorem dL_law_786 : decode code 786 = .ok (.iadd, 1) := by decide +kernel
theorem dL_law_787 : decode code 787 = .ok (.iaload, 1) := by decide +kernel
theorem dL_law_788 : decode code 788 = .ok (.invokevirtual 103, 3) := by decide +kernel
theorem dL_law_791 : decode code 791 = .ok (.if_icmp .eq 600, 3) := by decide +kernel
theorem dL_law_794 : decode code 794 = .ok (.iconst 0, 1) := by decide +kernel
theorem dL_law_795 : decode code 795 = .ok (.ireturn, 1) := by decide +kernel
theorem dL_law_796 : decode code 796 = .ok (.aload_n 1, 1) := by decide +kernel
theorem dL_law_797 : decode code 797 = .ok (.aload_n 0, 1) := by decide +kernel
theorem dL_law_798 : decode code 798 = .ok (.iload_n 3, 1) := by decide +kernel
theorem dL_law_799 : decode code 799 = .ok (.iconst 1, 1) := by decide +kernel
theorem dL_law_800 : decode code 800 = .ok (.iadd, 1) := by decide +kernel
theorem dL_law_801 : decode code 801 = .ok (.iaload, 1) := by decide +kernel
theorem dL_law_802 : decode code 802 = .ok (.invokevirtual 104, 3) := by decide +kernel
theorem dL_law_805 : decode code 805 = .ok (.aload_n 2, 1) := by decide +kernel
theorem dL_law_806 : decode code 806 = .ok (.aload_n 0, 1) := by decide +kernel
theorem dL_law_807 : decode code 807 = .ok (.iload_n 3, 1) := by decide +kernel
theorem dL_law_808 : decode code 808 = .ok (.iconst 1, 1) := by decide +kernel
theorem dL_law_809 : decode code 809 = .ok (.iadd, 1) := by decide +kernel
theorem dL_law_810 : decode code 810 = .ok (.iaload, 1) := by decide +kernel
theorem dL_law_811 : decode code 811 = .ok (.invokevirtual 107, 3) := by decide +kernel
theorem dL_law_814 : decode code 814 = .ok (.if_icmp .eq 577, 3) := by decide +kernel
theorem dL_law_817 : decode code 817 = .ok (.iconst 0, 1) := by decide +kernel
theorem dL_law_818 : decode code 818 = .ok (.ireturn, 1) := by decide +kernel
theorem dL_law_819 : decode code 819 = .ok (.aload_n 1, 1) := by decide +kernel
theorem dL_law_820 : decode code 820 = .ok (.aload_n 0, 1) := by decide +kernel
theorem dL_law_821 : decode code 821 = .ok (.iload_n 3, 1) := by decide +kernel
theorem dL_law_822 : decode code 822 = .ok (.iconst 1, 1) := by decide +kernel
theorem dL_law_823 : decode code 823 = .ok (.iadd, 1) := by decide +kernel
theorem dL_law_824 : decode code 824 = .ok (.iaload, 1) := by decide +kernel
theorem dL_law_825 : decode code 825 = .ok (.invokevirtual 108, 3) := by decide +kernel
theorem dL_law_828 : decode code 828 = .ok (.aload_n 2, 1) := by decide +kernel
theorem dL_law_829 : decode code 829 = .ok (.aload_n 0, 1) := by decide +kernel
theorem dL_law_830 : decode code 830 = .ok (.iload_n 3, 1) := by decide +kernel
theorem dL_law_831 : decode code 831 = .ok (.iconst 1, 1) := by decide +kernel
theorem dL_law_832 : decode code 832 = .ok (.iadd, 1) := by decide +kernel
theorem dL_law_833 : decode code 833 = .ok (.iaload, 1) := by decide +kernel
theorem dL_law_834 : decode code 834 = .ok (.invokevirtual 111, 3) := by decide +kernel
theorem dL_law_837 : decode code 837 = .ok (.if_icmp .eq 554, 3) := by decide +kernel
theorem dL_law_840 : decode code 840 = .ok (.iconst 0, 1) := by decide +kernel
theorem dL_law_841 : decode code 841 = .ok (.ireturn, 1) := by decide +kernel
theorem dL_law_842 : decode code 842 = .ok (.aload_n 1, 1) := by decide +kernel
theorem dL_law_843 : decode code 843 = .ok (.aload_n 0, 1) := by decide +kernel
theorem dL_law_844 : decode code 844 = .ok (.iload_n 3, 1) := by decide +kernel
theorem dL_law_845 : decode code 845 = .ok (.iconst 1, 1) := by decide +kernel
theorem dL_law_846 : decode code 846 = .ok (.iadd, 1) := by decide +kernel
theorem dL_law_847 : decode code 847 = .ok (.iaload, 1) := by decide +kernel
theorem dL_law_848 : decode code 848 = .ok (.invokevirtual 112, 3) := by decide +kernel
theorem dL_law_851 : decode code 851 = .ok (.aload_n 2, 1) := by decide +kernel
theorem dL_law_852 : decode code 852 = .ok (.aload_n 0, 1) := by decide +kernel
theorem dL_law_853 : decode code 853 = .ok (.iload_n 3, 1) := by decide +kernel
theorem dL_law_854 : decode code 854 = .ok (.iconst 1, 1) := by decide +kernel
theorem dL_law_855 : decode code 855 = .ok (.iadd, 1) := by decide +kernel
theorem dL_law_856 : decode code 856 = .ok (.iaload, 1) := by decide +kernel
theorem dL_law_857 : decode code 857 = .ok (.invokevirtual 115, 3) := by decide +kernel
theorem dL_law_860 : decode code 860 = .ok (.if_icmp .eq 531, 3) := by decide +kernel
theorem dL_law_863 : decode code 863 = .ok (.iconst 0, 1) := by decide +kernel
theorem dL_law_864 : decode code 864 = .ok (.ireturn, 1) := by decide +kernel
theorem dL_law_865 : decode code 865 = .ok (.aload_n 1, 1) := by decide +kernel
theorem dL_law_866 : decode code 866 = .ok (.aload_n 0, 1) := by decide +kernel
theorem dL_law_867 : decode code 867 = .ok (.iload_n 3, 1) := by decide +kernel
theorem dL_law_868 : decode code 868 = .ok (.iconst 1, 1) := by decide +kernel
theorem dL_law_869 : decode code 869 = .ok (.iadd, 1) := by decide +kernel
theorem dL_law_870 : decode code 870 = .ok (.iaload, 1) := by decide +kernel
theorem dL_law_871 : decode code 871 = .ok (.invokevirtual 116, 3) := by decide +kernel
theorem dL_law_874 : decode code 874 = .ok (.aload_n 2, 1) := by decide +kernel
theorem dL_law_875 : decode code 875 = .ok (.aload_n 0, 1) := by decide +kernel
theorem dL_law_876 : decode code 876 = .ok (.iload_n 3, 1) := by decide +kernel
theorem dL_law_877 : decode code 877 = .ok (.iconst 1, 1) := by decide +kernel
theorem dL_law_878 : decode code 878 = .ok (.iadd, 1) := by decide +kernel
theorem dL_law_879 : decode code 879 = .ok (.iaload, 1) := by decide +kernel
theorem dL_law_880 : decode code 880 = .ok (.invokevirtual 119, 3) := by decide +kernel
theorem dL_law_883 : decode code 883 = .ok (.if_icmp .eq 508, 3) := by decide +kernel
theorem dL_law_886 : decode code 886 = .ok (.iconst 0, 1) := by decide +kernel
theorem dL_law_887 : decode code 887 = .ok (.ireturn, 1) := by decide +kernel
theorem dL_law_888 : decode code 888 = .ok (.aload_n 1, 1) := by decide +kernel
theorem dL_law_889 : decode code 889 = .ok (.aload_n 0, 1) := by decide +kernel
theorem dL_law_890 : decode code 890 = .ok (.iload_n 3, 1) := by decide +kernel
theorem dL_law_891 : decode code 891 = .ok (.iconst 1, 1) := by decide +kernel
theorem dL_law_892 : decode code 892 = .ok (.iadd, 1) := by decide +kernel
theorem dL_law_893 : decode code 893 = .ok (.iaload, 1) := by decide +kernel
theorem dL_law_894 : decode code 894 = .ok (.invokevirtual 120, 3) := by decide +kernel
theorem dL_law_897 : decode code 897 = .ok (.aload_n 2, 1) := by decide +kernel
theorem dL_law_898 : decode code 898 = .ok (.aload_n 0, 1) := by decide +kernel
theorem dL_law_899 : decode code 899 = .ok (.iload_n 3, 1) := by decide +kernel
theorem dL_law_900 : decode code 900 = .ok (.iconst 1, 1) := by decide +kernel
theorem dL_law_901 : decode code 901 = .ok (.iadd, 1) := by decide +kernel
theorem dL_law_902 : decode code 902 = .ok (.iaload, 1) := by decide +kernel
theorem dL_law_903 : decode code 903 = .ok (.invokevirtual 123, 3) := by decide +kernel
theorem dL_law_906 : decode code 906 = .ok (.if_icmp .eq 485, 3) := by decide +kernel
theorem dL_law_909 : decode code 909 = .ok (.iconst 0, 1) := by decide +kernel
theorem dL_law_910 : decode code 910 = .ok (.ireturn, 1) := by decide +kernel
theorem dL_law_911 : decode code 911 = .ok (.aload_n 1, 1) := by decide +kernel
theorem dL_law_912 : decode code 912 = .ok (.aload_n 0, 1) := by decide +kernel
theorem dL_law_913 : decode code 913 = .ok (.iload_n 3, 1) := by decide +kernel
theorem dL_law_914 : decode code 914 = .ok (.iconst 1, 1) := by decide +kernel
theorem dL_law_915 : decode code 915 = .ok (.iadd, 1) := by decide +kernel
theorem dL_law_916 : decode code 916 = .ok (.iaload, 1) := by decide +kernel
theorem dL_law_917 : decode code 917 = .ok (.invokevirtual 124, 3) := by decide +kernel
theorem dL_law_920 : decode code 920 = .ok (.aload_n 2, 1) := by decide +kernel
theorem dL_law_921 : decode code 921 = .ok (.aload_n 0, 1) := by decide +kernel
theorem dL_law_922 : decode code 922 = .ok (.iload_n 3, 1) := by decide +kernel
theorem dL_law_923 : decode code 923 = .ok (.iconst 1, 1) := by decide +kernel
theorem dL_law_924 : decode code 924 = .ok (.iadd, 1) := by decide +kernel
theorem dL_law_925 : decode code 925 = .ok (.iaload, 1) := by decide +kernel
theorem dL_law_926 : decode code 926 = .ok (.invokevirtual 127, 3) := by decide +kernel
theorem dL_law_929 : decode code 929 = .ok (.if_icmp .eq 462, 3) := by decide +kernel
theorem dL_law_932 : decode code 932 = .ok (.iconst 0, 1) := by decide +kernel
theorem dL_law_933 : decode code 933 = .ok (.ireturn, 1) := by decide +kernel
theorem dL_law_934 : decode code 934 = .ok (.aload_n 1, 1) := by decide +kernel
theorem dL_law_935 : decode code 935 = .ok (.aload_n 0, 1) := by decide +kernel
theorem dL_law_936 : decode code 936 = .ok (.iload_n 3, 1) := by decide +kernel
theorem dL_law_937 : decode code 937 = .ok (.iconst 1, 1) := by decide +kernel
theorem dL_law_938 : decode code 938 = .ok (.iadd, 1) := by decide +kernel
theorem dL_law_939 : decode code 939 = .ok (.iaload, 1) := by decide +kernel
theorem dL_law_940 : decode code 940 = .ok (.invokevirtual 128, 3) := by decide +kernel
theorem dL_law_943 : decode code 943 = .ok (.aload_n 2, 1) := by decide +kernel
theorem dL_law_944 : decode code 944 = .ok (.aload_n 0, 1) := by decide +kernel
theorem dL_law_945 : decode code 945 = .ok (.iload_n 3, 1) := by decide +kernel
theorem dL_law_946 : decode code 946 = .ok (.iconst 1, 1) := by decide +kernel
theorem dL_law_947 : decode code 947 = .ok (.iadd, 1) := by decide +kernel
theorem dL_law_948 : decode code 948 = .ok (.iaload, 1) := by decide +kernel
theorem dL_law_949 : decode code 949 = .ok (.invokevirtual 131, 3) := by decide +kernel
theorem dL_law_952 : decode code 952 = .ok (.if_icmp .eq 439, 3) := by decide +kernel
theorem dL_law_955 : decode code 955 = .ok (.iconst 0, 1) := by decide +kernel
theorem dL_law_956 : decode code 956 = .ok (.ireturn, 1) := by decide +kernel
theorem dL_law_957 : decode code 957 = .ok (.aload_n 1, 1) := by decide +kernel
theorem dL_law_958 : decode code 958 = .ok (.aload_n 0, 1) := by decide +kernel
theorem dL_law_959 : decode code 959 = .ok (.iload_n 3, 1) := by decide +kernel
theorem dL_law_960 : decode code 960 = .ok (.iconst 1, 1) := by decide +kernel
theorem dL_law_961 : decode code 961 = .ok (.iadd, 1) := by decide +kernel
theorem dL_law_962 : decode code 962 = .ok (.iaload, 1) := by decide +kernel
theorem dL_law_963 : decode code 963 = .ok (.aload_n 0, 1) := by decide +kernel
theorem dL_law_964 : decode code 964 = .ok (.iload_n 3, 1) := by decide +kernel
theorem dL_law_965 : decode code 965 = .ok (.iconst 2, 1) := by decide +kernel
theorem dL_law_966 : decode code 966 = .ok (.iadd, 1) := by decide +kernel
theorem dL_law_967 : decode code 967 = .ok (.iaload, 1) := by decide +kernel
theorem dL_law_968 : decode code 968 = .ok (.aload_n 0, 1) := by decide +kernel
theorem dL_law_969 : decode code 969 = .ok (.iload_n 3, 1) := by decide +kernel
theorem dL_law_970 : decode code 970 = .ok (.iconst 3, 1) := by decide +kernel
theorem dL_law_971 : decode code 971 = .ok (.iadd, 1) := by decide +kernel
theorem dL_law_972 : decode code 972 = .ok (.iaload, 1) := by decide +kernel
theorem dL_law_973 : decode code 973 = .ok (.invokevirtual 132, 3) := by decide +kernel
theorem dL_law_976 : decode code 976 = .ok (.aload_n 2, 1) := by decide +kernel
theorem dL_law_977 : decode code 977 = .ok (.aload_n 0, 1) := by decide +kernel
theorem dL_law_978 : decode code 978 = .ok (.iload_n 3, 1) := by decide +kernel
theorem dL_law_979 : decode code 979 = .ok (.iconst 1, 1) := by decide +kernel
theorem dL_law_980 : decode code 980 = .ok (.iadd, 1) := by decide +kernel
theorem dL_law_981 : decode code 981 = .ok (.iaload, 1) := by decide +kernel
theorem dL_law_982 : decode code 982 = .ok (.aload_n 0, 1) := by decide +kernel
theorem dL_law_983 : decode code 983 = .ok (.iload_n 3, 1) := by decide +kernel
theorem dL_law_984 : decode code 984 = .ok (.iconst 2, 1) := by decide +kernel
theorem dL_law_985 : decode code 985 = .ok (.iadd, 1) := by decide +kernel
theorem dL_law_986 : decode code 986 = .ok (.iaload, 1) := by decide +kernel
theorem dL_law_987 : decode code 987 = .ok (.aload_n 0, 1) := by decide +kernel
theorem dL_law_988 : decode code 988 = .ok (.iload_n 3, 1) := by decide +kernel
theorem dL_law_989 : decode code 989 = .ok (.iconst 3, 1) := by decide +kernel
theorem dL_law_990 : decode code 990 = .ok (.iadd, 1) := by decide +kernel
theorem dL_law_991 : decode code 991 = .ok (.iaload, 1) := by decide +kernel
theorem dL_law_992 : decode code 992 = .ok (.invokevirtual 136, 3) := by decide +kernel
theorem dL_law_995 : decode code 995 = .ok (.lcmp, 1) := by decide +kernel
theorem dL_law_996 : decode code 996 = .ok (.ifCond .eq 395, 3) := by decide +kernel
theorem dL_law_999 : decode code 999 = .ok (.iconst 0, 1) := by decide +kernel
theorem dL_law_1000 : decode code 1000 = .ok (.ireturn, 1) := by decide +kernel
theorem dL_law_1001 : decode code 1001 = .ok (.aload_n 1, 1) := by decide +kernel
theorem dL_law_1002 : decode code 1002 = .ok (.aload_n 0, 1) := by decide +kernel
theorem dL_law_1003 : decode code 1003 = .ok (.iload_n 3, 1) := by decide +kernel
theorem dL_law_1004 : decode code 1004 = .ok (.iconst 1, 1) := by decide +kernel
theorem dL_law_1005 : decode code 1005 = .ok (.iadd, 1) := by decide +kernel
theorem dL_law_1006 : decode code 1006 = .ok (.iaload, 1) := by decide +kernel
theorem dL_law_1007 : decode code 1007 = .ok (.aload_n 0, 1) := by decide +kernel
theorem dL_law_1008 : decode code 1008 = .ok (.iload_n 3, 1) := by decide +kernel
theorem dL_law_1009 : decode code 1009 = .ok (.iconst 2, 1) := by decide +kernel
theorem dL_law_1010 : decode code 1010 = .ok (.iadd, 1) := by decide +kernel
theorem dL_law_1011 : decode code 1011 = .ok (.iaload, 1) := by decide +kernel
theorem dL_law_1012 : decode code 1012 = .ok (.invokevirtual 137, 3) := by decide +kernel
theorem dL_law_1015 : decode code 1015 = .ok (.aload_n 2, 1) := by decide +kernel
theorem dL_law_1016 : decode code 1016 = .ok (.aload_n 0, 1) := by decide +kernel
theorem dL_law_1017 : decode code 1017 = .ok (.iload_n 3, 1) := by decide +kernel
theorem dL_law_1018 : decode code 1018 = .ok (.iconst 1, 1) := by decide +kernel
theorem dL_law_1019 : decode code 1019 = .ok (.iadd, 1) := by decide +kernel
theorem dL_law_1020 : decode code 1020 = .ok (.iaload, 1) := by decide +kernel
theorem dL_law_1021 : decode code 1021 = .ok (.aload_n 0, 1) := by decide +kernel
theorem dL_law_1022 : decode code 1022 = .ok (.iload_n 3, 1) := by decide +kernel
theorem dL_law_1023 : decode code 1023 = .ok (.iconst 2, 1) := by decide +kernel
theorem dL_law_1024 : decode code 1024 = .ok (.iadd, 1) := by decide +kernel
theorem dL_law_1025 : decode code 1025 = .ok (.iaload, 1) := by decide +kernel
theorem dL_law_1026 : decode code 1026 = .ok (.invokevirtual 141, 3) := by decide +kernel
theorem dL_law_1029 : decode code 1029 = .ok (.lcmp, 1) := by decide +kernel
theorem dL_law_1030 : decode code 1030 = .ok (.ifCond .eq 361, 3) := by decide +kernel
theorem dL_law_1033 : decode code 1033 = .ok (.iconst 0, 1) := by decide +kernel
theorem dL_law_1034 : decode code 1034 = .ok (.ireturn, 1) := by decide +kernel
theorem dL_law_1035 : decode code 1035 = .ok (.aload_n 1, 1) := by decide +kernel
theorem dL_law_1036 : decode code 1036 = .ok (.aload_n 0, 1) := by decide +kernel
theorem dL_law_1037 : decode code 1037 = .ok (.iload_n 3, 1) := by decide +kernel
theorem dL_law_1038 : decode code 1038 = .ok (.iconst 1, 1) := by decide +kernel
theorem dL_law_1039 : decode code 1039 = .ok (.iadd, 1) := by decide +kernel
theorem dL_law_1040 : decode code 1040 = .ok (.iaload, 1) := by decide +kernel
theorem dL_law_1041 : decode code 1041 = .ok (.aload_n 0, 1) := by decide +kernel
theorem dL_law_1042 : decode code 1042 = .ok (.iload_n 3, 1) := by decide +kernel
theorem dL_law_1043 : decode code 1043 = .ok (.iconst 2, 1) := by decide +kernel
theorem dL_law_1044 : decode code 1044 = .ok (.iadd, 1) := by decide +kernel
theorem dL_law_1045 : decode code 1045 = .ok (.iaload, 1) := by decide +kernel
theorem dL_law_1046 : decode code 1046 = .ok (.invokevirtual 142, 3) := by decide +kernel
theorem dL_law_1049 : decode code 1049 = .ok (.aload_n 2, 1) := by decide +kernel
theorem dL_law_1050 : decode code 1050 = .ok (.aload_n 0, 1) := by decide +kernel
theorem dL_law_1051 : decode code 1051 = .ok (.iload_n 3, 1) := by decide +kernel
theorem dL_law_1052 : decode code 1052 = .ok (.iconst 1, 1) := by decide +kernel
theorem dL_law_1053 : decode code 1053 = .ok (.iadd, 1) := by decide +kernel
theorem dL_law_1054 : decode code 1054 = .ok (.iaload, 1) := by decide +kernel
theorem dL_law_1055 : decode code 1055 = .ok (.aload_n 0, 1) := by decide +kernel
theorem dL_law_1056 : decode code 1056 = .ok (.iload_n 3, 1) := by decide +kernel
theorem dL_law_1057 : decode code 1057 = .ok (.iconst 2, 1) := by decide +kernel
theorem dL_law_1058 : decode code 1058 = .ok (.iadd, 1) := by decide +kernel
theorem dL_law_1059 : decode code 1059 = .ok (.iaload, 1) := by decide +kernel
theorem dL_law_1060 : decode code 1060 = .ok (.invokevirtual 145, 3) := by decide +kernel
theorem dL_law_1063 : decode code 1063 = .ok (.if_icmp .eq 328, 3) := by decide +kernel
theorem dL_law_1066 : decode code 1066 = .ok (.iconst 0, 1) := by decide +kernel
theorem dL_law_1067 : decode code 1067 = .ok (.ireturn, 1) := by decide +kernel
theorem dL_law_1068 : decode code 1068 = .ok (.aload_n 1, 1) := by decide +kernel
theorem dL_law_1069 : decode code 1069 = .ok (.aload_n 0, 1) := by decide +kernel
theorem dL_law_1070 : decode code 1070 = .ok (.iload_n 3, 1) := by decide +kernel
theorem dL_law_1071 : decode code 1071 = .ok (.iconst 1, 1) := by decide +kernel
theorem dL_law_1072 : decode code 1072 = .ok (.iadd, 1) := by decide +kernel
theorem dL_law_1073 : decode code 1073 = .ok (.iaload, 1) := by decide +kernel
theorem dL_law_1074 : decode code 1074 = .ok (.invokevirtual 146, 3) := by decide +kernel
theorem dL_law_1077 : decode code 1077 = .ok (.aload_n 2, 1) := by decide +kernel
theorem dL_law_1078 : decode code 1078 = .ok (.aload_n 0, 1) := by decide +kernel
theorem dL_law_1079 : decode code 1079 = .ok (.iload_n 3, 1) := by decide +kernel
theorem dL_law_1080 : decode code 1080 = .ok (.iconst 1, 1) := by decide +kernel
theorem dL_law_1081 : decode code 1081 = .ok (.iadd, 1) := by decide +kernel
theorem dL_law_1082 : decode code 1082 = .ok (.iaload, 1) := by decide +kernel
theorem dL_law_1083 : decode code 1083 = .ok (.invokevirtual 149, 3) := by decide +kernel
theorem dL_law_1086 : decode code 1086 = .ok (.if_icmp .eq 305, 3) := by decide +kernel
theorem dL_law_1089 : decode code 1089 = .ok (.iconst 0, 1) := by decide +kernel
theorem dL_law_1090 : decode code 1090 = .ok (.ireturn, 1) := by decide +kernel
theorem dL_law_1091 : decode code 1091 = .ok (.aload_n 1, 1) := by decide +kernel
theorem dL_law_1092 : decode code 1092 = .ok (.invokevirtual 150, 3) := by decide +kernel
theorem dL_law_1095 : decode code 1095 = .ok (.aload_n 2, 1) := by decide +kernel
theorem dL_law_1096 : decode code 1096 = .ok (.invokevirtual 153, 3) := by decide +kernel
theorem dL_law_1099 : decode code 1099 = .ok (.if_icmp .eq 292, 3) := by decide +kernel
theorem dL_law_1102 : decode code 1102 = .ok (.iconst 0, 1) := by decide +kernel
theorem dL_law_1103 : decode code 1103 = .ok (.ireturn, 1) := by decide +kernel
theorem dL_law_1104 : decode code 1104 = .ok (.aload_n 1, 1) := by decide +kernel
theorem dL_law_1105 : decode code 1105 = .ok (.aload_n 0, 1) := by decide +kernel
theorem dL_law_1106 : decode code 1106 = .ok (.iload_n 3, 1) := by decide +kernel
theorem dL_law_1107 : decode code 1107 = .ok (.iconst 1, 1) := by decide +kernel
theorem dL_law_1108 : decode code 1108 = .ok (.iadd, 1) := by decide +kernel
theorem dL_law_1109 : decode code 1109 = .ok (.iaload, 1) := by decide +kernel
theorem dL_law_1110 : decode code 1110 = .ok (.invokevirtual 154, 3) := by decide +kernel
theorem dL_law_1113 : decode code 1113 = .ok (.aload_n 2, 1) := by decide +kernel
theorem dL_law_1114 : decode code 1114 = .ok (.aload_n 0, 1) := by decide +kernel
theorem dL_law_1115 : decode code 1115 = .ok (.iload_n 3, 1) := by decide +kernel
theorem dL_law_1116 : decode code 1116 = .ok (.iconst 1, 1) := by decide +kernel
theorem dL_law_1117 : decode code 1117 = .ok (.iadd, 1) := by decide +kernel
theorem dL_law_1118 : decode code 1118 = .ok (.iaload, 1) := by decide +kernel
theorem dL_law_1119 : decode code 1119 = .ok (.invokevirtual 157, 3) := by decide +kernel
theorem dL_law_1122 : decode code 1122 = .ok (.if_icmp .eq 269, 3) := by decide +kernel
theorem dL_law_1125 : decode code 1125 = .ok (.iconst 0, 1) := by decide +kernel
theorem dL_law_1126 : decode code 1126 = .ok (.ireturn, 1) := by decide +kernel
theorem dL_law_1127 : decode code 1127 = .ok (.aload_n 1, 1) := by decide +kernel
theorem dL_law_1128 : decode code 1128 = .ok (.aload_n 0, 1) := by decide +kernel
theorem dL_law_1129 : decode code 1129 = .ok (.iload_n 3, 1) := by decide +kernel
theorem dL_law_1130 : decode code 1130 = .ok (.iconst 1, 1) := by decide +kernel
theorem dL_law_1131 : decode code 1131 = .ok (.iadd, 1) := by decide +kernel
theorem dL_law_1132 : decode code 1132 = .ok (.iaload, 1) := by decide +kernel
theorem dL_law_1133 : decode code 1133 = .ok (.aload_n 0, 1) := by decide +kernel
theorem dL_law_1134 : decode code 1134 = .ok (.iload_n 3, 1) := by decide +kernel
theorem dL_law_1135 : decode code 1135 = .ok (.iconst 2, 1) := by decide +kernel
theorem dL_law_1136 : decode code 1136 = .ok (.iadd, 1) := by decide +kernel
theorem dL_law_1137 : decode code 1137 = .ok (.iaload, 1) := by decide +kernel
theorem dL_law_1138 : decode code 1138 = .ok (.aload_n 0, 1) := by decide +kernel
theorem dL_law_1139 : decode code 1139 = .ok (.iload_n 3, 1) := by decide +kernel
theorem dL_law_1140 : decode code 1140 = .ok (.iconst 3, 1) := by decide +kernel
theorem dL_law_1141 : decode code 1141 = .ok (.iadd, 1) := by decide +kernel
theorem dL_law_1142 : decode code 1142 = .ok (.iaload, 1) := by decide +kernel
theorem dL_law_1143 : decode code 1143 = .ok (.invokevirtual 158, 3) := by decide +kernel
theorem dL_law_1146 : decode code 1146 = .ok (.aload_n 2, 1) := by decide +kernel
theorem dL_law_1147 : decode code 1147 = .ok (.aload_n 0, 1) := by decide +kernel
theorem dL_law_1148 : decode code 1148 = .ok (.iload_n 3, 1) := by decide +kernel
theorem dL_law_1149 : decode code 1149 = .ok (.iconst 1, 1) := by decide +kernel
theorem dL_law_1150 : decode code 1150 = .ok (.iadd, 1) := by decide +kernel
theorem dL_law_1151 : decode code 1151 = .ok (.iaload, 1) := by decide +kernel
theorem dL_law_1152 : decode code 1152 = .ok (.aload_n 0, 1) := by decide +kernel
theorem dL_law_1153 : decode code 1153 = .ok (.iload_n 3, 1) := by decide +kernel
theorem dL_law_1154 : decode code 1154 = .ok (.iconst 2, 1) := by decide +kernel
theorem dL_law_1155 : decode code 1155 = .ok (.iadd, 1) := by decide +kernel
theorem dL_law_1156 : decode code 1156 = .ok (.iaload, 1) := by decide +kernel
theorem dL_law_1157 : decode code 1157 = .ok (.aload_n 0, 1) := by decide +kernel
theorem dL_law_1158 : decode code 1158 = .ok (.iload_n 3, 1) := by decide +kernel
theorem dL_law_1159 : decode code 1159 = .ok (.iconst 3, 1) := by decide +kernel
theorem dL_law_1160 : decode code 1160 = .ok (.iadd, 1) := by decide +kernel
theorem dL_law_1161 : decode code 1161 = .ok (.iaload, 1) := by decide +kernel
theorem dL_law_1162 : decode code 1162 = .ok (.invokevirtual 162, 3) := by decide +kernel
theorem dL_law_1165 : decode code 1165 = .ok (.if_icmp .eq 226, 3) := by decide +kernel
theorem dL_law_1168 : decode code 1168 = .ok (.iconst 0, 1) := by decide +kernel
theorem dL_law_1169 : decode code 1169 = .ok (.ireturn, 1) := by decide +kernel
theorem dL_law_1170 : decode code 1170 = .ok (.aload_n 1, 1) := by decide +kernel
theorem dL_law_1171 : decode code 1171 = .ok (.aload_n 0, 1) := by decide +kernel
theorem dL_law_1172 : decode code 1172 = .ok (.iload_n 3, 1) := by decide +kernel
theorem dL_law_1173 : decode code 1173 = .ok (.iconst 1, 1) := by decide +kernel
theorem dL_law_1174 : decode code 1174 = .ok (.iadd, 1) := by decide +kernel
theorem dL_law_1175 : decode code 1175 = .ok (.iaload, 1) := by decide +kernel
theorem dL_law_1176 : decode code 1176 = .ok (.invokevirtual 163, 3) := by decide +kernel
theorem dL_law_1179 : decode code 1179 = .ok (.aload_n 2, 1) := by decide +kernel
theorem dL_law_1180 : decode code 1180 = .ok (.aload_n 0, 1) := by decide +kernel
theorem dL_law_1181 : decode code 1181 = .ok (.iload_n 3, 1) := by decide +kernel
theorem dL_law_1182 : decode code 1182 = .ok (.iconst 1, 1) := by decide +kernel
theorem dL_law_1183 : decode code 1183 = .ok (.iadd, 1) := by decide +kernel
theorem dL_law_1184 : decode code 1184 = .ok (.iaload, 1) := by decide +kernel
theorem dL_law_1185 : decode code 1185 = .ok (.invokevirtual 166, 3) := by decide +kernel
theorem dL_law_1188 : decode code 1188 = .ok (.if_icmp .eq 203, 3) := by decide +kernel
theorem dL_law_1191 : decode code 1191 = .ok (.iconst 0, 1) := by decide +kernel
theorem dL_law_1192 : decode code 1192 = .ok (.ireturn, 1) := by decide +kernel
theorem dL_law_1193 : decode code 1193 = .ok (.aload_n 1, 1) := by decide +kernel
theorem dL_law_1194 : decode code 1194 = .ok (.aload_n 0, 1) := by decide +kernel
theorem dL_law_1195 : decode code 1195 = .ok (.iload_n 3, 1) := by decide +kernel
theorem dL_law_1196 : decode code 1196 = .ok (.iconst 1, 1) := by decide +kernel
theorem dL_law_1197 : decode code 1197 = .ok (.iadd, 1) := by decide +kernel
theorem dL_law_1198 : decode code 1198 = .ok (.iaload, 1) := by decide +kernel
theorem dL_law_1199 : decode code 1199 = .ok (.invokevirtual 167, 3) := by decide +kernel
theorem dL_law_1202 : decode code 1202 = .ok (.aload_n 2, 1) := by decide +kernel
theorem dL_law_1203 : decode code 1203 = .ok (.aload_n 0, 1) := by decide +kernel
theorem dL_law_1204 : decode code 1204 = .ok (.iload_n 3, 1) := by decide +kernel
theorem dL_law_1205 : decode code 1205 = .ok (.iconst 1, 1) := by decide +kernel
theorem dL_law_1206 : decode code 1206 = .ok (.iadd, 1) := by decide +kernel
theorem dL_law_1207 : decode code 1207 = .ok (.iaload, 1) := by decide +kernel
theorem dL_law_1208 : decode code 1208 = .ok (.invokevirtual 170, 3) := by decide +kernel
theorem dL_law_1211 : decode code 1211 = .ok (.if_icmp .eq 180, 3) := by decide +kernel
theorem dL_law_1214 : decode code 1214 = .ok (.iconst 0, 1) := by decide +kernel
theorem dL_law_1215 : decode code 1215 = .ok (.ireturn, 1) := by decide +kernel
theorem dL_law_1216 : decode code 1216 = .ok (.aload_n 1, 1) := by decide +kernel
theorem dL_law_1217 : decode code 1217 = .ok (.aload_n 0, 1) := by decide +kernel
theorem dL_law_1218 : decode code 1218 = .ok (.iload_n 3, 1) := by decide +kernel
theorem dL_law_1219 : decode code 1219 = .ok (.iconst 1, 1) := by decide +kernel
theorem dL_law_1220 : decode code 1220 = .ok (.iadd, 1) := by decide +kernel
theorem dL_law_1221 : decode code 1221 = .ok (.iaload, 1) := by decide +kernel
theorem dL_law_1222 : decode code 1222 = .ok (.aload_n 0, 1) := by decide +kernel
theorem dL_law_1223 : decode code 1223 = .ok (.iload_n 3, 1) := by decide +kernel
theorem dL_law_1224 : decode code 1224 = .ok (.iconst 2, 1) := by decide +kernel
theorem dL_law_1225 : decode code 1225 = .ok (.iadd, 1) := by decide +kernel
theorem dL_law_1226 : decode code 1226 = .ok (.iaload, 1) := by decide +kernel
theorem dL_law_1227 : decode code 1227 = .ok (.aload_n 0, 1) := by decide +kernel
theorem dL_law_1228 : decode code 1228 = .ok (.iload_n 3, 1) := by decide +kernel
theorem dL_law_1229 : decode code 1229 = .ok (.iconst 3, 1) := by decide +kernel
theorem dL_law_1230 : decode code 1230 = .ok (.iadd, 1) := by decide +kernel
theorem dL_law_1231 : decode code 1231 = .ok (.iaload, 1) := by decide +kernel
theorem dL_law_1232 : decode code 1232 = .ok (.invokevirtual 171, 3) := by decide +kernel
theorem dL_law_1235 : decode code 1235 = .ok (.aload_n 2, 1) := by decide +kernel
theorem dL_law_1236 : decode code 1236 = .ok (.aload_n 0, 1) := by decide +kernel
theorem dL_law_1237 : decode code 1237 = .ok (.iload_n 3, 1) := by decide +kernel
theorem dL_law_1238 : decode code 1238 = .ok (.iconst 1, 1) := by decide +kernel
theorem dL_law_1239 : decode code 1239 = .ok (.iadd, 1) := by decide +kernel
theorem dL_law_1240 : decode code 1240 = .ok (.iaload, 1) := by decide +kernel
theorem dL_law_1241 : decode code 1241 = .ok (.aload_n 0, 1) := by decide +kernel
theorem dL_law_1242 : decode code 1242 = .ok (.iload_n 3, 1) := by decide +kernel
theorem dL_law_1243 : decode code 1243 = .ok (.iconst 2, 1) := by decide +kernel
theorem dL_law_1244 : decode code 1244 = .ok (.iadd, 1) := by decide +kernel
theorem dL_law_1245 : decode code 1245 = .ok (.iaload, 1) := by decide +kernel
theorem dL_law_1246 : decode code 1246 = .ok (.aload_n 0, 1) := by decide +kernel
theorem dL_law_1247 : decode code 1247 = .ok (.iload_n 3, 1) := by decide +kernel
theorem dL_law_1248 : decode code 1248 = .ok (.iconst 3, 1) := by decide +kernel
theorem dL_law_1249 : decode code 1249 = .ok (.iadd, 1) := by decide +kernel
theorem dL_law_1250 : decode code 1250 = .ok (.iaload, 1) := by decide +kernel
theorem dL_law_1251 : decode code 1251 = .ok (.invokevirtual 174, 3) := by decide +kernel
theorem dL_law_1254 : decode code 1254 = .ok (.if_icmp .eq 137, 3) := by decide +kernel
theorem dL_law_1257 : decode code 1257 = .ok (.iconst 0, 1) := by decide +kernel
theorem dL_law_1258 : decode code 1258 = .ok (.ireturn, 1) := by decide +kernel
theorem dL_law_1259 : decode code 1259 = .ok (.aload_n 1, 1) := by decide +kernel
theorem dL_law_1260 : decode code 1260 = .ok (.aload_n 0, 1) := by decide +kernel
theorem dL_law_1261 : decode code 1261 = .ok (.iload_n 3, 1) := by decide +kernel
theorem dL_law_1262 : decode code 1262 = .ok (.iconst 1, 1) := by decide +kernel
theorem dL_law_1263 : decode code 1263 = .ok (.iadd, 1) := by decide +kernel
theorem dL_law_1264 : decode code 1264 = .ok (.iaload, 1) := by decide +kernel
theorem dL_law_1265 : decode code 1265 = .ok (.aload_n 0, 1) := by decide +kernel
theorem dL_law_1266 : decode code 1266 = .ok (.iload_n 3, 1) := by decide +kernel
theorem dL_law_1267 : decode code 1267 = .ok (.iconst 2, 1) := by decide +kernel
theorem dL_law_1268 : decode code 1268 = .ok (.iadd, 1) := by decide +kernel
theorem dL_law_1269 : decode code 1269 = .ok (.iaload, 1) := by decide +kernel
theorem dL_law_1270 : decode code 1270 = .ok (.aload_n 0, 1) := by decide +kernel
theorem dL_law_1271 : decode code 1271 = .ok (.iload_n 3, 1) := by decide +kernel
theorem dL_law_1272 : decode code 1272 = .ok (.iconst 3, 1) := by decide +kernel
theorem dL_law_1273 : decode code 1273 = .ok (.iadd, 1) := by decide +kernel
theorem dL_law_1274 : decode code 1274 = .ok (.iaload, 1) := by decide +kernel
theorem dL_law_1275 : decode code 1275 = .ok (.invokevirtual 175, 3) := by decide +kernel
theorem dL_law_1278 : decode code 1278 = .ok (.aload_n 2, 1) := by decide +kernel
theorem dL_law_1279 : decode code 1279 = .ok (.aload_n 0, 1) := by decide +kernel
theorem dL_law_1280 : decode code 1280 = .ok (.iload_n 3, 1) := by decide +kernel
theorem dL_law_1281 : decode code 1281 = .ok (.iconst 1, 1) := by decide +kernel
theorem dL_law_1282 : decode code 1282 = .ok (.iadd, 1) := by decide +kernel
theorem dL_law_1283 : decode code 1283 = .ok (.iaload, 1) := by decide +kernel
theorem dL_law_1284 : decode code 1284 = .ok (.aload_n 0, 1) := by decide +kernel
theorem dL_law_1285 : decode code 1285 = .ok (.iload_n 3, 1) := by decide +kernel
theorem dL_law_1286 : decode code 1286 = .ok (.iconst 2, 1) := by decide +kernel
theorem dL_law_1287 : decode code 1287 = .ok (.iadd, 1) := by decide +kernel
theorem dL_law_1288 : decode code 1288 = .ok (.iaload, 1) := by decide +kernel
theorem dL_law_1289 : decode code 1289 = .ok (.aload_n 0, 1) := by decide +kernel
theorem dL_law_1290 : decode code 1290 = .ok (.iload_n 3, 1) := by decide +kernel
theorem dL_law_1291 : decode code 1291 = .ok (.iconst 3, 1) := by decide +kernel
theorem dL_law_1292 : decode code 1292 = .ok (.iadd, 1) := by decide +kernel
theorem dL_law_1293 : decode code 1293 = .ok (.iaload, 1) := by decide +kernel
theorem dL_law_1294 : decode code 1294 = .ok (.invokevirtual 178, 3) := by decide +kernel
theorem dL_law_1297 : decode code 1297 = .ok (.if_icmp .eq 94, 3) := by decide +kernel
theorem dL_law_1300 : decode code 1300 = .ok (.iconst 0, 1) := by decide +kernel
theorem dL_law_1301 : decode code 1301 = .ok (.ireturn, 1) := by decide +kernel
theorem dL_law_1302 : decode code 1302 = .ok (.aload_n 1, 1) := by decide +kernel
theorem dL_law_1303 : decode code 1303 = .ok (.aload_n 0, 1) := by decide +kernel
theorem dL_law_1304 : decode code 1304 = .ok (.iload_n 3, 1) := by decide +kernel
theorem dL_law_1305 : decode code 1305 = .ok (.iconst 1, 1) := by decide +kernel
theorem dL_law_1306 : decode code 1306 = .ok (.iadd, 1) := by decide +kernel
theorem dL_law_1307 : decode code 1307 = .ok (.iaload, 1) := by decide +kernel
theorem dL_law_1308 : decode code 1308 = .ok (.aload_n 0, 1) := by decide +kernel
theorem dL_law_1309 : decode code 1309 = .ok (.iload_n 3, 1) := by decide +kernel
theorem dL_law_1310 : decode code 1310 = .ok (.iconst 2, 1) := by decide +kernel
theorem dL_law_1311 : decode code 1311 = .ok (.iadd, 1) := by decide +kernel
theorem dL_law_1312 : decode code 1312 = .ok (.iaload, 1) := by decide +kernel
theorem dL_law_1313 : decode code 1313 = .ok (.aload_n 0, 1) := by decide +kernel
theorem dL_law_1314 : decode code 1314 = .ok (.iload_n 3, 1) := by decide +kernel
theorem dL_law_1315 : decode code 1315 = .ok (.iconst 3, 1) := by decide +kernel
theorem dL_law_1316 : decode code 1316 = .ok (.iadd, 1) := by decide +kernel
theorem dL_law_1317 : decode code 1317 = .ok (.iaload, 1) := by decide +kernel
theorem dL_law_1318 : decode code 1318 = .ok (.aload_n 0, 1) := by decide +kernel
theorem dL_law_1319 : decode code 1319 = .ok (.iload_n 3, 1) := by decide +kernel
theorem dL_law_1320 : decode code 1320 = .ok (.iconst 4, 1) := by decide +kernel
theorem dL_law_1321 : decode code 1321 = .ok (.iadd, 1) := by decide +kernel
theorem dL_law_1322 : decode code 1322 = .ok (.iaload, 1) := by decide +kernel
theorem dL_law_1323 : decode code 1323 = .ok (.invokevirtual 179, 3) := by decide +kernel
theorem dL_law_1326 : decode code 1326 = .ok (.aload_n 2, 1) := by decide +kernel
theorem dL_law_1327 : decode code 1327 = .ok (.aload_n 0, 1) := by decide +kernel
theorem dL_law_1328 : decode code 1328 = .ok (.iload_n 3, 1) := by decide +kernel
theorem dL_law_1329 : decode code 1329 = .ok (.iconst 1, 1) := by decide +kernel
theorem dL_law_1330 : decode code 1330 = .ok (.iadd, 1) := by decide +kernel
theorem dL_law_1331 : decode code 1331 = .ok (.iaload, 1) := by decide +kernel
theorem dL_law_1332 : decode code 1332 = .ok (.aload_n 0, 1) := by decide +kernel
theorem dL_law_1333 : decode code 1333 = .ok (.iload_n 3, 1) := by decide +kernel
theorem dL_law_1334 : decode code 1334 = .ok (.iconst 2, 1) := by decide +kernel
theorem dL_law_1335 : decode code 1335 = .ok (.iadd, 1) := by decide +kernel
theorem dL_law_1336 : decode code 1336 = .ok (.iaload, 1) := by decide +kernel
theorem dL_law_1337 : decode code 1337 = .ok (.aload_n 0, 1) := by decide +kernel
theorem dL_law_1338 : decode code 1338 = .ok (.iload_n 3, 1) := by decide +kernel
theorem dL_law_1339 : decode code 1339 = .ok (.iconst 3, 1) := by decide +kernel
theorem dL_law_1340 : decode code 1340 = .ok (.iadd, 1) := by decide +kernel
theorem dL_law_1341 : decode code 1341 = .ok (.iaload, 1) := by decide +kernel
theorem dL_law_1342 : decode code 1342 = .ok (.aload_n 0, 1) := by decide +kernel
theorem dL_law_1343 : decode code 1343 = .ok (.iload_n 3, 1) := by decide +kernel
theorem dL_law_1344 : decode code 1344 = .ok (.iconst 4, 1) := by decide +kernel
theorem dL_law_1345 : decode code 1345 = .ok (.iadd, 1) := by decide +kernel
theorem dL_law_1346 : decode code 1346 = .ok (.iaload, 1) := by decide +kernel
theorem dL_law_1347 : decode code 1347 = .ok (.invokevirtual 183, 3) := by decide +kernel
theorem dL_law_1350 : decode code 1350 = .ok (.if_icmp .eq 41, 3) := by decide +kernel
theorem dL_law_1353 : decode code 1353 = .ok (.iconst 0, 1) := by decide +kernel
theorem dL_law_1354 : decode code 1354 = .ok (.ireturn, 1) := by decide +kernel
theorem dL_law_1355 : decode code 1355 = .ok (.aload_n 1, 1) := by decide +kernel
theorem dL_law_1356 : decode code 1356 = .ok (.invokevirtual 184, 3) := by decide +kernel
theorem dL_law_1359 : decode code 1359 = .ok (.aload_n 2, 1) := by decide +kernel
theorem dL_law_1360 : decode code 1360 = .ok (.invokevirtual 187, 3) := by decide +kernel
theorem dL_law_1363 : decode code 1363 = .ok (.if_icmp .eq 28, 3) := by decide +kernel
theorem dL_law_1366 : decode code 1366 = .ok (.iconst 0, 1) := by decide +kernel
theorem dL_law_1367 : decode code 1367 = .ok (.ireturn, 1) := by decide +kernel
theorem dL_law_1368 : decode code 1368 = .ok (.aload_n 1, 1) := by decide +kernel
theorem dL_law_1369 : decode code 1369 = .ok (.aload_n 0, 1) := by decide +kernel
theorem dL_law_1370 : decode code 1370 = .ok (.iload_n 3, 1) := by decide +kernel
theorem dL_law_1371 : decode code 1371 = .ok (.iconst 1, 1) := by decide +kernel
theorem dL_law_1372 : decode code 1372 = .ok (.iadd, 1) := by decide +kernel
theorem dL_law_1373 : decode code 1373 = .ok (.iaload, 1) := by decide +kernel
theorem dL_law_1374 : decode code 1374 = .ok (.invokevirtual 188, 3) := by decide +kernel
theorem dL_law_1377 : decode code 1377 = .ok (.aload_n 2, 1) := by decide +kernel
theorem dL_law_1378 : decode code 1378 = .ok (.aload_n 0, 1) := by decide +kernel
theorem dL_law_1379 : decode code 1379 = .ok (.iload_n 3, 1) := by decide +kernel
theorem dL_law_1380 : decode code 1380 = .ok (.iconst 1, 1) := by decide +kernel
theorem dL_law_1381 : decode code 1381 = .ok (.iadd, 1) := by decide +kernel
theorem dL_law_1382 : decode code 1382 = .ok (.iaload, 1) := by decide +kernel
theorem dL_law_1383 : decode code 1383 = .ok (.invokevirtual 191, 3) := by decide +kernel
theorem dL_law_1386 : decode code 1386 = .ok (.if_icmp .eq 5, 3) := by decide +kernel
theorem dL_law_1389 : decode code 1389 = .ok (.iconst 0, 1) := by decide +kernel
theorem dL_law_1390 : decode code 1390 = .ok (.ireturn, 1) := by decide +kernel
theorem dL_law_1391 : decode code 1391 = .ok (.iinc 3 5, 3) := by decide +kernel
theorem dL_law_1394 : decode code 1394 = .ok (.goto (-1376), 3) := by decide +kernel
theorem dL_law_1397 : decode code 1397 = .ok (.iconst 1, 1) := by decide +kernel
theorem dL_law_1398 : decode code 1398 = .ok (.ireturn, 1) := by decide +kernel
abbrev qL : mMI := (yL_law, code, 4, ret, 800)
/-- cells and slots that both constructors take -/
abbrev nC : Nat := 100
abbrev nS : Nat := 1600
def SX (X : mCx) (b L : Nat) (sc : Nat → Int32) : Prop := va_X b L sc (xs X) (xs X).heap ∧ b < (xs X).heap.size ∧ ¬ xA X b ∧ xad X 118 = b
def TL (X : mCx) (b L : Nat) (sc : Nat → Int32) (pc : Nat) (lv : List (Nat × Value)) (st : List Value) (μ : mMem) : Prop :=
  Good qL X → SX X b L sc → ∀ (H : Heap) (locs : List Loc) (ls : Array Slot), va_P (xD X) vwCl (wsOf (xad X) (xcA X) μ) H → va_S (xA X) (xs X).heap H locs → lv_has ls 4 (lv.map (czl (xad X))) →
    W (xp X) (xl X) (xe X) room_1 (xs X) (xm X) (xa X) (xb X) (xM X) (xc X) H locs nC nS (lw_Z (xb X) (xa X) (xs X)) (F0 (xm X) pc ls (st.map (cz (xad X))))
theorem TL_iload_n {X : mCx} {b L : Nat} {sc : Nat → Int32} {pc : Nat} {lv : List (Nat × Value)} {st : List Value} {μ : mMem} {f : Fin 4} {i : Nat} {x : Int32} (k : Nat) (hi : (f : Nat) = i) (hk : lv[k]? = some (i, .int x)) (hd : decode code pc = .ok (.iload_n f, 1)) (h : TL X b L sc (pc + 1) lv (.int x :: st) μ) : TL X b L sc pc lv (st) μ := fun hG hs H locs ls hP hS hl => lv_iload_n hG.1 hG.2.1 hd hi (lv_at hl k (lv_gm hk)) (h hG hs H locs ls hP hS hl)
theorem TL_aload_n {X : mCx} {b L : Nat} {sc : Nat → Int32} {pc : Nat} {lv : List (Nat × Value)} {st : List Value} {μ : mMem} {f : Fin 4} {i x : Nat} (k : Nat) (hi : (f : Nat) = i) (hk : lv[k]? = some (i, .ref x)) (hd : decode code pc = .ok (.aload_n f, 1)) (h : TL X b L sc (pc + 1) lv (.ref x :: st) μ) : TL X b L sc pc lv (st) μ := fun hG hs H locs ls hP hS hl => lv_aload_n hG.1 hG.2.1 hd hi (lv_at hl k (lv_gm hk)) (h hG hs H locs ls hP hS hl)
theorem TL_iconst {X : mCx} {b L : Nat} {sc : Nat → Int32} {pc : Nat} {lv : List (Nat × Value)} {st : List Value} {μ : mMem} {n : Int} (z : Int32) (hv : Int32.ofInt n = z) (hd : decode code pc = .ok (.iconst n, 1)) (h : TL X b L sc (pc + 1) lv (.int z :: st) μ) : TL X b L sc pc lv (st) μ := fun hG hs H locs ls hP hS hl => lv_iconst hG.1 hG.2.1 hd hv (h hG hs H locs ls hP hS hl)
theorem TL_bipush {X : mCx} {b L : Nat} {sc : Nat → Int32} {pc : Nat} {lv : List (Nat × Value)} {st : List Value} {μ : mMem} {n : Int} (z : Int32) (hv : (Int8.ofInt n).toInt32 = z) (hd : decode code pc = .ok (.bipush n, 2)) (h : TL X b L sc (pc + 2) lv (.int z :: st) μ) : TL X b L sc pc lv (st) μ := fun hG hs H locs ls hP hS hl => lv_bipush hG.1 hG.2.1 hd hv (h hG hs H locs ls hP hS hl)
theorem TL_iadd {X : mCx} {b L : Nat} {sc : Nat → Int32} {pc : Nat} {lv : List (Nat × Value)} {st : List Value} {μ : mMem} {x y : Int32} (hd : decode code pc = .ok (.iadd, 1)) (h : TL X b L sc (pc + 1) lv (.int (x + y) :: st) μ) : TL X b L sc pc lv (.int y :: .int x :: st) μ := fun hG hs H locs ls hP hS hl => lv_iadd hG.1 hG.2.1 hd (h hG hs H locs ls hP hS hl)
theorem TL_isub {X : mCx} {b L : Nat} {sc : Nat → Int32} {pc : Nat} {lv : List (Nat × Value)} {st : List Value} {μ : mMem} {x y : Int32} (hd : decode code pc = .ok (.isub, 1)) (h : TL X b L sc (pc + 1) lv (.int (x - y) :: st) μ) : TL X b L sc pc lv (.int y :: .int x :: st) μ := fun hG hs H locs ls hP hS hl => lv_isub hG.1 hG.2.1 hd (h hG hs H locs ls hP hS hl)
theorem TL_iand {X : mCx} {b L : Nat} {sc : Nat → Int32} {pc : Nat} {lv : List (Nat × Value)} {st : List Value} {μ : mMem} {x y : Int32} (hd : decode code pc = .ok (.iand, 1)) (h : TL X b L sc (pc + 1) lv (.int (x &&& y) :: st) μ) : TL X b L sc pc lv (.int y :: .int x :: st) μ := fun hG hs H locs ls hP hS hl => lv_iand hG.1 hG.2.1 hd (h hG hs H locs ls hP hS hl)
theorem TL_lcmp {X : mCx} {b L : Nat} {sc : Nat → Int32} {pc : Nat} {lv : List (Nat × Value)} {st : List Value} {μ : mMem} {x y : Int64} (hd : decode code pc = .ok (.lcmp, 1)) (h : TL X b L sc (pc + 1) lv (.int (lg_cmp x y) :: st) μ) : TL X b L sc pc lv (.long y :: .long x :: st) μ := fun hG hs H locs ls hP hS hl => W.lcmp hG.1 hG.2.1 hd (h hG hs H locs ls hP hS hl)
theorem TL_slen {X : mCx} {b L : Nat} {sc : Nat → Int32} {pc : Nat} {lv : List (Nat × Value)} {st : List Value} {μ : mMem} (hd : decode code pc = .ok (.arraylength, 1)) (h : TL X b L sc (pc + 1) lv (.int (Int32.ofNat L) :: st) μ) : TL X b L sc pc lv (.ref 118 :: st) μ := fun hG hs H locs ls hP hS hl => by
  show W _ _ _ _ _ _ _ _ _ _ _ _ _ _ _ (F0 (xm X) pc ls (.ref (xad X 118) :: st.map (cz (xad X))))
  rw [hs.2.2.2]
  exact va_slen hG.1 hG.2.1 hs.1 hs.2.1 hs.2.2.1 hS hd (h hG hs H locs ls hP hS hl)
theorem TL_sld {X : mCx} {b L : Nat} {sc : Nat → Int32} {pc : Nat} {lv : List (Nat × Value)} {st : List Value} {μ : mMem} {i : Int32} (hi : vp_in i L) (hd : decode code pc = .ok (.iaload, 1)) (h : TL X b L sc (pc + 1) lv (.int (sc i.toNatClampNeg) :: st) μ) : TL X b L sc pc lv (.int i :: .ref 118 :: st) μ := fun hG hs H locs ls hP hS hl => by
  show W _ _ _ _ _ _ _ _ _ _ _ _ _ _ _ (F0 (xm X) pc ls (.int i :: .ref (xad X 118) :: st.map (cz (xad X))))
  rw [hs.2.2.2]
  exact va_sld hG.1 hG.2.1 hs.1 hs.2.1 hs.2.2.1 hS hi hd (h hG hs H locs ls hP hS hl)
theorem TL_goto {X : mCx} {b L : Nat} {sc : Nat → Int32} {pc : Nat} {lv : List (Nat × Value)} {st : List Value} {μ : mMem} {off : Int} (t : Nat) (hd : decode code pc = .ok (.goto off, 3)) (htg : (pc : Int) + off = (t : Int)) (h : TL X b L sc t lv st μ) : TL X b L sc pc lv st μ := fun hG hs H locs ls hP hS hl => lv_goto (tgt := t) hG.1 hG.2.1 hd htg (h hG hs H locs ls hP hS hl)
theorem TL_gt {X : mCx} {b L : Nat} {sc : Nat → Int32} {pc : Nat} {lv : List (Nat × Value)} {st : List Value} {μ : mMem} {x y : Int32} {off : Int} (t : Nat) (hd : decode code pc = .ok (.if_icmp .gt off, 3)) (htg : (pc : Int) + off = (t : Int)) (h1 : y < x → TL X b L sc t lv st μ) (h2 : ¬ y < x → TL X b L sc (pc + 3) lv st μ) : TL X b L sc pc lv (.int y :: .int x :: st) μ := fun hG hs H locs ls hP hS hl => lv_icmp_gt (tgt := t) hG.1 hG.2.1 hd htg (fun hc => h1 hc hG hs H locs ls hP hS hl) (fun hc => h2 hc hG hs H locs ls hP hS hl)
theorem TL_eq {X : mCx} {b L : Nat} {sc : Nat → Int32} {pc : Nat} {lv : List (Nat × Value)} {st : List Value} {μ : mMem} {x : Int32} {off : Int} (t : Nat) (hd : decode code pc = .ok (.if_icmp .eq off, 3)) (htg : (pc : Int) + off = (t : Int)) (h : TL X b L sc t lv st μ) : TL X b L sc pc lv (.int x :: .int x :: st) μ := fun hG hs H locs ls hP hS hl => lv_icmp_eq (tgt := t) hG.1 hG.2.1 hd htg (fun _ => (h hG hs H locs ls hP hS hl)) (fun hc => absurd rfl hc)
theorem TL_eq0 {X : mCx} {b L : Nat} {sc : Nat → Int32} {pc : Nat} {lv : List (Nat × Value)} {st : List Value} {μ : mMem} {x : Int64} {off : Int} (t : Nat) (hd : decode code pc = .ok (.ifCond .eq off, 3)) (htg : (pc : Int) + off = (t : Int)) (h : TL X b L sc t lv st μ) : TL X b L sc pc lv (.int (lg_cmp x x) :: st) μ := fun hG hs H locs ls hP hS hl => lv_if_eq (tgt := t) hG.1 hG.2.1 hd htg (fun _ => (h hG hs H locs ls hP hS hl)) (fun hc => absurd (by unfold lg_cmp; simp) hc)
theorem TL_iinc {X : mCx} {b L : Nat} {sc : Nat → Int32} {pc : Nat} {lv : List (Nat × Value)} {st : List Value} {μ : mMem} {lv' : List (Nat × Value)} {i : Nat} {n : Int} {x : Int32} (k : Nat) (z : Int32) (hk : lv[k]? = some (i, .int x)) (hz : Int32.ofInt n = z) (hn : i < 4) (hv : (i, Value.int (x + z)) :: lv.filter (fun q => !(q.1 == i) && !(q.1 + 1 == i && q.2.category == 2)) = lv') (hd : decode code pc = .ok (.iinc i n, 3)) (h : TL X b L sc (pc + 3) lv' st μ) : TL X b L sc pc lv st μ :=
  fun hG hs H locs ls hP hS hl => lv_iinc (v := x + z) hG.1 hG.2.1 hd hl (lv_gm hk) (by rw [hz]) hn (by
    show (i, cz (xad X) (Value.int (x + z))) :: _ = _
    rw [lv_fm (xad X) (fun a c => !(a == i) && !(a + 1 == i && c == 2)) lv, ← hv]; rfl) (fun ls' hl' => h hG hs H locs ls' hP hS hl')
theorem TL_sub {X : mCx} {b L : Nat} {sc : Nat → Int32} {pc : Nat} {lv : List (Nat × Value)} {st : List Value} {μ : mMem} {lv' : List (Nat × Value)} (ks : List Nat) (hl : lv_pick lv ks = lv') (h : TL X b L sc pc lv' st μ) : TL X b L sc pc lv st μ :=
  fun hG hs H locs ls hP hS hlv => h hG hs H locs ls hP hS (lv_sub hlv ks (by rw [lv_pm, hl]))
theorem TL_tsIn {X : mCx} {b L : Nat} {sc : Nat → Int32} {pc : Nat} {lv : List (Nat × Value)} {st : List Value} {μ : mMem} {x : Int32} {dflt lo hi : Int} {offs : Array Int} {len : Nat} {off : Int} (z : Int32) (t : Nat) (hx : x = z) (hd : decode code pc = .ok (.tableswitch dflt lo hi offs, len)) (h1 : ¬ z.toInt < lo) (h2 : ¬ hi < z.toInt) (ho : offs[(z.toInt - lo).toNat]? = some off) (htg : (pc : Int) + off = (t : Int)) (h : TL X b L sc t lv st μ) : TL X b L sc pc lv (.int x :: st) μ := by
  subst hx
  exact fun hG hs H locs ls hP hS hl => lv_tableIn hG.1 hG.2.1 hd h1 h2 ho htg (h hG hs H locs ls hP hS hl)
theorem TL_tsOut {X : mCx} {b L : Nat} {sc : Nat → Int32} {pc : Nat} {lv : List (Nat × Value)} {st : List Value} {μ : mMem} {x : Int32} {dflt lo hi : Int} {offs : Array Int} {len : Nat} (t : Nat) (hx : x.toInt < lo ∨ hi < x.toInt) (hd : decode code pc = .ok (.tableswitch dflt lo hi offs, len)) (htg : (pc : Int) + dflt = (t : Int)) (h : TL X b L sc t lv st μ) : TL X b L sc pc lv (.int x :: st) μ := fun hG hs H locs ls hP hS hl => lv_tableOut hG.1 hG.2.1 hd hx htg (h hG hs H locs ls hP hS hl)
theorem callB_L {q2 : mMI} {X : mCx} {n index : Nat} (hG : Good qL X) (hm : mok q2 n) (hl : Cond.methodLink RL index q2.1 ∈ gdL) (hdp : q2.2.2.2.2 ≤ 100) : CallB room_1 (xs X) (xa X) RL index q2.1 q2.2.1 q2.2.2.1 q2.2.2.2.1 (wsM q2) (rmOf q2.2.2.2.2) 0 0 n :=
  callB_of n hG.2.2.2.2.2.2.1 (gdM hm.2.2) rfl rfl rfl (hG.2.2.2.2.2.2.1 _ hm.2.1) (hG.2.2.2.2.2.2.1 _ hl) hm.1.1 ⟨by show q2.2.2.2.2 + 1 ≤ 2048; omega, by
    have := hm.1.2
    show 8 + (q2.2.2.1 + 11) + 100 * q2.2.2.2.2 ≤ 84000
    omega⟩
theorem callbL {p : Program} {l : Launch} {e : Env} {R : Room} {s : State} {m : MethodId} {args : Array Value} {below : List Frame} {meth : Method} {c : Code} {H : Heap} {locs : List Loc} {Q : State → Prop} {pc cells slots : Nat} {ls : Array Slot} {st0 rest : List Value} {ad : Nat → Nat} {cA : Nat → ClassId} {D : va_G} {A0 A1 : Nat → Prop} {free : Addr → Prop} {H0 : Heap} {v0 : Option Value} {μ2 : mMem} {aa : Array Value}
    (hr : va_Run p l e R s m args below meth c H locs cells slots 0 0 (F0 m pc ls st0) rest (Qb ad cA D A1 v0 μ2 aa) free) (hS : va_S A0 H0 H locs) (hA : ∀ q, q < H.size → A1 q → A0 q) (hf : ∀ q, free q → A0 q)
    (kk : ∀ (H1 : Heap) (locs1 : List Loc), va_P D vwCl (wsOf ad cA μ2) H1 → va_S A0 H0 H1 locs1 → W p l e R s m args below meth c H1 locs1 cells slots Q (F0 m (pc + 3) ls ((v0.map (cz ad)).toList ++ rest))) : W p l e R s m args below meth c H locs cells slots Q (F0 m pc ls st0) := by
  intro T hT X
  obtain ⟨v, st₀, t, T', L, h0, X', hL, e1, e2, ⟨hv, hPt, hz, hk⟩, st⟩ := hr T hT X
  have hv' : v = v0.map (cz ad) := by injection hv
  subst hv'
  rw [h0] at hz hk
  obtain ⟨t2, a1, b1⟩ := kk T'.heap (locs ++ L) (by rw [e1]; exact hPt)
    ⟨Nat.le_trans hS.1 (by rw [e1]; exact hz), fun q h1 h2 => by rw [e1, hk q (Nat.lt_of_lt_of_le h1 hS.1) (fun z => h2 (hA q (Nat.lt_of_lt_of_le h1 hS.1) z))]; exact hS.2.1 q h1 h2, fun q hq => by
      rcases List.mem_append.mp hq with h | h
      · exact hS.2.2 q h
      · exact hf _ (hL q h)⟩ T' rfl X'
  exact ⟨t2, st t2 a1, b1⟩
theorem TL_call {q2 : mMI} {X : mCx} {b L : Nat} {sc : Nat → Int32} {pc : Nat} {lv : List (Nat × Value)} {μ μ2 : mMem} {v2 : Option Value} {z c n index N : Nat} {TT : u_T} (As rest : List Value) (hm : mokV q2 n) (hlk : Cond.methodLink RL index q2.1 ∈ gdL) (hb : kd z = (c, 0)) (hc : vwCl[c]? = some (q2.1.cls, TT, N)) (hn : As.length = n) (hdp : q2.2.2.2.2 ≤ 100) (hcat : (rest.map fun v => v.category).sum ≤ 8) (hd : decode code pc = .ok (.invokevirtual index, 3)) (hB : BS (xl X) q2 (.ref z :: As) μ (some (v2, μ2))) (h : TL X b L sc (pc + 3) lv (v2.toList ++ rest) μ2) : TL X b L sc pc lv (As.reverse ++ .ref z :: rest) μ := fun hG hs H locs ls hP hS hl => by
  have hb0 := kd_lt hb (by have := vw_lt hc; omega)
  have hM := hB v2 μ2 rfl (xD X) (xad X) (xcA X) H.size
  have hrv := va_recv hG.2.2.2.2.2.2.2.1 hP hc (q0 := z) (a := xad X z) (fs := fsOf (xad X) c z (μ.1 z)) (by rw [ws_at hb0, cell_obj hb (vw_lt hc)])
  have hr := va_runV (own := RL) (As := As.map (cz (xad X))) (rest := rest.map (cz (xad X))) (g := F0 (xm X) pc ls ((As.reverse ++ .ref z :: rest).map (cz (xad X)))) (locs := locs) (cells := nC) (slots := nS) (below := xb X) (e := xe X) (meth := xM X) (H := H) ⟨hG.1, hG.2.1, hG.2.2.1, hG.2.2.2.2.2.1, hG.2.2.2.2.2.2.1⟩ hM ⟨callB_L hG hm.1 hlk hdp, hG.2.2.2.2.2.2.1 _ hm.2.1, hG.2.2.2.2.2.2.1 _ hm.2.2⟩ ⟨blind, hrv, fun U hU hW => ⟨rfl, preH hG hP hS hU hW⟩⟩ rfl (by rw [List.length_map]; exact hn) hl.1 (by simp [cz]) (lv_room (by rw [cz_sum]; exact hcat)) hd ⟨by decide, by decide⟩
  refine callbL hr hS (fun z _ hz => AA_in hG hS z hz) (AA_in hG hS) (fun H1 locs1 hP1 hS1 => ?_)
  have := h hG hs H1 locs1 ls hP1 hS1 hl
  rw [List.map_append] at this
  cases v2 <;> exact this
/-- the law's end -/
theorem TL_ret {X : mCx} {b L : Nat} {sc : Nat → Int32} {pc : Nat} {lv : List (Nat × Value)} {μ : mMem} (hargs : xa X = #[Value.ref b]) (hA : ∀ z, xA X z → (xs X).heap.size ≤ z) (hd : decode code pc = .ok (.ireturn, 1)) : TL X b L sc pc lv [.int 1] μ := fun hG hs H locs ls hP hS hl => by
  refine W.widen (k := 600000) (n := 7302250) (by decide) (by decide) ?_
  rw [hargs]
  refine va_forget (fun q hq => hA _ (hS.2.2 q hq)) ?_
  sorry
def okI (Inv : mMem → Prop) (fx fm : mMem → mR) : Prop := ∀ μ, Inv μ → ∃ r μ1 μ2, fx μ = some (some (.int r), μ1) ∧ fm μ1 = some (some (.int r), μ2) ∧ Inv μ2
def okL (Inv : mMem → Prop) (fx fm : mMem → mR) : Prop := ∀ μ, Inv μ → ∃ r μ1 μ2, fx μ = some (some (.long r), μ1) ∧ fm μ1 = some (some (.long r), μ2) ∧ Inv μ2
end
