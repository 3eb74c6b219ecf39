abbrev qX0_lowest : mMI := (yX0_lowest, cX0_lowest, 10, (some .long), 0)
theorem dX0_lowest_0 : decode cX0_lowest 0 = .ok (.ldc2_w 33, 3) := by decide +kernel
theorem dX0_lowest_3 : decode cX0_lowest 3 = .ok (.lstore_n 3, 1) := by decide +kernel
theorem dX0_lowest_4 : decode cX0_lowest 4 = .ok (.lload_n 0, 1) := by decide +kernel
theorem dX0_lowest_5 : decode cX0_lowest 5 = .ok (.lstore 5, 2) := by decide +kernel
theorem dX0_lowest_7 : decode cX0_lowest 7 = .ok (.iconst 0, 1) := by decide +kernel
theorem dX0_lowest_8 : decode cX0_lowest 8 = .ok (.istore 7, 2) := by decide +kernel
theorem dX0_lowest_10 : decode cX0_lowest 10 = .ok (.iload 7, 2) := by decide +kernel
theorem dX0_lowest_12 : decode cX0_lowest 12 = .ok (.bipush 100, 2) := by decide +kernel
theorem dX0_lowest_14 : decode cX0_lowest 14 = .ok (.if_icmp .ge 29, 3) := by decide +kernel
theorem dX0_lowest_17 : decode cX0_lowest 17 = .ok (.lload 5, 2) := by decide +kernel
theorem dX0_lowest_19 : decode cX0_lowest 19 = .ok (.lconst 0, 1) := by decide +kernel
theorem dX0_lowest_20 : decode cX0_lowest 20 = .ok (.lcmp, 1) := by decide +kernel
theorem dX0_lowest_21 : decode cX0_lowest 21 = .ok (.ifCond .eq 22, 3) := by decide +kernel
theorem dX0_lowest_24 : decode cX0_lowest 24 = .ok (.lload_n 3, 1) := by decide +kernel
theorem dX0_lowest_25 : decode cX0_lowest 25 = .ok (.lload 5, 2) := by decide +kernel
theorem dX0_lowest_27 : decode cX0_lowest 27 = .ok (.lrem, 1) := by decide +kernel
theorem dX0_lowest_28 : decode cX0_lowest 28 = .ok (.lstore 8, 2) := by decide +kernel
theorem dX0_lowest_30 : decode cX0_lowest 30 = .ok (.lload 5, 2) := by decide +kernel
theorem dX0_lowest_32 : decode cX0_lowest 32 = .ok (.lstore_n 3, 1) := by decide +kernel
theorem dX0_lowest_33 : decode cX0_lowest 33 = .ok (.lload 8, 2) := by decide +kernel
theorem dX0_lowest_35 : decode cX0_lowest 35 = .ok (.lstore 5, 2) := by decide +kernel
theorem dX0_lowest_37 : decode cX0_lowest 37 = .ok (.iinc 7 1, 3) := by decide +kernel
theorem dX0_lowest_40 : decode cX0_lowest 40 = .ok (.goto (-30), 3) := by decide +kernel
theorem dX0_lowest_43 : decode cX0_lowest 43 = .ok (.lload_n 3, 1) := by decide +kernel
theorem dX0_lowest_44 : decode cX0_lowest 44 = .ok (.lconst 0, 1) := by decide +kernel
theorem dX0_lowest_45 : decode cX0_lowest 45 = .ok (.lcmp, 1) := by decide +kernel
theorem dX0_lowest_46 : decode cX0_lowest 46 = .ok (.ifCond .ne 5, 3) := by decide +kernel
theorem dX0_lowest_49 : decode cX0_lowest 49 = .ok (.lconst 0, 1) := by decide +kernel
theorem dX0_lowest_50 : decode cX0_lowest 50 = .ok (.lreturn, 1) := by decide +kernel
theorem dX0_lowest_51 : decode cX0_lowest 51 = .ok (.iload_n 2, 1) := by decide +kernel
theorem dX0_lowest_52 : decode cX0_lowest 52 = .ok (.ifCond .ne 7, 3) := by decide +kernel
theorem dX0_lowest_55 : decode cX0_lowest 55 = .ok (.lload_n 0, 1) := by decide +kernel
theorem dX0_lowest_56 : decode cX0_lowest 56 = .ok (.goto 6, 3) := by decide +kernel
theorem dX0_lowest_59 : decode cX0_lowest 59 = .ok (.ldc2_w 33, 3) := by decide +kernel
theorem dX0_lowest_62 : decode cX0_lowest 62 = .ok (.lload_n 3, 1) := by decide +kernel
theorem dX0_lowest_63 : decode cX0_lowest 63 = .ok (.ldiv, 1) := by decide +kernel
theorem dX0_lowest_64 : decode cX0_lowest 64 = .ok (.lreturn, 1) := by decide +kernel
theorem mkX0_lowest : mokS qX0_lowest 2 := ⟨⟨⟨⟨by decide, by decide, by decide +kernel⟩, by decide⟩, gd_mem 56 (by decide +kernel) (by decide +kernel), gd_mem 757 (by decide +kernel) (by decide +kernel)⟩, gd_mem 756 (by decide +kernel) (by decide +kernel)⟩
abbrev qX0_passStep : mMI := (yX0_passStep, cX0_passStep, 7, none, 1)
theorem dX0_passStep_0 : decode cX0_passStep 0 = .ok (.aload_n 0, 1) := by decide +kernel
theorem dX0_passStep_1 : decode cX0_passStep 1 = .ok (.getfield 15, 3) := by decide +kernel
theorem dX0_passStep_4 : decode cX0_passStep 4 = .ok (.lconst 0, 1) := by decide +kernel
theorem dX0_passStep_5 : decode cX0_passStep 5 = .ok (.invokestatic 27, 3) := by decide +kernel
theorem dX0_passStep_8 : decode cX0_passStep 8 = .ok (.iconst 0, 1) := by decide +kernel
theorem dX0_passStep_9 : decode cX0_passStep 9 = .ok (.istore_n 3, 1) := by decide +kernel
theorem dX0_passStep_10 : decode cX0_passStep 10 = .ok (.iload_n 3, 1) := by decide +kernel
theorem dX0_passStep_11 : decode cX0_passStep 11 = .ok (.bipush 16, 2) := by decide +kernel
theorem dX0_passStep_13 : decode cX0_passStep 13 = .ok (.if_icmp .ge 90, 3) := by decide +kernel
theorem dX0_passStep_16 : decode cX0_passStep 16 = .ok (.iload_n 3, 1) := by decide +kernel
theorem dX0_passStep_17 : decode cX0_passStep 17 = .ok (.iconst 1, 1) := by decide +kernel
theorem dX0_passStep_18 : decode cX0_passStep 18 = .ok (.ishl, 1) := by decide +kernel
theorem dX0_passStep_19 : decode cX0_passStep 19 = .ok (.bipush 15, 2) := by decide +kernel
theorem dX0_passStep_21 : decode cX0_passStep 21 = .ok (.iand, 1) := by decide +kernel
theorem dX0_passStep_22 : decode cX0_passStep 22 = .ok (.istore 4, 2) := by decide +kernel
theorem dX0_passStep_24 : decode cX0_passStep 24 = .ok (.iload_n 3, 1) := by decide +kernel
theorem dX0_passStep_25 : decode cX0_passStep 25 = .ok (.iload_n 1, 1) := by decide +kernel
theorem dX0_passStep_26 : decode cX0_passStep 26 = .ok (.iand, 1) := by decide +kernel
theorem dX0_passStep_27 : decode cX0_passStep 27 = .ok (.ifCond .ne 22, 3) := by decide +kernel
theorem dX0_passStep_30 : decode cX0_passStep 30 = .ok (.aload_n 0, 1) := by decide +kernel
theorem dX0_passStep_31 : decode cX0_passStep 31 = .ok (.getfield 15, 3) := by decide +kernel
theorem dX0_passStep_34 : decode cX0_passStep 34 = .ok (.iload 4, 2) := by decide +kernel
theorem dX0_passStep_36 : decode cX0_passStep 36 = .ok (.dup2, 1) := by decide +kernel
theorem dX0_passStep_37 : decode cX0_passStep 37 = .ok (.laload, 1) := by decide +kernel
theorem dX0_passStep_38 : decode cX0_passStep 38 = .ok (.aload_n 0, 1) := by decide +kernel
theorem dX0_passStep_39 : decode cX0_passStep 39 = .ok (.getfield 11, 3) := by decide +kernel
theorem dX0_passStep_42 : decode cX0_passStep 42 = .ok (.iload_n 3, 1) := by decide +kernel
theorem dX0_passStep_43 : decode cX0_passStep 43 = .ok (.laload, 1) := by decide +kernel
theorem dX0_passStep_44 : decode cX0_passStep 44 = .ok (.ladd, 1) := by decide +kernel
theorem dX0_passStep_45 : decode cX0_passStep 45 = .ok (.lastore, 1) := by decide +kernel
theorem dX0_passStep_46 : decode cX0_passStep 46 = .ok (.goto 51, 3) := by decide +kernel
theorem dX0_passStep_49 : decode cX0_passStep 49 = .ok (.aload_n 0, 1) := by decide +kernel
theorem dX0_passStep_50 : decode cX0_passStep 50 = .ok (.getfield 11, 3) := by decide +kernel
theorem dX0_passStep_53 : decode cX0_passStep 53 = .ok (.iload_n 3, 1) := by decide +kernel
theorem dX0_passStep_54 : decode cX0_passStep 54 = .ok (.laload, 1) := by decide +kernel
theorem dX0_passStep_55 : decode cX0_passStep 55 = .ok (.ldc2_w 46, 3) := by decide +kernel
theorem dX0_passStep_58 : decode cX0_passStep 58 = .ok (.ldiv, 1) := by decide +kernel
theorem dX0_passStep_59 : decode cX0_passStep 59 = .ok (.iload_n 2, 1) := by decide +kernel
theorem dX0_passStep_60 : decode cX0_passStep 60 = .ok (.i2l, 1) := by decide +kernel
theorem dX0_passStep_61 : decode cX0_passStep 61 = .ok (.lmul, 1) := by decide +kernel
theorem dX0_passStep_62 : decode cX0_passStep 62 = .ok (.lstore 5, 2) := by decide +kernel
theorem dX0_passStep_64 : decode cX0_passStep 64 = .ok (.aload_n 0, 1) := by decide +kernel
theorem dX0_passStep_65 : decode cX0_passStep 65 = .ok (.getfield 15, 3) := by decide +kernel
theorem dX0_passStep_68 : decode cX0_passStep 68 = .ok (.iload 4, 2) := by decide +kernel
theorem dX0_passStep_70 : decode cX0_passStep 70 = .ok (.dup2, 1) := by decide +kernel
theorem dX0_passStep_71 : decode cX0_passStep 71 = .ok (.laload, 1) := by decide +kernel
theorem dX0_passStep_72 : decode cX0_passStep 72 = .ok (.lload 5, 2) := by decide +kernel
theorem dX0_passStep_74 : decode cX0_passStep 74 = .ok (.ladd, 1) := by decide +kernel
theorem dX0_passStep_75 : decode cX0_passStep 75 = .ok (.lastore, 1) := by decide +kernel
theorem dX0_passStep_76 : decode cX0_passStep 76 = .ok (.aload_n 0, 1) := by decide +kernel
theorem dX0_passStep_77 : decode cX0_passStep 77 = .ok (.getfield 15, 3) := by decide +kernel
theorem dX0_passStep_80 : decode cX0_passStep 80 = .ok (.iload 4, 2) := by decide +kernel
theorem dX0_passStep_82 : decode cX0_passStep 82 = .ok (.iconst 1, 1) := by decide +kernel
theorem dX0_passStep_83 : decode cX0_passStep 83 = .ok (.ior, 1) := by decide +kernel
theorem dX0_passStep_84 : decode cX0_passStep 84 = .ok (.dup2, 1) := by decide +kernel
theorem dX0_passStep_85 : decode cX0_passStep 85 = .ok (.laload, 1) := by decide +kernel
theorem dX0_passStep_86 : decode cX0_passStep 86 = .ok (.aload_n 0, 1) := by decide +kernel
theorem dX0_passStep_87 : decode cX0_passStep 87 = .ok (.getfield 11, 3) := by decide +kernel
theorem dX0_passStep_90 : decode cX0_passStep 90 = .ok (.iload_n 3, 1) := by decide +kernel
theorem dX0_passStep_91 : decode cX0_passStep 91 = .ok (.laload, 1) := by decide +kernel
theorem dX0_passStep_92 : decode cX0_passStep 92 = .ok (.lload 5, 2) := by decide +kernel
theorem dX0_passStep_94 : decode cX0_passStep 94 = .ok (.lsub, 1) := by decide +kernel
theorem dX0_passStep_95 : decode cX0_passStep 95 = .ok (.ladd, 1) := by decide +kernel
theorem dX0_passStep_96 : decode cX0_passStep 96 = .ok (.lastore, 1) := by decide +kernel
theorem dX0_passStep_97 : decode cX0_passStep 97 = .ok (.iinc 3 1, 3) := by decide +kernel
theorem dX0_passStep_100 : decode cX0_passStep 100 = .ok (.goto (-90), 3) := by decide +kernel
theorem dX0_passStep_103 : decode cX0_passStep 103 = .ok (.aload_n 0, 1) := by decide +kernel
theorem dX0_passStep_104 : decode cX0_passStep 104 = .ok (.getfield 15, 3) := by decide +kernel
theorem dX0_passStep_107 : decode cX0_passStep 107 = .ok (.iconst 0, 1) := by decide +kernel
theorem dX0_passStep_108 : decode cX0_passStep 108 = .ok (.aload_n 0, 1) := by decide +kernel
theorem dX0_passStep_109 : decode cX0_passStep 109 = .ok (.getfield 11, 3) := by decide +kernel
theorem dX0_passStep_112 : decode cX0_passStep 112 = .ok (.iconst 0, 1) := by decide +kernel
theorem dX0_passStep_113 : decode cX0_passStep 113 = .ok (.bipush 16, 2) := by decide +kernel
theorem dX0_passStep_115 : decode cX0_passStep 115 = .ok (.invokestatic 48, 3) := by decide +kernel
theorem dX0_passStep_118 : decode cX0_passStep 118 = .ok (.return_, 1) := by decide +kernel
theorem mkX0_passStep : mokV qX0_passStep 2 := ⟨⟨⟨⟨by decide, by decide, by decide +kernel⟩, by decide⟩, gd_mem 56 (by decide +kernel) (by decide +kernel), gd_mem 752 (by decide +kernel) (by decide +kernel)⟩, gd_mem 751 (by decide +kernel) (by decide +kernel), gd_mem 14 (by decide +kernel) (by decide +kernel)⟩
abbrev qX0_ofHome : mMI := (yX0_ofHome, cX0_ofHome, 9, (some .long), 4)
theorem dX0_ofHome_0 : decode cX0_ofHome 0 = .ok (.aload_n 1, 1) := by decide +kernel
theorem dX0_ofHome_1 : decode cX0_ofHome 1 = .ok (.iload_n 2, 1) := by decide +kernel
theorem dX0_ofHome_2 : decode cX0_ofHome 2 = .ok (.invokevirtual 18, 3) := by decide +kernel
theorem dX0_ofHome_5 : decode cX0_ofHome 5 = .ok (.istore 4, 2) := by decide +kernel
theorem dX0_ofHome_7 : decode cX0_ofHome 7 = .ok (.iconst 1, 1) := by decide +kernel
theorem dX0_ofHome_8 : decode cX0_ofHome 8 = .ok (.aload_n 1, 1) := by decide +kernel
theorem dX0_ofHome_9 : decode cX0_ofHome 9 = .ok (.iload_n 2, 1) := by decide +kernel
theorem dX0_ofHome_10 : decode cX0_ofHome 10 = .ok (.invokevirtual 24, 3) := by decide +kernel
theorem dX0_ofHome_13 : decode cX0_ofHome 13 = .ok (.ishl, 1) := by decide +kernel
theorem dX0_ofHome_14 : decode cX0_ofHome 14 = .ok (.iconst 1, 1) := by decide +kernel
theorem dX0_ofHome_15 : decode cX0_ofHome 15 = .ok (.isub, 1) := by decide +kernel
theorem dX0_ofHome_16 : decode cX0_ofHome 16 = .ok (.istore 5, 2) := by decide +kernel
theorem dX0_ofHome_18 : decode cX0_ofHome 18 = .ok (.aload_n 0, 1) := by decide +kernel
theorem dX0_ofHome_19 : decode cX0_ofHome 19 = .ok (.getfield 11, 3) := by decide +kernel
theorem dX0_ofHome_22 : decode cX0_ofHome 22 = .ok (.lconst 0, 1) := by decide +kernel
theorem dX0_ofHome_23 : decode cX0_ofHome 23 = .ok (.invokestatic 27, 3) := by decide +kernel
theorem dX0_ofHome_26 : decode cX0_ofHome 26 = .ok (.aload_n 0, 1) := by decide +kernel
theorem dX0_ofHome_27 : decode cX0_ofHome 27 = .ok (.getfield 11, 3) := by decide +kernel
theorem dX0_ofHome_30 : decode cX0_ofHome 30 = .ok (.iconst 1, 1) := by decide +kernel
theorem dX0_ofHome_31 : decode cX0_ofHome 31 = .ok (.ldc2_w 33, 3) := by decide +kernel
theorem dX0_ofHome_34 : decode cX0_ofHome 34 = .ok (.lastore, 1) := by decide +kernel
theorem dX0_ofHome_35 : decode cX0_ofHome 35 = .ok (.iconst 0, 1) := by decide +kernel
theorem dX0_ofHome_36 : decode cX0_ofHome 36 = .ok (.istore 6, 2) := by decide +kernel
theorem dX0_ofHome_38 : decode cX0_ofHome 38 = .ok (.iload 6, 2) := by decide +kernel
theorem dX0_ofHome_40 : decode cX0_ofHome 40 = .ok (.aload_n 1, 1) := by decide +kernel
theorem dX0_ofHome_41 : decode cX0_ofHome 41 = .ok (.getfield 35, 3) := by decide +kernel
theorem dX0_ofHome_44 : decode cX0_ofHome 44 = .ok (.iload_n 2, 1) := by decide +kernel
theorem dX0_ofHome_45 : decode cX0_ofHome 45 = .ok (.iaload, 1) := by decide +kernel
theorem dX0_ofHome_46 : decode cX0_ofHome 46 = .ok (.if_icmp .gt 49, 3) := by decide +kernel
theorem dX0_ofHome_49 : decode cX0_ofHome 49 = .ok (.aload_n 1, 1) := by decide +kernel
theorem dX0_ofHome_50 : decode cX0_ofHome 50 = .ok (.getfield 39, 3) := by decide +kernel
theorem dX0_ofHome_53 : decode cX0_ofHome 53 = .ok (.iload 6, 2) := by decide +kernel
theorem dX0_ofHome_55 : decode cX0_ofHome 55 = .ok (.iaload, 1) := by decide +kernel
theorem dX0_ofHome_56 : decode cX0_ofHome 56 = .ok (.iconst 3, 1) := by decide +kernel
theorem dX0_ofHome_57 : decode cX0_ofHome 57 = .ok (.if_icmp .ne 7, 3) := by decide +kernel
theorem dX0_ofHome_60 : decode cX0_ofHome 60 = .ok (.iconst 0, 1) := by decide +kernel
theorem dX0_ofHome_61 : decode cX0_ofHome 61 = .ok (.goto 4, 3) := by decide +kernel
theorem dX0_ofHome_64 : decode cX0_ofHome 64 = .ok (.iload_n 3, 1) := by decide +kernel
theorem dX0_ofHome_65 : decode cX0_ofHome 65 = .ok (.istore 7, 2) := by decide +kernel
theorem dX0_ofHome_67 : decode cX0_ofHome 67 = .ok (.aload_n 0, 1) := by decide +kernel
theorem dX0_ofHome_68 : decode cX0_ofHome 68 = .ok (.iload 4, 2) := by decide +kernel
theorem dX0_ofHome_70 : decode cX0_ofHome 70 = .ok (.iload 6, 2) := by decide +kernel
theorem dX0_ofHome_72 : decode cX0_ofHome 72 = .ok (.ishr, 1) := by decide +kernel
theorem dX0_ofHome_73 : decode cX0_ofHome 73 = .ok (.iconst 1, 1) := by decide +kernel
theorem dX0_ofHome_74 : decode cX0_ofHome 74 = .ok (.iand, 1) := by decide +kernel
theorem dX0_ofHome_75 : decode cX0_ofHome 75 = .ok (.ifCond .eq 8, 3) := by decide +kernel
theorem dX0_ofHome_78 : decode cX0_ofHome 78 = .ok (.iload 5, 2) := by decide +kernel
theorem dX0_ofHome_80 : decode cX0_ofHome 80 = .ok (.goto 4, 3) := by decide +kernel
theorem dX0_ofHome_83 : decode cX0_ofHome 83 = .ok (.iconst 0, 1) := by decide +kernel
theorem dX0_ofHome_84 : decode cX0_ofHome 84 = .ok (.iload 7, 2) := by decide +kernel
theorem dX0_ofHome_86 : decode cX0_ofHome 86 = .ok (.invokevirtual 42, 3) := by decide +kernel
theorem dX0_ofHome_89 : decode cX0_ofHome 89 = .ok (.iinc 6 1, 3) := by decide +kernel
theorem dX0_ofHome_92 : decode cX0_ofHome 92 = .ok (.goto (-54), 3) := by decide +kernel
theorem dX0_ofHome_95 : decode cX0_ofHome 95 = .ok (.lconst 0, 1) := by decide +kernel
theorem dX0_ofHome_96 : decode cX0_ofHome 96 = .ok (.lstore 6, 2) := by decide +kernel
theorem dX0_ofHome_98 : decode cX0_ofHome 98 = .ok (.iconst 1, 1) := by decide +kernel
theorem dX0_ofHome_99 : decode cX0_ofHome 99 = .ok (.istore 8, 2) := by decide +kernel
theorem dX0_ofHome_101 : decode cX0_ofHome 101 = .ok (.iload 8, 2) := by decide +kernel
theorem dX0_ofHome_103 : decode cX0_ofHome 103 = .ok (.bipush 16, 2) := by decide +kernel
theorem dX0_ofHome_105 : decode cX0_ofHome 105 = .ok (.if_icmp .ge 21, 3) := by decide +kernel
theorem dX0_ofHome_108 : decode cX0_ofHome 108 = .ok (.lload 6, 2) := by decide +kernel
theorem dX0_ofHome_110 : decode cX0_ofHome 110 = .ok (.aload_n 0, 1) := by decide +kernel
theorem dX0_ofHome_111 : decode cX0_ofHome 111 = .ok (.getfield 11, 3) := by decide +kernel
theorem dX0_ofHome_114 : decode cX0_ofHome 114 = .ok (.iload 8, 2) := by decide +kernel
theorem dX0_ofHome_116 : decode cX0_ofHome 116 = .ok (.laload, 1) := by decide +kernel
theorem dX0_ofHome_117 : decode cX0_ofHome 117 = .ok (.ladd, 1) := by decide +kernel
theorem dX0_ofHome_118 : decode cX0_ofHome 118 = .ok (.lstore 6, 2) := by decide +kernel
theorem dX0_ofHome_120 : decode cX0_ofHome 120 = .ok (.iinc 8 2, 3) := by decide +kernel
theorem dX0_ofHome_123 : decode cX0_ofHome 123 = .ok (.goto (-22), 3) := by decide +kernel
theorem dX0_ofHome_126 : decode cX0_ofHome 126 = .ok (.lload 6, 2) := by decide +kernel
theorem dX0_ofHome_128 : decode cX0_ofHome 128 = .ok (.lreturn, 1) := by decide +kernel
theorem mkX0_ofHome : mokV qX0_ofHome 3 := ⟨⟨⟨⟨by decide, by decide, by decide +kernel⟩, by decide⟩, gd_mem 56 (by decide +kernel) (by decide +kernel), gd_mem 742 (by decide +kernel) (by decide +kernel)⟩, gd_mem 740 (by decide +kernel) (by decide +kernel), gd_mem 741 (by decide +kernel) (by decide +kernel)⟩
theorem lcX0_33 : Cond.constantLong RX0 33 (10000000000) ∈ gdL := gd_mem 748 (by decide +kernel) (by decide +kernel)
def jX0_lowest_43 (x0 : Int64) (x2 : Int32) (x3 : Int64) (m : mMem) : mR := if (lg_cmp x3 (0 : Int64)) = (0 : Int32) then some (some (.long (0 : Int64)), m) else if x2 = (0 : Int32) then g0l x3 (some (some (.long (x0 / x3)), m)) else g0l x3 (some (some (.long ((10000000000 : Int64) / x3)), m))
set_option maxRecDepth 100000 in
theorem uX0_lowest_43 (X : mCx) (x0 : Int64) (x2 : Int32) (x3 : Int64) (m : mMem)  : T qX0_lowest X (jX0_lowest_43 x0 x2 x3 m) 43 [(0, .long x0), (2, .int x2), (3, .long x3)] [] m := by
  unfold jX0_lowest_43
  refine T_lload_n 2 rfl rfl dX0_lowest_43 ?_
  refine T_lconst (0 : Int64) (by decide) dX0_lowest_44 ?_
  refine T_lcmp dX0_lowest_45 ?_
  refine T_if_ne 51 dX0_lowest_46 (by decide) (fun _ => ?_) (fun _ => ?_)
  · refine T_lconst (0 : Int64) (by decide) dX0_lowest_49 ?_
    exact T_lret rfl dX0_lowest_50
  · refine T_iload_n 1 rfl rfl dX0_lowest_51 ?_
    refine T_if_ne 59 dX0_lowest_52 (by decide) (fun _ => ?_) (fun _ => ?_)
    · refine T_lload_n 0 rfl rfl dX0_lowest_55 ?_
      refine T_goto 62 dX0_lowest_56 (by decide) ?_
      refine T_lload_n 2 rfl rfl dX0_lowest_62 ?_
      refine T_ldiv (x := x0) (y := x3) dX0_lowest_63 ?_
      exact T_lret rfl dX0_lowest_64
    · refine T_ldc2 lcX0_33 dX0_lowest_59 ?_
      refine T_lload_n 2 rfl rfl dX0_lowest_62 ?_
      refine T_ldiv (x := (10000000000 : Int64)) (y := x3) dX0_lowest_63 ?_
      exact T_lret rfl dX0_lowest_64
def bX0_lowest_10 (x0 : Int64) (x2 : Int32) (k10 : Int64 × Int64 × Int32 × mMem → mR) (s : Int64 × Int64 × Int32 × mMem) : mR := match s with
  | (x3, x5, x7, m) => if (100 : Int32) ≤ x7 then jX0_lowest_43 x0 x2 x3 m else if (lg_cmp x5 (0 : Int64)) = (0 : Int32) then jX0_lowest_43 x0 x2 x3 m else g0l x5 (ll (x3 - x3 / x5 * x5) (fun y1 => li (x7 + (1 : Int32)) (fun y2 => k10 (x5, y1, y2, m))))
set_option maxRecDepth 100000 in
theorem tX0_lowest_10 (X : mCx) (x0 : Int64) (x2 : Int32)  : ∀ (n : Nat) (s : Int64 × Int64 × Int32 × mMem), T qX0_lowest X (lp (bX0_lowest_10 x0 x2) n s) 10 [(0, .long x0), (2, .int x2), (3, .long s.1), (5, .long s.2.1), (7, .int s.2.2.1)] [] s.2.2.2 :=
  T_lp (body := bX0_lowest_10 x0 x2) (lv := fun s => [(0, .long x0), (2, .int x2), (3, .long s.1), (5, .long s.2.1), (7, .int s.2.2.1)]) (st := fun _ => []) (μ := fun s : Int64 × Int64 × Int32 × mMem => s.2.2.2) (fun k10 hk10 s => by
    obtain ⟨x3, x5, x7, m⟩ := s
    show T qX0_lowest X (bX0_lowest_10 x0 x2 k10 (x3, x5, x7, m)) 10 [(0, .long x0), (2, .int x2), (3, .long x3), (5, .long x5), (7, .int x7)] [] m
    unfold bX0_lowest_10
    dsimp only
    refine T_iload 4 rfl dX0_lowest_10 ?_
    refine T_bipush (100 : Int32) (by decide) dX0_lowest_12 ?_
    refine T_icmp_ge 43 dX0_lowest_14 (by decide) (fun _ => ?_) (fun _ => ?_)
    · exact T_sub [0, 1, 2] rfl (uX0_lowest_43 X x0 x2 x3 m )
    · refine T_lload 3 rfl dX0_lowest_17 ?_
      refine T_lconst (0 : Int64) (by decide) dX0_lowest_19 ?_
      refine T_lcmp dX0_lowest_20 ?_
      refine T_if_eq 43 dX0_lowest_21 (by decide) (fun _ => ?_) (fun _ => ?_)
      · exact T_sub [0, 1, 2] rfl (uX0_lowest_43 X x0 x2 x3 m )
      · refine T_lload_n 2 rfl rfl dX0_lowest_24 ?_
        refine T_lload 3 rfl dX0_lowest_25 ?_
        refine T_lrem (x := x3) (y := x5) dX0_lowest_27 ?_
        refine T_lstore (lv' := [(8, .long (x3 - x3 / x5 * x5)), (0, .long x0), (2, .int x2), (3, .long x3), (5, .long x5), (7, .int x7)]) (Nat.le_of_ble_eq_true rfl) rfl dX0_lowest_28 ?_
        refine T_ll (fun y1 => ?_)
        refine T_lload 4 rfl dX0_lowest_30 ?_
        refine T_lstore_n (lv' := [(3, .long x5), (8, .long y1), (0, .long x0), (2, .int x2), (5, .long x5), (7, .int x7)]) rfl (Nat.le_of_ble_eq_true rfl) rfl dX0_lowest_32 ?_
        refine T_lload 1 rfl dX0_lowest_33 ?_
        refine T_lstore (lv' := [(5, .long y1), (3, .long x5), (8, .long y1), (0, .long x0), (2, .int x2), (7, .int x7)]) (Nat.le_of_ble_eq_true rfl) rfl dX0_lowest_35 ?_
        refine T_iinc (lv' := [(7, .int (x7 + (1 : Int32))), (5, .long y1), (3, .long x5), (8, .long y1), (0, .long x0), (2, .int x2)]) 5 (1 : Int32) rfl (by decide) (Nat.le_of_ble_eq_true rfl) rfl dX0_lowest_37 ?_
        refine T_li (fun y2 => ?_)
        refine T_goto 10 dX0_lowest_40 (by decide) ?_
        exact T_sub [4, 5, 2, 1, 0] rfl (hk10 (x5, y1, y2, m)))
def fX0_lowest (x0 : Int64) (x2 : Int32) (m : mMem) : mR := lp (bX0_lowest_10 x0 x2) FU ((10000000000 : Int64), x0, (0 : Int32), m)
set_option maxRecDepth 100000 in
theorem bsX0_lowest (l : Launch) (x0 : Int64) (x2 : Int32) (m : mMem)  : BS l qX0_lowest [.long x0, .int x2] m (fX0_lowest x0 x2 m) := BS_of (by decide) (Nat.le_of_ble_eq_true rfl) (fun X _ => by
    show T qX0_lowest X (fX0_lowest x0 x2 m) 0 [(0, .long x0), (2, .int x2)] [] m
    unfold fX0_lowest
    refine T_ldc2 lcX0_33 dX0_lowest_0 ?_
    refine T_lstore_n (lv' := [(3, .long (10000000000 : Int64)), (0, .long x0), (2, .int x2)]) rfl (Nat.le_of_ble_eq_true rfl) rfl dX0_lowest_3 ?_
    refine T_lload_n 1 rfl rfl dX0_lowest_4 ?_
    refine T_lstore (lv' := [(5, .long x0), (3, .long (10000000000 : Int64)), (0, .long x0), (2, .int x2)]) (Nat.le_of_ble_eq_true rfl) rfl dX0_lowest_5 ?_
    refine T_iconst (0 : Int32) (by decide) dX0_lowest_7 ?_
    refine T_istore (lv' := [(7, .int (0 : Int32)), (5, .long x0), (3, .long (10000000000 : Int64)), (0, .long x0), (2, .int x2)]) (Nat.le_of_ble_eq_true rfl) rfl dX0_lowest_8 ?_
    exact T_sub [3, 4, 2, 1, 0] rfl (tX0_lowest_10 X x0 x2  FU ((10000000000 : Int64), x0, (0 : Int32), m)))
theorem lmX0_27 : Cond.methodLink RX0 27 yJ7_fill_d0a16 ∈ gdL := gd_mem 745 (by decide +kernel) (by decide +kernel)
theorem lmX0_48 : Cond.methodLink RX0 48 arraycopyName ∈ gdL := gd_mem 754 (by decide +kernel) (by decide +kernel)
theorem lfX0_11 : Cond.fieldLink RX0 11 "RankStairs$Chances" "shares" "[J" ∈ gdL := gd_mem 239 (by decide +kernel) (by decide +kernel)
theorem gRX0_11 {q : mMI} {X : mCx} {tgt : mR} {pc : Nat} {lv : List (Nat × Value)} {st : List Value} {μ : mMem} {b : Nat} (hq : q.1.cls = RX0) (hb : kd b = (0, 0)) (z : Nat) (hz : rf b 0 = z) (hd : decode q.2.1 pc = .ok (.getfield 11, 3)) (h : T q X tgt (pc + 3) lv (.ref z :: st) μ) : T q X tgt pc lv (.ref b :: st) μ := T_getR (c := 0) rfl (by decide) rfl (by decide) (by rw [hq]; exact lfX0_11) hb z hz hd h
theorem lfX0_15 : Cond.fieldLink RX0 15 "RankStairs$Chances" "above" "[J" ∈ gdL := gd_mem 240 (by decide +kernel) (by decide +kernel)
theorem gRX0_15 {q : mMI} {X : mCx} {tgt : mR} {pc : Nat} {lv : List (Nat × Value)} {st : List Value} {μ : mMem} {b : Nat} (hq : q.1.cls = RX0) (hb : kd b = (0, 0)) (z : Nat) (hz : rf b 1 = z) (hd : decode q.2.1 pc = .ok (.getfield 15, 3)) (h : T q X tgt (pc + 3) lv (.ref z :: st) μ) : T q X tgt pc lv (.ref b :: st) μ := T_getR (c := 0) rfl (by decide) rfl (by decide) (by rw [hq]; exact lfX0_15) hb z hz hd h
theorem lcX0_46 : Cond.constantLong RX0 46 (10) ∈ gdL := gd_mem 753 (by decide +kernel) (by decide +kernel)
def bX0_passStep_10 (x1 : Int32) (x2 : Int32) (k10 : Int32 × mMem → mR) (s : Int32 × mMem) : mR := match s with
  | (x3, m) => if (16 : Int32) ≤ x3 then lt (cl m 64 63 0 0 16) (fun m2 => some (none, m2)) else li ((x3 <<< ((1 : Int32) &&& 31)) &&& (15 : Int32)) (fun y3 => if (x3 &&& x1) = (0 : Int32) then ga y3 16 (ga x3 16 (ga y3 16 (lt (sl m 64 (y3).toNatClampNeg ((m.2 64 (y3).toNatClampNeg) + (m.2 63 (x3).toNatClampNeg))) (fun m4 => li (x3 + (1 : Int32)) (fun y5 => k10 (y5, m4)))))) else ga x3 16 (g0l (10 : Int64) (ll (((m.2 63 (x3).toNatClampNeg) / (10 : Int64)) * (x2).toInt64) (fun y6 => ga y3 16 (ga y3 16 (lt (sl m 64 (y3).toNatClampNeg ((m.2 64 (y3).toNatClampNeg) + y6)) (fun m7 => ga (y3 ||| (1 : Int32)) 16 (ga x3 16 (ga (y3 ||| (1 : Int32)) 16 (lt (sl m7 64 ((y3 ||| (1 : Int32))).toNatClampNeg ((m7.2 64 ((y3 ||| (1 : Int32))).toNatClampNeg) + ((m7.2 63 (x3).toNatClampNeg) - y6))) (fun m8 => li (x3 + (1 : Int32)) (fun y9 => k10 (y9, m8)))))))))))))
set_option maxRecDepth 100000 in
theorem tX0_passStep_10 (X : mCx) (x1 : Int32) (x2 : Int32)  : ∀ (n : Nat) (s : Int32 × mMem), T qX0_passStep X (lp (bX0_passStep_10 x1 x2) n s) 10 [(0, .ref 62), (1, .int x1), (2, .int x2), (3, .int s.1)] [] s.2 :=
  T_lp (body := bX0_passStep_10 x1 x2) (lv := fun s => [(0, .ref 62), (1, .int x1), (2, .int x2), (3, .int s.1)]) (st := fun _ => []) (μ := fun s : Int32 × mMem => s.2) (fun k10 hk10 s => by
    obtain ⟨x3, m⟩ := s
    show T qX0_passStep X (bX0_passStep_10 x1 x2 k10 (x3, m)) 10 [(0, .ref 62), (1, .int x1), (2, .int x2), (3, .int x3)] [] m
    unfold bX0_passStep_10
    dsimp only
    refine T_iload_n 3 rfl rfl dX0_passStep_10 ?_
    refine T_bipush (16 : Int32) (by decide) dX0_passStep_11 ?_
    refine T_icmp_ge 103 dX0_passStep_13 (by decide) (fun _ => ?_) (fun _ => ?_)
    · refine T_aload_n 0 rfl rfl dX0_passStep_103 ?_
      refine gRX0_15 rfl kd_62 64 rfl dX0_passStep_104 ?_
      refine T_iconst (0 : Int32) (by decide) dX0_passStep_107 ?_
      refine T_aload_n 0 rfl rfl dX0_passStep_108 ?_
      refine gRX0_11 rfl kd_62 63 rfl dX0_passStep_109 ?_
      refine T_iconst (0 : Int32) (by decide) dX0_passStep_112 ?_
      refine T_bipush (16 : Int32) (by decide) dX0_passStep_113 ?_
      refine T_cpyL (N := 16) (by decide) (by decide) (by decide) (by decide) lmX0_48 (by decide) (Nat.le_of_ble_eq_true rfl) kd_64 kd_63 dX0_passStep_115 ?_
      refine T_lt (fun m2 => ?_)
      exact T_vret rfl dX0_passStep_118
    · refine T_iload_n 3 rfl rfl dX0_passStep_16 ?_
      refine T_iconst (1 : Int32) (by decide) dX0_passStep_17 ?_
      refine T_ishl dX0_passStep_18 ?_
      refine T_bipush (15 : Int32) (by decide) dX0_passStep_19 ?_
      refine T_iand dX0_passStep_21 ?_
      refine T_istore (lv' := [(4, .int ((x3 <<< ((1 : Int32) &&& 31)) &&& (15 : Int32))), (0, .ref 62), (1, .int x1), (2, .int x2), (3, .int x3)]) (Nat.le_of_ble_eq_true rfl) rfl dX0_passStep_22 ?_
      refine T_li (fun y3 => ?_)
      refine T_iload_n 4 rfl rfl dX0_passStep_24 ?_
      refine T_iload_n 2 rfl rfl dX0_passStep_25 ?_
      refine T_iand dX0_passStep_26 ?_
      refine T_if_ne 49 dX0_passStep_27 (by decide) (fun _ => ?_) (fun _ => ?_)
      · refine T_aload_n 1 rfl rfl dX0_passStep_30 ?_
        refine gRX0_15 rfl kd_62 64 rfl dX0_passStep_31 ?_
        refine T_iload 0 rfl dX0_passStep_34 ?_
        refine T_dup2 rfl rfl dX0_passStep_36 ?_
        refine T_lald kd_64 dX0_passStep_37 ?_
        refine T_aload_n 1 rfl rfl dX0_passStep_38 ?_
        refine gRX0_11 rfl kd_62 63 rfl dX0_passStep_39 ?_
        refine T_iload_n 4 rfl rfl dX0_passStep_42 ?_
        refine T_lald kd_63 dX0_passStep_43 ?_
        refine T_ladd dX0_passStep_44 ?_
        refine T_last kd_64 dX0_passStep_45 ?_
        refine T_lt (fun m4 => ?_)
        refine T_goto 97 dX0_passStep_46 (by decide) ?_
        refine T_iinc (lv' := [(3, .int (x3 + (1 : Int32))), (4, .int y3), (0, .ref 62), (1, .int x1), (2, .int x2)]) 4 (1 : Int32) rfl (by decide) (Nat.le_of_ble_eq_true rfl) rfl dX0_passStep_97 ?_
        refine T_li (fun y5 => ?_)
        refine T_goto 10 dX0_passStep_100 (by decide) ?_
        exact T_sub [2, 3, 4, 0] rfl (hk10 (y5, m4))
      · refine T_aload_n 1 rfl rfl dX0_passStep_49 ?_
        refine gRX0_11 rfl kd_62 63 rfl dX0_passStep_50 ?_
        refine T_iload_n 4 rfl rfl dX0_passStep_53 ?_
        refine T_lald kd_63 dX0_passStep_54 ?_
        refine T_ldc2 lcX0_46 dX0_passStep_55 ?_
        refine T_ldiv (x := (m.2 63 (x3).toNatClampNeg)) (y := (10 : Int64)) dX0_passStep_58 ?_
        refine T_iload_n 3 rfl rfl dX0_passStep_59 ?_
        refine T_i2l dX0_passStep_60 ?_
        refine T_lmul dX0_passStep_61 ?_
        refine T_lstore (lv' := [(5, .long (((m.2 63 (x3).toNatClampNeg) / (10 : Int64)) * (x2).toInt64)), (4, .int y3), (0, .ref 62), (1, .int x1), (2, .int x2), (3, .int x3)]) (Nat.le_of_ble_eq_true rfl) rfl dX0_passStep_62 ?_
        refine T_ll (fun y6 => ?_)
        refine T_aload_n 2 rfl rfl dX0_passStep_64 ?_
        refine gRX0_15 rfl kd_62 64 rfl dX0_passStep_65 ?_
        refine T_iload 1 rfl dX0_passStep_68 ?_
        refine T_dup2 rfl rfl dX0_passStep_70 ?_
        refine T_lald kd_64 dX0_passStep_71 ?_
        refine T_lload 0 rfl dX0_passStep_72 ?_
        refine T_ladd dX0_passStep_74 ?_
        refine T_last kd_64 dX0_passStep_75 ?_
        refine T_lt (fun m7 => ?_)
        refine T_aload_n 2 rfl rfl dX0_passStep_76 ?_
        refine gRX0_15 rfl kd_62 64 rfl dX0_passStep_77 ?_
        refine T_iload 1 rfl dX0_passStep_80 ?_
        refine T_iconst (1 : Int32) (by decide) dX0_passStep_82 ?_
        refine T_ior dX0_passStep_83 ?_
        refine T_dup2 rfl rfl dX0_passStep_84 ?_
        refine T_lald kd_64 dX0_passStep_85 ?_
        refine T_aload_n 2 rfl rfl dX0_passStep_86 ?_
        refine gRX0_11 rfl kd_62 63 rfl dX0_passStep_87 ?_
        refine T_iload_n 5 rfl rfl dX0_passStep_90 ?_
        refine T_lald kd_63 dX0_passStep_91 ?_
        refine T_lload 0 rfl dX0_passStep_92 ?_
        refine T_lsub dX0_passStep_94 ?_
        refine T_ladd dX0_passStep_95 ?_
        refine T_last kd_64 dX0_passStep_96 ?_
        refine T_lt (fun m8 => ?_)
        refine T_iinc (lv' := [(3, .int (x3 + (1 : Int32))), (5, .long y6), (4, .int y3), (0, .ref 62), (1, .int x1), (2, .int x2)]) 5 (1 : Int32) rfl (by decide) (Nat.le_of_ble_eq_true rfl) rfl dX0_passStep_97 ?_
        refine T_li (fun y9 => ?_)
        refine T_goto 10 dX0_passStep_100 (by decide) ?_
        exact T_sub [3, 4, 5, 0] rfl (hk10 (y9, m8)))
def fX0_passStep (x1 : Int32) (x2 : Int32) (m : mMem) : mR := bV (fJ7_fill_d0a16 64 16 (0 : Int64) m) (fun m1 => lp (bX0_passStep_10 x1 x2) FU ((0 : Int32), m1))
set_option maxRecDepth 100000 in
theorem bsX0_passStep (l : Launch) (x1 : Int32) (x2 : Int32) (m : mMem)  : BS l qX0_passStep [.ref 62, .int x1, .int x2] m (fX0_passStep x1 x2 m) := BS_of (by decide) (Nat.le_of_ble_eq_true rfl) (fun X _ => by
    show T qX0_passStep X (fX0_passStep x1 x2 m) 0 [(0, .ref 62), (1, .int x1), (2, .int x2)] [] m
    unfold fX0_passStep
    refine T_aload_n 0 rfl rfl dX0_passStep_0 ?_
    refine gRX0_15 rfl kd_62 64 rfl dX0_passStep_1 ?_
    refine T_lconst (0 : Int64) (by decide) dX0_passStep_4 ?_
    refine T_cSV [.ref 64, .long (0 : Int64)] [] mkJ7_fill_d0a16 lmX0_27 rfl (by decide) (Nat.le_of_ble_eq_true rfl) dX0_passStep_5 (bsJ7_fill_d0a16 _ 64 16 (0 : Int64) m kd_64) (fun m1 => ?_)
    refine T_iconst (0 : Int32) (by decide) dX0_passStep_8 ?_
    refine T_istore_n (lv' := [(3, .int (0 : Int32)), (0, .ref 62), (1, .int x1), (2, .int x2)]) rfl (Nat.le_of_ble_eq_true rfl) rfl dX0_passStep_9 ?_
    exact T_sub [1, 2, 3, 0] rfl (tX0_passStep_10 X x1 x2  FU ((0 : Int32), m1)))
theorem lmX0_18 : Cond.methodLink RX0 18 yX4_treadBits ∈ gdL := gd_mem 743 (by decide +kernel) (by decide +kernel)
theorem lmX0_24 : Cond.methodLink RX0 24 yX4_reachOf ∈ gdL := gd_mem 744 (by decide +kernel) (by decide +kernel)
theorem lmX0_42 : Cond.methodLink RX0 42 yX0_passStep ∈ gdL := gd_mem 749 (by decide +kernel) (by decide +kernel)
theorem lfX0_35 : Cond.fieldLink RX0 35 "RankStairs$House" "floorOf" "[I" ∈ gdL := gd_mem 161 (by decide +kernel) (by decide +kernel)
theorem gRX0_35 {q : mMI} {X : mCx} {tgt : mR} {pc : Nat} {lv : List (Nat × Value)} {st : List Value} {μ : mMem} {b : Nat} (hq : q.1.cls = RX0) (hb : kd b = (4, 0)) (z : Nat) (hz : rf b 11 = z) (hd : decode q.2.1 pc = .ok (.getfield 35, 3)) (h : T q X tgt (pc + 3) lv (.ref z :: st) μ) : T q X tgt pc lv (.ref b :: st) μ := T_getR (c := 4) rfl (by decide) rfl (by decide) (by rw [hq]; exact lfX0_35) hb z hz hd h
theorem lfX0_39 : Cond.fieldLink RX0 39 "RankStairs$House" "kinds" "[I" ∈ gdL := gd_mem 145 (by decide +kernel) (by decide +kernel)
theorem gRX0_39 {q : mMI} {X : mCx} {tgt : mR} {pc : Nat} {lv : List (Nat × Value)} {st : List Value} {μ : mMem} {b : Nat} (hq : q.1.cls = RX0) (hb : kd b = (4, 0)) (z : Nat) (hz : rf b 5 = z) (hd : decode q.2.1 pc = .ok (.getfield 39, 3)) (h : T q X tgt (pc + 3) lv (.ref z :: st) μ) : T q X tgt pc lv (.ref b :: st) μ := T_getR (c := 4) rfl (by decide) rfl (by decide) (by rw [hq]; exact lfX0_39) hb z hz hd h
def bX0_ofHome_101  (k101 : Int64 × Int32 × mMem → mR) (s : Int64 × Int32 × mMem) : mR := match s with
  | (x6, x8, m) => if (16 : Int32) ≤ x8 then some (some (.long x6), m) else ga x8 16 (ll (x6 + (m.2 63 (x8).toNatClampNeg)) (fun y10 => li (x8 + (2 : Int32)) (fun y11 => k101 (y10, y11, m))))
set_option maxRecDepth 100000 in
theorem tX0_ofHome_101 (X : mCx)   : ∀ (n : Nat) (s : Int64 × Int32 × mMem), T qX0_ofHome X (lp (bX0_ofHome_101 ) n s) 101 [(0, .ref 62), (6, .long s.1), (8, .int s.2.1)] [] s.2.2 :=
  T_lp (body := bX0_ofHome_101 ) (lv := fun s => [(0, .ref 62), (6, .long s.1), (8, .int s.2.1)]) (st := fun _ => []) (μ := fun s : Int64 × Int32 × mMem => s.2.2) (fun k101 hk101 s => by
    obtain ⟨x6, x8, m⟩ := s
    show T qX0_ofHome X (bX0_ofHome_101  k101 (x6, x8, m)) 101 [(0, .ref 62), (6, .long x6), (8, .int x8)] [] m
    unfold bX0_ofHome_101
    dsimp only
    refine T_iload 2 rfl dX0_ofHome_101 ?_
    refine T_bipush (16 : Int32) (by decide) dX0_ofHome_103 ?_
    refine T_icmp_ge 126 dX0_ofHome_105 (by decide) (fun _ => ?_) (fun _ => ?_)
    · refine T_lload 1 rfl dX0_ofHome_126 ?_
      exact T_lret rfl dX0_ofHome_128
    · refine T_lload 1 rfl dX0_ofHome_108 ?_
      refine T_aload_n 0 rfl rfl dX0_ofHome_110 ?_
      refine gRX0_11 rfl kd_62 63 rfl dX0_ofHome_111 ?_
      refine T_iload 2 rfl dX0_ofHome_114 ?_
      refine T_lald kd_63 dX0_ofHome_116 ?_
      refine T_ladd dX0_ofHome_117 ?_
      refine T_lstore (lv' := [(6, .long (x6 + (m.2 63 (x8).toNatClampNeg))), (0, .ref 62), (8, .int x8)]) (Nat.le_of_ble_eq_true rfl) rfl dX0_ofHome_118 ?_
      refine T_ll (fun y10 => ?_)
      refine T_iinc (lv' := [(8, .int (x8 + (2 : Int32))), (6, .long y10), (0, .ref 62)]) 2 (2 : Int32) rfl (by decide) (Nat.le_of_ble_eq_true rfl) rfl dX0_ofHome_120 ?_
      refine T_li (fun y11 => ?_)
      refine T_goto 101 dX0_ofHome_123 (by decide) ?_
      exact T_sub [2, 1, 0] rfl (hk101 (y10, y11, m)))
def jX0_ofHome_84 (k38 : Int32 × mMem → mR) (r1 : Nat) (x2 : Int32) (x3 : Int32) (x4 : Int32) (x5 : Int32) (x6 : Int32) (x7 : Int32) (xs0 : Int32) (m : mMem) : mR := bV (fX0_passStep xs0 x7 m) (fun m12 => li (x6 + (1 : Int32)) (fun y13 => k38 (y13, m12)))
set_option maxRecDepth 100000 in
theorem uX0_ofHome_84 (X : mCx) (k38 : Int32 × mMem → mR) (r1 : Nat) (x2 : Int32) (x3 : Int32) (x4 : Int32) (x5 : Int32) (x6 : Int32) (x7 : Int32) (xs0 : Int32) (m : mMem) (h1 : kd r1 = (4, 0)) (hk38 : ∀ s : Int32 × mMem, T qX0_ofHome X (k38 s) 38 [(0, .ref 62), (1, .ref r1), (2, .int x2), (3, .int x3), (4, .int x4), (5, .int x5), (6, .int s.1)] [] s.2) : T qX0_ofHome X (jX0_ofHome_84 k38 r1 x2 x3 x4 x5 x6 x7 xs0 m) 84 [(0, .ref 62), (1, .ref r1), (2, .int x2), (3, .int x3), (4, .int x4), (5, .int x5), (6, .int x6), (7, .int x7)] [.int xs0, .ref 62] m := by
  unfold jX0_ofHome_84
  refine T_iload 7 rfl dX0_ofHome_84 ?_
  refine T_cVV (c := 0) [.int xs0, .int x7] [] mkX0_passStep lmX0_42 rfl rfl (by decide) (Nat.le_of_ble_eq_true rfl) kd_62 dX0_ofHome_86 (bsX0_passStep _ xs0 x7 m) (fun m12 => ?_)
  refine T_iinc (lv' := [(6, .int (x6 + (1 : Int32))), (0, .ref 62), (1, .ref r1), (2, .int x2), (3, .int x3), (4, .int x4), (5, .int x5), (7, .int x7)]) 6 (1 : Int32) rfl (by decide) (Nat.le_of_ble_eq_true rfl) rfl dX0_ofHome_89 ?_
  refine T_li (fun y13 => ?_)
  refine T_goto 38 dX0_ofHome_92 (by decide) ?_
  exact T_sub [1, 2, 3, 4, 5, 6, 0] rfl (hk38 (y13, m12))
def jX0_ofHome_65 (k38 : Int32 × mMem → mR) (r1 : Nat) (x2 : Int32) (x3 : Int32) (x4 : Int32) (x5 : Int32) (x6 : Int32) (xs0 : Int32) (m : mMem) : mR := if ((x4 >>> (x6 &&& 31)) &&& (1 : Int32)) = (0 : Int32) then jX0_ofHome_84 k38 r1 x2 x3 x4 x5 x6 xs0 (0 : Int32) m else jX0_ofHome_84 k38 r1 x2 x3 x4 x5 x6 xs0 x5 m
set_option maxRecDepth 100000 in
theorem uX0_ofHome_65 (X : mCx) (k38 : Int32 × mMem → mR) (r1 : Nat) (x2 : Int32) (x3 : Int32) (x4 : Int32) (x5 : Int32) (x6 : Int32) (xs0 : Int32) (m : mMem) (h1 : kd r1 = (4, 0)) (hk38 : ∀ s : Int32 × mMem, T qX0_ofHome X (k38 s) 38 [(0, .ref 62), (1, .ref r1), (2, .int x2), (3, .int x3), (4, .int x4), (5, .int x5), (6, .int s.1)] [] s.2) : T qX0_ofHome X (jX0_ofHome_65 k38 r1 x2 x3 x4 x5 x6 xs0 m) 65 [(0, .ref 62), (1, .ref r1), (2, .int x2), (3, .int x3), (4, .int x4), (5, .int x5), (6, .int x6)] [.int xs0] m := by
  unfold jX0_ofHome_65
  refine T_istore (lv' := [(7, .int xs0), (0, .ref 62), (1, .ref r1), (2, .int x2), (3, .int x3), (4, .int x4), (5, .int x5), (6, .int x6)]) (Nat.le_of_ble_eq_true rfl) rfl dX0_ofHome_65 ?_
  refine T_aload_n 1 rfl rfl dX0_ofHome_67 ?_
  refine T_iload 5 rfl dX0_ofHome_68 ?_
  refine T_iload 7 rfl dX0_ofHome_70 ?_
  refine T_ishr dX0_ofHome_72 ?_
  refine T_iconst (1 : Int32) (by decide) dX0_ofHome_73 ?_
  refine T_iand dX0_ofHome_74 ?_
  refine T_if_eq 83 dX0_ofHome_75 (by decide) (fun _ => ?_) (fun _ => ?_)
  · refine T_iconst (0 : Int32) (by decide) dX0_ofHome_83 ?_
    exact T_sub [1, 2, 3, 4, 5, 6, 7, 0] rfl (uX0_ofHome_84 X k38 r1 x2 x3 x4 x5 x6 xs0 (0 : Int32) m h1 hk38)
  · refine T_iload 6 rfl dX0_ofHome_78 ?_
    refine T_goto 84 dX0_ofHome_80 (by decide) ?_
    exact T_sub [1, 2, 3, 4, 5, 6, 7, 0] rfl (uX0_ofHome_84 X k38 r1 x2 x3 x4 x5 x6 xs0 x5 m h1 hk38)
def bX0_ofHome_38 (r1 : Nat) (x2 : Int32) (x3 : Int32) (x4 : Int32) (x5 : Int32) (k38 : Int32 × mMem → mR) (s : Int32 × mMem) : mR := match s with
  | (x6, m) => ga x2 4 (if (m.1 (r1 + 7) (x2).toNatClampNeg) < x6 then lp (bX0_ofHome_101 ) FU ((0 : Int64), (1 : Int32), m) else ga x6 10 (if (m.1 (r1 + 1) (x6).toNatClampNeg) = (3 : Int32) then jX0_ofHome_65 k38 r1 x2 x3 x4 x5 x6 (0 : Int32) m else jX0_ofHome_65 k38 r1 x2 x3 x4 x5 x6 x3 m))
set_option maxRecDepth 100000 in
theorem tX0_ofHome_38 (X : mCx) (r1 : Nat) (x2 : Int32) (x3 : Int32) (x4 : Int32) (x5 : Int32) (h1 : kd r1 = (4, 0)) : ∀ (n : Nat) (s : Int32 × mMem), T qX0_ofHome X (lp (bX0_ofHome_38 r1 x2 x3 x4 x5) n s) 38 [(0, .ref 62), (1, .ref r1), (2, .int x2), (3, .int x3), (4, .int x4), (5, .int x5), (6, .int s.1)] [] s.2 :=
  T_lp (body := bX0_ofHome_38 r1 x2 x3 x4 x5) (lv := fun s => [(0, .ref 62), (1, .ref r1), (2, .int x2), (3, .int x3), (4, .int x4), (5, .int x5), (6, .int s.1)]) (st := fun _ => []) (μ := fun s : Int32 × mMem => s.2) (fun k38 hk38 s => by
    obtain ⟨x6, m⟩ := s
    show T qX0_ofHome X (bX0_ofHome_38 r1 x2 x3 x4 x5 k38 (x6, m)) 38 [(0, .ref 62), (1, .ref r1), (2, .int x2), (3, .int x3), (4, .int x4), (5, .int x5), (6, .int x6)] [] m
    unfold bX0_ofHome_38
    dsimp only
    refine T_iload 6 rfl dX0_ofHome_38 ?_
    refine T_aload_n 1 rfl rfl dX0_ofHome_40 ?_
    refine gRX0_35 rfl h1 (r1 + 7) (rfH11 h1) dX0_ofHome_41 ?_
    refine T_iload_n 2 rfl rfl dX0_ofHome_44 ?_
    refine T_iald (kdH11 h1) dX0_ofHome_45 ?_
    refine T_icmp_gt 95 dX0_ofHome_46 (by decide) (fun _ => ?_) (fun _ => ?_)
    · refine T_lconst (0 : Int64) (by decide) dX0_ofHome_95 ?_
      refine T_lstore (lv' := [(6, .long (0 : Int64)), (0, .ref 62), (1, .ref r1), (2, .int x2), (3, .int x3), (4, .int x4), (5, .int x5)]) (Nat.le_of_ble_eq_true rfl) rfl dX0_ofHome_96 ?_
      refine T_iconst (1 : Int32) (by decide) dX0_ofHome_98 ?_
      refine T_istore (lv' := [(8, .int (1 : Int32)), (6, .long (0 : Int64)), (0, .ref 62), (1, .ref r1), (2, .int x2), (3, .int x3), (4, .int x4), (5, .int x5)]) (Nat.le_of_ble_eq_true rfl) rfl dX0_ofHome_99 ?_
      exact T_sub [2, 1, 0] rfl (tX0_ofHome_101 X   FU ((0 : Int64), (1 : Int32), m))
    · refine T_aload_n 1 rfl rfl dX0_ofHome_49 ?_
      refine gRX0_39 rfl h1 (r1 + 1) (rfH5 h1) dX0_ofHome_50 ?_
      refine T_iload 6 rfl dX0_ofHome_53 ?_
      refine T_iald (kdH5 h1) dX0_ofHome_55 ?_
      refine T_iconst (3 : Int32) (by decide) dX0_ofHome_56 ?_
      refine T_icmp_ne 64 dX0_ofHome_57 (by decide) (fun _ => ?_) (fun _ => ?_)
      · refine T_iconst (0 : Int32) (by decide) dX0_ofHome_60 ?_
        refine T_goto 65 dX0_ofHome_61 (by decide) ?_
        exact T_sub [0, 1, 2, 3, 4, 5, 6] rfl (uX0_ofHome_65 X k38 r1 x2 x3 x4 x5 x6 (0 : Int32) m h1 hk38)
      · refine T_iload_n 3 rfl rfl dX0_ofHome_64 ?_
        exact T_sub [0, 1, 2, 3, 4, 5, 6] rfl (uX0_ofHome_65 X k38 r1 x2 x3 x4 x5 x6 x3 m h1 hk38))
def fX0_ofHome (r1 : Nat) (x2 : Int32) (x3 : Int32) (m : mMem) : mR := bI (fX4_treadBits r1 x2 m) (fun z2 m1 => bI (fX4_reachOf r1 x2 m1) (fun z5 m4 => li (((1 : Int32) <<< (z5 &&& 31)) - (1 : Int32)) (fun y7 => bV (fJ7_fill_d0a16 63 16 (0 : Int64) m4) (fun m8 => ga (1 : Int32) 16 (lt (sl m8 63 ((1 : Int32)).toNatClampNeg (10000000000 : Int64)) (fun m9 => lp (bX0_ofHome_38 r1 x2 x3 z2 y7) FU ((0 : Int32), m9)))))))
set_option maxRecDepth 100000 in
theorem bsX0_ofHome (l : Launch) (r1 : Nat) (x2 : Int32) (x3 : Int32) (m : mMem) (h1 : kd r1 = (4, 0)) : BS l qX0_ofHome [.ref 62, .ref r1, .int x2, .int x3] m (fX0_ofHome r1 x2 x3 m) := BS_of (by decide) (Nat.le_of_ble_eq_true rfl) (fun X _ => by
    show T qX0_ofHome X (fX0_ofHome r1 x2 x3 m) 0 [(0, .ref 62), (1, .ref r1), (2, .int x2), (3, .int x3)] [] m
    unfold fX0_ofHome
    refine T_aload_n 1 rfl rfl dX0_ofHome_0 ?_
    refine T_iload_n 2 rfl rfl dX0_ofHome_1 ?_
    refine T_cVI (c := 4) [.int x2] [] mkX4_treadBits lmX0_18 rfl rfl (by decide) (Nat.le_of_ble_eq_true rfl) h1 dX0_ofHome_2 (bsX4_treadBits _ r1 x2 m h1) (fun z2 m1 => ?_)
    refine T_istore (lv' := [(4, .int z2), (0, .ref 62), (1, .ref r1), (2, .int x2), (3, .int x3)]) (Nat.le_of_ble_eq_true rfl) rfl dX0_ofHome_5 ?_
    refine T_iconst (1 : Int32) (by decide) dX0_ofHome_7 ?_
    refine T_aload_n 2 rfl rfl dX0_ofHome_8 ?_
    refine T_iload_n 3 rfl rfl dX0_ofHome_9 ?_
    refine T_cVI (c := 4) [.int x2] [.int (1 : Int32)] mkX4_reachOf lmX0_24 rfl rfl (by decide) (Nat.le_of_ble_eq_true rfl) h1 dX0_ofHome_10 (bsX4_reachOf _ r1 x2 m1 h1) (fun z5 m4 => ?_)
    refine T_ishl dX0_ofHome_13 ?_
    refine T_iconst (1 : Int32) (by decide) dX0_ofHome_14 ?_
    refine T_isub dX0_ofHome_15 ?_
    refine T_istore (lv' := [(5, .int (((1 : Int32) <<< (z5 &&& 31)) - (1 : Int32))), (4, .int z2), (0, .ref 62), (1, .ref r1), (2, .int x2), (3, .int x3)]) (Nat.le_of_ble_eq_true rfl) rfl dX0_ofHome_16 ?_
    refine T_li (fun y7 => ?_)
    refine T_aload_n 2 rfl rfl dX0_ofHome_18 ?_
    refine gRX0_11 rfl kd_62 63 rfl dX0_ofHome_19 ?_
    refine T_lconst (0 : Int64) (by decide) dX0_ofHome_22 ?_
    refine T_cSV [.ref 63, .long (0 : Int64)] [] mkJ7_fill_d0a16 lmX0_27 rfl (by decide) (Nat.le_of_ble_eq_true rfl) dX0_ofHome_23 (bsJ7_fill_d0a16 _ 63 16 (0 : Int64) m4 kd_63) (fun m8 => ?_)
    refine T_aload_n 2 rfl rfl dX0_ofHome_26 ?_
    refine gRX0_11 rfl kd_62 63 rfl dX0_ofHome_27 ?_
    refine T_iconst (1 : Int32) (by decide) dX0_ofHome_30 ?_
    refine T_ldc2 lcX0_33 dX0_ofHome_31 ?_
    refine T_last kd_63 dX0_ofHome_34 ?_
    refine T_lt (fun m9 => ?_)
    refine T_iconst (0 : Int32) (by decide) dX0_ofHome_35 ?_
    refine T_istore (lv' := [(6, .int (0 : Int32)), (5, .int y7), (4, .int z2), (0, .ref 62), (1, .ref r1), (2, .int x2), (3, .int x3)]) (Nat.le_of_ble_eq_true rfl) rfl dX0_ofHome_36 ?_
    exact T_sub [3, 4, 5, 6, 2, 1, 0] rfl (tX0_ofHome_38 X r1 x2 x3 z2 y7 h1 FU ((0 : Int32), m9)))
