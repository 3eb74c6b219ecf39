abbrev qX8_readLine : mMI := (yX8_readLine, cX8_readLine, 2, none, 4)
theorem dX8_readLine_0 : decode cX8_readLine 0 = .ok (.aload_n 0, 1) := by decide +kernel
theorem dX8_readLine_1 : decode cX8_readLine 1 = .ok (.invokevirtual 125, 3) := by decide +kernel
theorem dX8_readLine_4 : decode cX8_readLine 4 = .ok (.istore_n 1, 1) := by decide +kernel
theorem dX8_readLine_5 : decode cX8_readLine 5 = .ok (.iload_n 1, 1) := by decide +kernel
theorem dX8_readLine_6 : decode cX8_readLine 6 = .ok (.i2l, 1) := by decide +kernel
theorem dX8_readLine_7 : decode cX8_readLine 7 = .ok (.lconst 0, 1) := by decide +kernel
theorem dX8_readLine_8 : decode cX8_readLine 8 = .ok (.ldc2_w 129, 3) := by decide +kernel
theorem dX8_readLine_11 : decode cX8_readLine 11 = .ok (.invokestatic 67, 3) := by decide +kernel
theorem dX8_readLine_14 : decode cX8_readLine 14 = .ok (.ifCond .ne 9, 3) := by decide +kernel
theorem dX8_readLine_17 : decode cX8_readLine 17 = .ok (.aload_n 0, 1) := by decide +kernel
theorem dX8_readLine_18 : decode cX8_readLine 18 = .ok (.iconst 2, 1) := by decide +kernel
theorem dX8_readLine_19 : decode cX8_readLine 19 = .ok (.invokevirtual 105, 3) := by decide +kernel
theorem dX8_readLine_22 : decode cX8_readLine 22 = .ok (.return_, 1) := by decide +kernel
theorem dX8_readLine_23 : decode cX8_readLine 23 = .ok (.iload_n 1, 1) := by decide +kernel
theorem dX8_readLine_24 : decode cX8_readLine 24 = .ok (.iconst 3, 1) := by decide +kernel
theorem dX8_readLine_25 : decode cX8_readLine 25 = .ok (.if_icmp .gt 12, 3) := by decide +kernel
theorem dX8_readLine_28 : decode cX8_readLine 28 = .ok (.aload_n 0, 1) := by decide +kernel
theorem dX8_readLine_29 : decode cX8_readLine 29 = .ok (.getfield 112, 3) := by decide +kernel
theorem dX8_readLine_32 : decode cX8_readLine 32 = .ok (.bipush 10, 2) := by decide +kernel
theorem dX8_readLine_34 : decode cX8_readLine 34 = .ok (.if_icmp .eq 16, 3) := by decide +kernel
theorem dX8_readLine_37 : decode cX8_readLine 37 = .ok (.iload_n 1, 1) := by decide +kernel
theorem dX8_readLine_38 : decode cX8_readLine 38 = .ok (.iconst 4, 1) := by decide +kernel
theorem dX8_readLine_39 : decode cX8_readLine 39 = .ok (.if_icmp .ne 16, 3) := by decide +kernel
theorem dX8_readLine_42 : decode cX8_readLine 42 = .ok (.aload_n 0, 1) := by decide +kernel
theorem dX8_readLine_43 : decode cX8_readLine 43 = .ok (.getfield 119, 3) := by decide +kernel
theorem dX8_readLine_46 : decode cX8_readLine 46 = .ok (.iconst 4, 1) := by decide +kernel
theorem dX8_readLine_47 : decode cX8_readLine 47 = .ok (.if_icmp .ne 8, 3) := by decide +kernel
theorem dX8_readLine_50 : decode cX8_readLine 50 = .ok (.aload_n 0, 1) := by decide +kernel
theorem dX8_readLine_51 : decode cX8_readLine 51 = .ok (.iconst 5, 1) := by decide +kernel
theorem dX8_readLine_52 : decode cX8_readLine 52 = .ok (.invokevirtual 105, 3) := by decide +kernel
theorem dX8_readLine_55 : decode cX8_readLine 55 = .ok (.iload_n 1, 1) := by decide +kernel
theorem dX8_readLine_56 : decode cX8_readLine 56 = .ok (.iconst 5, 1) := by decide +kernel
theorem dX8_readLine_57 : decode cX8_readLine 57 = .ok (.if_icmp .lt 20, 3) := by decide +kernel
theorem dX8_readLine_60 : decode cX8_readLine 60 = .ok (.aload_n 0, 1) := by decide +kernel
theorem dX8_readLine_61 : decode cX8_readLine 61 = .ok (.getfield 131, 3) := by decide +kernel
theorem dX8_readLine_64 : decode cX8_readLine 64 = .ok (.iload_n 1, 1) := by decide +kernel
theorem dX8_readLine_65 : decode cX8_readLine 65 = .ok (.ishr, 1) := by decide +kernel
theorem dX8_readLine_66 : decode cX8_readLine 66 = .ok (.iconst 1, 1) := by decide +kernel
theorem dX8_readLine_67 : decode cX8_readLine 67 = .ok (.iand, 1) := by decide +kernel
theorem dX8_readLine_68 : decode cX8_readLine 68 = .ok (.iconst 1, 1) := by decide +kernel
theorem dX8_readLine_69 : decode cX8_readLine 69 = .ok (.if_icmp .ne 8, 3) := by decide +kernel
theorem dX8_readLine_72 : decode cX8_readLine 72 = .ok (.aload_n 0, 1) := by decide +kernel
theorem dX8_readLine_73 : decode cX8_readLine 73 = .ok (.iconst 4, 1) := by decide +kernel
theorem dX8_readLine_74 : decode cX8_readLine 74 = .ok (.invokevirtual 105, 3) := by decide +kernel
theorem dX8_readLine_77 : decode cX8_readLine 77 = .ok (.aload_n 0, 1) := by decide +kernel
theorem dX8_readLine_78 : decode cX8_readLine 78 = .ok (.dup, 1) := by decide +kernel
theorem dX8_readLine_79 : decode cX8_readLine 79 = .ok (.getfield 131, 3) := by decide +kernel
theorem dX8_readLine_82 : decode cX8_readLine 82 = .ok (.iconst 1, 1) := by decide +kernel
theorem dX8_readLine_83 : decode cX8_readLine 83 = .ok (.iload_n 1, 1) := by decide +kernel
theorem dX8_readLine_84 : decode cX8_readLine 84 = .ok (.ishl, 1) := by decide +kernel
theorem dX8_readLine_85 : decode cX8_readLine 85 = .ok (.ior, 1) := by decide +kernel
theorem dX8_readLine_86 : decode cX8_readLine 86 = .ok (.putfield 131, 3) := by decide +kernel
theorem dX8_readLine_89 : decode cX8_readLine 89 = .ok (.aload_n 0, 1) := by decide +kernel
theorem dX8_readLine_90 : decode cX8_readLine 90 = .ok (.invokevirtual 109, 3) := by decide +kernel
theorem dX8_readLine_93 : decode cX8_readLine 93 = .ok (.aload_n 0, 1) := by decide +kernel
theorem dX8_readLine_94 : decode cX8_readLine 94 = .ok (.getfield 75, 3) := by decide +kernel
theorem dX8_readLine_97 : decode cX8_readLine 97 = .ok (.ifCond .le 4, 3) := by decide +kernel
theorem dX8_readLine_100 : decode cX8_readLine 100 = .ok (.return_, 1) := by decide +kernel
theorem dX8_readLine_101 : decode cX8_readLine 101 = .ok (.aload_n 0, 1) := by decide +kernel
theorem dX8_readLine_102 : decode cX8_readLine 102 = .ok (.iload_n 1, 1) := by decide +kernel
theorem dX8_readLine_103 : decode cX8_readLine 103 = .ok (.invokevirtual 134, 3) := by decide +kernel
theorem dX8_readLine_106 : decode cX8_readLine 106 = .ok (.aload_n 0, 1) := by decide +kernel
theorem dX8_readLine_107 : decode cX8_readLine 107 = .ok (.getfield 75, 3) := by decide +kernel
theorem dX8_readLine_110 : decode cX8_readLine 110 = .ok (.ifCond .ne 16, 3) := by decide +kernel
theorem dX8_readLine_113 : decode cX8_readLine 113 = .ok (.aload_n 0, 1) := by decide +kernel
theorem dX8_readLine_114 : decode cX8_readLine 114 = .ok (.getfield 84, 3) := by decide +kernel
theorem dX8_readLine_117 : decode cX8_readLine 117 = .ok (.iconst 3, 1) := by decide +kernel
theorem dX8_readLine_118 : decode cX8_readLine 118 = .ok (.if_icmp .eq 8, 3) := by decide +kernel
theorem dX8_readLine_121 : decode cX8_readLine 121 = .ok (.aload_n 0, 1) := by decide +kernel
theorem dX8_readLine_122 : decode cX8_readLine 122 = .ok (.iconst 2, 1) := by decide +kernel
theorem dX8_readLine_123 : decode cX8_readLine 123 = .ok (.invokevirtual 105, 3) := by decide +kernel
theorem dX8_readLine_126 : decode cX8_readLine 126 = .ok (.aload_n 0, 1) := by decide +kernel
theorem dX8_readLine_127 : decode cX8_readLine 127 = .ok (.invokevirtual 109, 3) := by decide +kernel
theorem dX8_readLine_130 : decode cX8_readLine 130 = .ok (.return_, 1) := by decide +kernel
theorem mkX8_readLine : mokV qX8_readLine 0 := ⟨⟨⟨⟨by decide, by decide, by decide +kernel⟩, by decide⟩, gd_mem 59 (by decide +kernel) (by decide +kernel), gd_mem 1025 (by decide +kernel) (by decide +kernel)⟩, gd_mem 1024 (by decide +kernel) (by decide +kernel), gd_mem 22 (by decide +kernel) (by decide +kernel)⟩
abbrev qX8_lodger : mMI := (yX8_lodger, cX8_lodger, 3, (some .int), 4)
theorem dX8_lodger_0 : decode cX8_lodger 0 = .ok (.aload_n 0, 1) := by decide +kernel
theorem dX8_lodger_1 : decode cX8_lodger 1 = .ok (.iload_n 1, 1) := by decide +kernel
theorem dX8_lodger_2 : decode cX8_lodger 2 = .ok (.invokevirtual 176, 3) := by decide +kernel
theorem dX8_lodger_5 : decode cX8_lodger 5 = .ok (.ifCond .ne 5, 3) := by decide +kernel
theorem dX8_lodger_8 : decode cX8_lodger 8 = .ok (.iconst (-1), 1) := by decide +kernel
theorem dX8_lodger_9 : decode cX8_lodger 9 = .ok (.ireturn, 1) := by decide +kernel
theorem dX8_lodger_10 : decode cX8_lodger 10 = .ok (.iload_n 2, 1) := by decide +kernel
theorem dX8_lodger_11 : decode cX8_lodger 11 = .ok (.tableswitch 73 0 5 #[37, 44, 44, 44, 60, 67], 37) := by decide +kernel
theorem dX8_lodger_48 : decode cX8_lodger 48 = .ok (.aload_n 0, 1) := by decide +kernel
theorem dX8_lodger_49 : decode cX8_lodger 49 = .ok (.getfield 16, 3) := by decide +kernel
theorem dX8_lodger_52 : decode cX8_lodger 52 = .ok (.iload_n 1, 1) := by decide +kernel
theorem dX8_lodger_53 : decode cX8_lodger 53 = .ok (.iaload, 1) := by decide +kernel
theorem dX8_lodger_54 : decode cX8_lodger 54 = .ok (.ireturn, 1) := by decide +kernel
theorem dX8_lodger_55 : decode cX8_lodger 55 = .ok (.aload_n 0, 1) := by decide +kernel
theorem dX8_lodger_56 : decode cX8_lodger 56 = .ok (.getfield 7, 3) := by decide +kernel
theorem dX8_lodger_59 : decode cX8_lodger 59 = .ok (.bipush 20, 2) := by decide +kernel
theorem dX8_lodger_61 : decode cX8_lodger 61 = .ok (.iconst 3, 1) := by decide +kernel
theorem dX8_lodger_62 : decode cX8_lodger 62 = .ok (.iload_n 1, 1) := by decide +kernel
theorem dX8_lodger_63 : decode cX8_lodger 63 = .ok (.imul, 1) := by decide +kernel
theorem dX8_lodger_64 : decode cX8_lodger 64 = .ok (.iadd, 1) := by decide +kernel
theorem dX8_lodger_65 : decode cX8_lodger 65 = .ok (.iload_n 2, 1) := by decide +kernel
theorem dX8_lodger_66 : decode cX8_lodger 66 = .ok (.iadd, 1) := by decide +kernel
theorem dX8_lodger_67 : decode cX8_lodger 67 = .ok (.iconst 1, 1) := by decide +kernel
theorem dX8_lodger_68 : decode cX8_lodger 68 = .ok (.isub, 1) := by decide +kernel
theorem dX8_lodger_69 : decode cX8_lodger 69 = .ok (.iaload, 1) := by decide +kernel
theorem dX8_lodger_70 : decode cX8_lodger 70 = .ok (.ireturn, 1) := by decide +kernel
theorem dX8_lodger_71 : decode cX8_lodger 71 = .ok (.aload_n 0, 1) := by decide +kernel
theorem dX8_lodger_72 : decode cX8_lodger 72 = .ok (.iconst 0, 1) := by decide +kernel
theorem dX8_lodger_73 : decode cX8_lodger 73 = .ok (.iload_n 1, 1) := by decide +kernel
theorem dX8_lodger_74 : decode cX8_lodger 74 = .ok (.invokevirtual 179, 3) := by decide +kernel
theorem dX8_lodger_77 : decode cX8_lodger 77 = .ok (.ireturn, 1) := by decide +kernel
theorem dX8_lodger_78 : decode cX8_lodger 78 = .ok (.aload_n 0, 1) := by decide +kernel
theorem dX8_lodger_79 : decode cX8_lodger 79 = .ok (.iload_n 1, 1) := by decide +kernel
theorem dX8_lodger_80 : decode cX8_lodger 80 = .ok (.invokevirtual 182, 3) := by decide +kernel
theorem dX8_lodger_83 : decode cX8_lodger 83 = .ok (.ireturn, 1) := by decide +kernel
theorem dX8_lodger_84 : decode cX8_lodger 84 = .ok (.iconst (-1), 1) := by decide +kernel
theorem dX8_lodger_85 : decode cX8_lodger 85 = .ok (.ireturn, 1) := by decide +kernel
theorem mkX8_lodger : mokV qX8_lodger 2 := ⟨⟨⟨⟨by decide, by decide, by decide +kernel⟩, by decide⟩, gd_mem 59 (by decide +kernel) (by decide +kernel), gd_mem 1070 (by decide +kernel) (by decide +kernel)⟩, gd_mem 1068 (by decide +kernel) (by decide +kernel), gd_mem 1069 (by decide +kernel) (by decide +kernel)⟩
abbrev qX8_hasClimb : mMI := (yX8_hasClimb, cX8_hasClimb, 3, (some .boolean), 4)
theorem dX8_hasClimb_0 : decode cX8_hasClimb 0 = .ok (.aload_n 0, 1) := by decide +kernel
theorem dX8_hasClimb_1 : decode cX8_hasClimb 1 = .ok (.iload_n 1, 1) := by decide +kernel
theorem dX8_hasClimb_2 : decode cX8_hasClimb 2 = .ok (.iload_n 2, 1) := by decide +kernel
theorem dX8_hasClimb_3 : decode cX8_hasClimb 3 = .ok (.invokevirtual 197, 3) := by decide +kernel
theorem dX8_hasClimb_6 : decode cX8_hasClimb 6 = .ok (.aload_n 0, 1) := by decide +kernel
theorem dX8_hasClimb_7 : decode cX8_hasClimb 7 = .ok (.getfield 37, 3) := by decide +kernel
theorem dX8_hasClimb_10 : decode cX8_hasClimb 10 = .ok (.iconst 0, 1) := by decide +kernel
theorem dX8_hasClimb_11 : decode cX8_hasClimb 11 = .ok (.iaload, 1) := by decide +kernel
theorem dX8_hasClimb_12 : decode cX8_hasClimb 12 = .ok (.bipush 100, 2) := by decide +kernel
theorem dX8_hasClimb_14 : decode cX8_hasClimb 14 = .ok (.if_icmp .ge 7, 3) := by decide +kernel
theorem dX8_hasClimb_17 : decode cX8_hasClimb 17 = .ok (.iconst 1, 1) := by decide +kernel
theorem dX8_hasClimb_18 : decode cX8_hasClimb 18 = .ok (.goto 4, 3) := by decide +kernel
theorem dX8_hasClimb_21 : decode cX8_hasClimb 21 = .ok (.iconst 0, 1) := by decide +kernel
theorem dX8_hasClimb_22 : decode cX8_hasClimb 22 = .ok (.ireturn, 1) := by decide +kernel
theorem mkX8_hasClimb : mokV qX8_hasClimb 2 := ⟨⟨⟨⟨by decide, by decide, by decide +kernel⟩, by decide⟩, gd_mem 59 (by decide +kernel) (by decide +kernel), gd_mem 1160 (by decide +kernel) (by decide +kernel)⟩, gd_mem 1159 (by decide +kernel) (by decide +kernel), gd_mem 39 (by decide +kernel) (by decide +kernel)⟩
abbrev qX8_climbOn : mMI := (yX8_climbOn, cX8_climbOn, 7, (some .int), 4)
theorem dX8_climbOn_0 : decode cX8_climbOn 0 = .ok (.aload_n 0, 1) := by decide +kernel
theorem dX8_climbOn_1 : decode cX8_climbOn 1 = .ok (.iload_n 1, 1) := by decide +kernel
theorem dX8_climbOn_2 : decode cX8_climbOn 2 = .ok (.iload_n 2, 1) := by decide +kernel
theorem dX8_climbOn_3 : decode cX8_climbOn 3 = .ok (.invokevirtual 197, 3) := by decide +kernel
theorem dX8_climbOn_6 : decode cX8_climbOn 6 = .ok (.aload_n 0, 1) := by decide +kernel
theorem dX8_climbOn_7 : decode cX8_climbOn 7 = .ok (.getfield 37, 3) := by decide +kernel
theorem dX8_climbOn_10 : decode cX8_climbOn 10 = .ok (.iconst 0, 1) := by decide +kernel
theorem dX8_climbOn_11 : decode cX8_climbOn 11 = .ok (.iaload, 1) := by decide +kernel
theorem dX8_climbOn_12 : decode cX8_climbOn 12 = .ok (.bipush 100, 2) := by decide +kernel
theorem dX8_climbOn_14 : decode cX8_climbOn 14 = .ok (.if_icmp .lt 6, 3) := by decide +kernel
theorem dX8_climbOn_17 : decode cX8_climbOn 17 = .ok (.bipush (-4), 2) := by decide +kernel
theorem dX8_climbOn_19 : decode cX8_climbOn 19 = .ok (.ireturn, 1) := by decide +kernel
theorem dX8_climbOn_20 : decode cX8_climbOn 20 = .ok (.iconst 0, 1) := by decide +kernel
theorem dX8_climbOn_21 : decode cX8_climbOn 21 = .ok (.istore_n 3, 1) := by decide +kernel
theorem dX8_climbOn_22 : decode cX8_climbOn 22 = .ok (.aload_n 0, 1) := by decide +kernel
theorem dX8_climbOn_23 : decode cX8_climbOn 23 = .ok (.getfield 37, 3) := by decide +kernel
theorem dX8_climbOn_26 : decode cX8_climbOn 26 = .ok (.iconst 0, 1) := by decide +kernel
theorem dX8_climbOn_27 : decode cX8_climbOn 27 = .ok (.iaload, 1) := by decide +kernel
theorem dX8_climbOn_28 : decode cX8_climbOn 28 = .ok (.istore 4, 2) := by decide +kernel
theorem dX8_climbOn_30 : decode cX8_climbOn 30 = .ok (.iconst 0, 1) := by decide +kernel
theorem dX8_climbOn_31 : decode cX8_climbOn 31 = .ok (.istore 5, 2) := by decide +kernel
theorem dX8_climbOn_33 : decode cX8_climbOn 33 = .ok (.iload 5, 2) := by decide +kernel
theorem dX8_climbOn_35 : decode cX8_climbOn 35 = .ok (.iload 4, 2) := by decide +kernel
theorem dX8_climbOn_37 : decode cX8_climbOn 37 = .ok (.if_icmp .ge 64, 3) := by decide +kernel
theorem dX8_climbOn_40 : decode cX8_climbOn 40 = .ok (.iload_n 3, 1) := by decide +kernel
theorem dX8_climbOn_41 : decode cX8_climbOn 41 = .ok (.iconst 1, 1) := by decide +kernel
theorem dX8_climbOn_42 : decode cX8_climbOn 42 = .ok (.iadd, 1) := by decide +kernel
theorem dX8_climbOn_43 : decode cX8_climbOn 43 = .ok (.istore 6, 2) := by decide +kernel
theorem dX8_climbOn_45 : decode cX8_climbOn 45 = .ok (.aload_n 0, 1) := by decide +kernel
theorem dX8_climbOn_46 : decode cX8_climbOn 46 = .ok (.iload_n 1, 1) := by decide +kernel
theorem dX8_climbOn_47 : decode cX8_climbOn 47 = .ok (.iload_n 2, 1) := by decide +kernel
theorem dX8_climbOn_48 : decode cX8_climbOn 48 = .ok (.iload 6, 2) := by decide +kernel
theorem dX8_climbOn_50 : decode cX8_climbOn 50 = .ok (.iconst 1, 1) := by decide +kernel
theorem dX8_climbOn_51 : decode cX8_climbOn 51 = .ok (.isub, 1) := by decide +kernel
theorem dX8_climbOn_52 : decode cX8_climbOn 52 = .ok (.invokevirtual 168, 3) := by decide +kernel
theorem dX8_climbOn_55 : decode cX8_climbOn 55 = .ok (.ifCond .eq 20, 3) := by decide +kernel
theorem dX8_climbOn_58 : decode cX8_climbOn 58 = .ok (.aload_n 0, 1) := by decide +kernel
theorem dX8_climbOn_59 : decode cX8_climbOn 59 = .ok (.getfield 37, 3) := by decide +kernel
theorem dX8_climbOn_62 : decode cX8_climbOn 62 = .ok (.iload 6, 2) := by decide +kernel
theorem dX8_climbOn_64 : decode cX8_climbOn 64 = .ok (.iaload, 1) := by decide +kernel
theorem dX8_climbOn_65 : decode cX8_climbOn 65 = .ok (.iload 4, 2) := by decide +kernel
theorem dX8_climbOn_67 : decode cX8_climbOn 67 = .ok (.iload 5, 2) := by decide +kernel
theorem dX8_climbOn_69 : decode cX8_climbOn 69 = .ok (.isub, 1) := by decide +kernel
theorem dX8_climbOn_70 : decode cX8_climbOn 70 = .ok (.iconst 1, 1) := by decide +kernel
theorem dX8_climbOn_71 : decode cX8_climbOn 71 = .ok (.isub, 1) := by decide +kernel
theorem dX8_climbOn_72 : decode cX8_climbOn 72 = .ok (.if_icmp .eq 9, 3) := by decide +kernel
theorem dX8_climbOn_75 : decode cX8_climbOn 75 = .ok (.iinc 6 1, 3) := by decide +kernel
theorem dX8_climbOn_78 : decode cX8_climbOn 78 = .ok (.goto (-33), 3) := by decide +kernel
theorem dX8_climbOn_81 : decode cX8_climbOn 81 = .ok (.aload_n 0, 1) := by decide +kernel
theorem dX8_climbOn_82 : decode cX8_climbOn 82 = .ok (.getfield 40, 3) := by decide +kernel
theorem dX8_climbOn_85 : decode cX8_climbOn 85 = .ok (.iload 5, 2) := by decide +kernel
theorem dX8_climbOn_87 : decode cX8_climbOn 87 = .ok (.iload 6, 2) := by decide +kernel
theorem dX8_climbOn_89 : decode cX8_climbOn 89 = .ok (.iconst 1, 1) := by decide +kernel
theorem dX8_climbOn_90 : decode cX8_climbOn 90 = .ok (.isub, 1) := by decide +kernel
theorem dX8_climbOn_91 : decode cX8_climbOn 91 = .ok (.iastore, 1) := by decide +kernel
theorem dX8_climbOn_92 : decode cX8_climbOn 92 = .ok (.iload 6, 2) := by decide +kernel
theorem dX8_climbOn_94 : decode cX8_climbOn 94 = .ok (.istore_n 3, 1) := by decide +kernel
theorem dX8_climbOn_95 : decode cX8_climbOn 95 = .ok (.iinc 5 1, 3) := by decide +kernel
theorem dX8_climbOn_98 : decode cX8_climbOn 98 = .ok (.goto (-65), 3) := by decide +kernel
theorem dX8_climbOn_101 : decode cX8_climbOn 101 = .ok (.iload 4, 2) := by decide +kernel
theorem dX8_climbOn_103 : decode cX8_climbOn 103 = .ok (.ireturn, 1) := by decide +kernel
theorem mkX8_climbOn : mokV qX8_climbOn 2 := ⟨⟨⟨⟨by decide, by decide, by decide +kernel⟩, by decide⟩, gd_mem 59 (by decide +kernel) (by decide +kernel), gd_mem 1140 (by decide +kernel) (by decide +kernel)⟩, gd_mem 1139 (by decide +kernel) (by decide +kernel), gd_mem 36 (by decide +kernel) (by decide +kernel)⟩
abbrev qX8_text : mMI := (yX8_text, cX8_text, 3, (some .int), 5)
theorem dX8_text_0 : decode cX8_text 0 = .ok (.aload_n 0, 1) := by decide +kernel
theorem dX8_text_1 : decode cX8_text 1 = .ok (.iconst 0, 1) := by decide +kernel
theorem dX8_text_2 : decode cX8_text 2 = .ok (.putfield 75, 3) := by decide +kernel
theorem dX8_text_5 : decode cX8_text 5 = .ok (.aload_n 0, 1) := by decide +kernel
theorem dX8_text_6 : decode cX8_text 6 = .ok (.iconst 0, 1) := by decide +kernel
theorem dX8_text_7 : decode cX8_text 7 = .ok (.putfield 87, 3) := by decide +kernel
theorem dX8_text_10 : decode cX8_text 10 = .ok (.aload_n 0, 1) := by decide +kernel
theorem dX8_text_11 : decode cX8_text 11 = .ok (.iconst 0, 1) := by decide +kernel
theorem dX8_text_12 : decode cX8_text 12 = .ok (.putfield 112, 3) := by decide +kernel
theorem dX8_text_15 : decode cX8_text 15 = .ok (.aload_n 0, 1) := by decide +kernel
theorem dX8_text_16 : decode cX8_text 16 = .ok (.iconst 0, 1) := by decide +kernel
theorem dX8_text_17 : decode cX8_text 17 = .ok (.putfield 119, 3) := by decide +kernel
theorem dX8_text_20 : decode cX8_text 20 = .ok (.aload_n 0, 1) := by decide +kernel
theorem dX8_text_21 : decode cX8_text 21 = .ok (.iconst 0, 1) := by decide +kernel
theorem dX8_text_22 : decode cX8_text 22 = .ok (.putfield 131, 3) := by decide +kernel
theorem dX8_text_25 : decode cX8_text 25 = .ok (.aload_n 0, 1) := by decide +kernel
theorem dX8_text_26 : decode cX8_text 26 = .ok (.iconst (-1), 1) := by decide +kernel
theorem dX8_text_27 : decode cX8_text 27 = .ok (.putfield 122, 3) := by decide +kernel
theorem dX8_text_30 : decode cX8_text 30 = .ok (.iconst 0, 1) := by decide +kernel
theorem dX8_text_31 : decode cX8_text 31 = .ok (.istore_n 1, 1) := by decide +kernel
theorem dX8_text_32 : decode cX8_text 32 = .ok (.iconst 0, 1) := by decide +kernel
theorem dX8_text_33 : decode cX8_text 33 = .ok (.istore_n 2, 1) := by decide +kernel
theorem dX8_text_34 : decode cX8_text 34 = .ok (.iload_n 2, 1) := by decide +kernel
theorem dX8_text_35 : decode cX8_text 35 = .ok (.bipush 35, 2) := by decide +kernel
theorem dX8_text_37 : decode cX8_text 37 = .ok (.if_icmp .ge 16, 3) := by decide +kernel
theorem dX8_text_40 : decode cX8_text 40 = .ok (.aload_n 0, 1) := by decide +kernel
theorem dX8_text_41 : decode cX8_text 41 = .ok (.getfield 19, 3) := by decide +kernel
theorem dX8_text_44 : decode cX8_text 44 = .ok (.iload_n 2, 1) := by decide +kernel
theorem dX8_text_45 : decode cX8_text 45 = .ok (.iconst 0, 1) := by decide +kernel
theorem dX8_text_46 : decode cX8_text 46 = .ok (.iastore, 1) := by decide +kernel
theorem dX8_text_47 : decode cX8_text 47 = .ok (.iinc 2 1, 3) := by decide +kernel
theorem dX8_text_50 : decode cX8_text 50 = .ok (.goto (-16), 3) := by decide +kernel
theorem dX8_text_53 : decode cX8_text 53 = .ok (.aload_n 0, 1) := by decide +kernel
theorem dX8_text_54 : decode cX8_text 54 = .ok (.invokevirtual 109, 3) := by decide +kernel
theorem dX8_text_57 : decode cX8_text 57 = .ok (.aload_n 0, 1) := by decide +kernel
theorem dX8_text_58 : decode cX8_text 58 = .ok (.getfield 75, 3) := by decide +kernel
theorem dX8_text_61 : decode cX8_text 61 = .ok (.ifCond .ne 20, 3) := by decide +kernel
theorem dX8_text_64 : decode cX8_text 64 = .ok (.aload_n 0, 1) := by decide +kernel
theorem dX8_text_65 : decode cX8_text 65 = .ok (.getfield 84, 3) := by decide +kernel
theorem dX8_text_68 : decode cX8_text 68 = .ok (.ifCond .eq 13, 3) := by decide +kernel
theorem dX8_text_71 : decode cX8_text 71 = .ok (.aload_n 0, 1) := by decide +kernel
theorem dX8_text_72 : decode cX8_text 72 = .ok (.invokevirtual 137, 3) := by decide +kernel
theorem dX8_text_75 : decode cX8_text 75 = .ok (.iinc 1 1, 3) := by decide +kernel
theorem dX8_text_78 : decode cX8_text 78 = .ok (.goto (-21), 3) := by decide +kernel
theorem dX8_text_81 : decode cX8_text 81 = .ok (.aload_n 0, 1) := by decide +kernel
theorem dX8_text_82 : decode cX8_text 82 = .ok (.getfield 75, 3) := by decide +kernel
theorem dX8_text_85 : decode cX8_text 85 = .ok (.ifCond .ne 20, 3) := by decide +kernel
theorem dX8_text_88 : decode cX8_text 88 = .ok (.aload_n 0, 1) := by decide +kernel
theorem dX8_text_89 : decode cX8_text 89 = .ok (.getfield 122, 3) := by decide +kernel
theorem dX8_text_92 : decode cX8_text 92 = .ok (.aload_n 0, 1) := by decide +kernel
theorem dX8_text_93 : decode cX8_text 93 = .ok (.getfield 112, 3) := by decide +kernel
theorem dX8_text_96 : decode cX8_text 96 = .ok (.if_icmp .lt 9, 3) := by decide +kernel
theorem dX8_text_99 : decode cX8_text 99 = .ok (.aload_n 0, 1) := by decide +kernel
theorem dX8_text_100 : decode cX8_text 100 = .ok (.bipush 6, 2) := by decide +kernel
theorem dX8_text_102 : decode cX8_text 102 = .ok (.invokevirtual 105, 3) := by decide +kernel
theorem dX8_text_105 : decode cX8_text 105 = .ok (.aload_n 0, 1) := by decide +kernel
theorem dX8_text_106 : decode cX8_text 106 = .ok (.iconst 0, 1) := by decide +kernel
theorem dX8_text_107 : decode cX8_text 107 = .ok (.putfield 71, 3) := by decide +kernel
theorem dX8_text_110 : decode cX8_text 110 = .ok (.aload_n 0, 1) := by decide +kernel
theorem dX8_text_111 : decode cX8_text 111 = .ok (.aload_n 0, 1) := by decide +kernel
theorem dX8_text_112 : decode cX8_text 112 = .ok (.getfield 75, 3) := by decide +kernel
theorem dX8_text_115 : decode cX8_text 115 = .ok (.putfield 140, 3) := by decide +kernel
theorem dX8_text_118 : decode cX8_text 118 = .ok (.aload_n 0, 1) := by decide +kernel
theorem dX8_text_119 : decode cX8_text 119 = .ok (.getfield 75, 3) := by decide +kernel
theorem dX8_text_122 : decode cX8_text 122 = .ok (.ifCond .le 11, 3) := by decide +kernel
theorem dX8_text_125 : decode cX8_text 125 = .ok (.bipush (-10), 2) := by decide +kernel
theorem dX8_text_127 : decode cX8_text 127 = .ok (.aload_n 0, 1) := by decide +kernel
theorem dX8_text_128 : decode cX8_text 128 = .ok (.getfield 81, 3) := by decide +kernel
theorem dX8_text_131 : decode cX8_text 131 = .ok (.isub, 1) := by decide +kernel
theorem dX8_text_132 : decode cX8_text 132 = .ok (.ireturn, 1) := by decide +kernel
theorem dX8_text_133 : decode cX8_text 133 = .ok (.iconst 0, 1) := by decide +kernel
theorem dX8_text_134 : decode cX8_text 134 = .ok (.istore_n 2, 1) := by decide +kernel
theorem dX8_text_135 : decode cX8_text 135 = .ok (.iload_n 2, 1) := by decide +kernel
theorem dX8_text_136 : decode cX8_text 136 = .ok (.bipush 35, 2) := by decide +kernel
theorem dX8_text_138 : decode cX8_text 138 = .ok (.if_icmp .ge 55, 3) := by decide +kernel
theorem dX8_text_141 : decode cX8_text 141 = .ok (.aload_n 0, 1) := by decide +kernel
theorem dX8_text_142 : decode cX8_text 142 = .ok (.getfield 7, 3) := by decide +kernel
theorem dX8_text_145 : decode cX8_text 145 = .ok (.iload_n 2, 1) := by decide +kernel
theorem dX8_text_146 : decode cX8_text 146 = .ok (.aload_n 0, 1) := by decide +kernel
theorem dX8_text_147 : decode cX8_text 147 = .ok (.getfield 19, 3) := by decide +kernel
theorem dX8_text_150 : decode cX8_text 150 = .ok (.iload_n 2, 1) := by decide +kernel
theorem dX8_text_151 : decode cX8_text 151 = .ok (.iaload, 1) := by decide +kernel
theorem dX8_text_152 : decode cX8_text 152 = .ok (.iastore, 1) := by decide +kernel
theorem dX8_text_153 : decode cX8_text 153 = .ok (.aload_n 0, 1) := by decide +kernel
theorem dX8_text_154 : decode cX8_text 154 = .ok (.getfield 13, 3) := by decide +kernel
theorem dX8_text_157 : decode cX8_text 157 = .ok (.iload_n 2, 1) := by decide +kernel
theorem dX8_text_158 : decode cX8_text 158 = .ok (.bipush 10, 2) := by decide +kernel
theorem dX8_text_160 : decode cX8_text 160 = .ok (.irem, 1) := by decide +kernel
theorem dX8_text_161 : decode cX8_text 161 = .ok (.aload_n 0, 1) := by decide +kernel
theorem dX8_text_162 : decode cX8_text 162 = .ok (.getfield 22, 3) := by decide +kernel
theorem dX8_text_165 : decode cX8_text 165 = .ok (.iload_n 2, 1) := by decide +kernel
theorem dX8_text_166 : decode cX8_text 166 = .ok (.bipush 10, 2) := by decide +kernel
theorem dX8_text_168 : decode cX8_text 168 = .ok (.irem, 1) := by decide +kernel
theorem dX8_text_169 : decode cX8_text 169 = .ok (.iaload, 1) := by decide +kernel
theorem dX8_text_170 : decode cX8_text 170 = .ok (.iastore, 1) := by decide +kernel
theorem dX8_text_171 : decode cX8_text 171 = .ok (.aload_n 0, 1) := by decide +kernel
theorem dX8_text_172 : decode cX8_text 172 = .ok (.getfield 16, 3) := by decide +kernel
theorem dX8_text_175 : decode cX8_text 175 = .ok (.iload_n 2, 1) := by decide +kernel
theorem dX8_text_176 : decode cX8_text 176 = .ok (.iconst 4, 1) := by decide +kernel
theorem dX8_text_177 : decode cX8_text 177 = .ok (.irem, 1) := by decide +kernel
theorem dX8_text_178 : decode cX8_text 178 = .ok (.aload_n 0, 1) := by decide +kernel
theorem dX8_text_179 : decode cX8_text 179 = .ok (.getfield 25, 3) := by decide +kernel
theorem dX8_text_182 : decode cX8_text 182 = .ok (.iload_n 2, 1) := by decide +kernel
theorem dX8_text_183 : decode cX8_text 183 = .ok (.iconst 4, 1) := by decide +kernel
theorem dX8_text_184 : decode cX8_text 184 = .ok (.irem, 1) := by decide +kernel
theorem dX8_text_185 : decode cX8_text 185 = .ok (.iaload, 1) := by decide +kernel
theorem dX8_text_186 : decode cX8_text 186 = .ok (.iastore, 1) := by decide +kernel
theorem dX8_text_187 : decode cX8_text 187 = .ok (.iinc 2 1, 3) := by decide +kernel
theorem dX8_text_190 : decode cX8_text 190 = .ok (.goto (-55), 3) := by decide +kernel
theorem dX8_text_193 : decode cX8_text 193 = .ok (.aload_n 0, 1) := by decide +kernel
theorem dX8_text_194 : decode cX8_text 194 = .ok (.aload_n 0, 1) := by decide +kernel
theorem dX8_text_195 : decode cX8_text 195 = .ok (.getfield 112, 3) := by decide +kernel
theorem dX8_text_198 : decode cX8_text 198 = .ok (.putfield 143, 3) := by decide +kernel
theorem dX8_text_201 : decode cX8_text 201 = .ok (.aload_n 0, 1) := by decide +kernel
theorem dX8_text_202 : decode cX8_text 202 = .ok (.aload_n 0, 1) := by decide +kernel
theorem dX8_text_203 : decode cX8_text 203 = .ok (.getfield 119, 3) := by decide +kernel
theorem dX8_text_206 : decode cX8_text 206 = .ok (.putfield 146, 3) := by decide +kernel
theorem dX8_text_209 : decode cX8_text 209 = .ok (.aload_n 0, 1) := by decide +kernel
theorem dX8_text_210 : decode cX8_text 210 = .ok (.iconst 0, 1) := by decide +kernel
theorem dX8_text_211 : decode cX8_text 211 = .ok (.putfield 149, 3) := by decide +kernel
theorem dX8_text_214 : decode cX8_text 214 = .ok (.aload_n 0, 1) := by decide +kernel
theorem dX8_text_215 : decode cX8_text 215 = .ok (.getfield 52, 3) := by decide +kernel
theorem dX8_text_218 : decode cX8_text 218 = .ok (.iconst 0, 1) := by decide +kernel
theorem dX8_text_219 : decode cX8_text 219 = .ok (.iconst 0, 1) := by decide +kernel
theorem dX8_text_220 : decode cX8_text 220 = .ok (.bastore, 1) := by decide +kernel
theorem dX8_text_221 : decode cX8_text 221 = .ok (.aload_n 0, 1) := by decide +kernel
theorem dX8_text_222 : decode cX8_text 222 = .ok (.getfield 52, 3) := by decide +kernel
theorem dX8_text_225 : decode cX8_text 225 = .ok (.iconst 1, 1) := by decide +kernel
theorem dX8_text_226 : decode cX8_text 226 = .ok (.iconst 0, 1) := by decide +kernel
theorem dX8_text_227 : decode cX8_text 227 = .ok (.bastore, 1) := by decide +kernel
theorem dX8_text_228 : decode cX8_text 228 = .ok (.iload_n 1, 1) := by decide +kernel
theorem dX8_text_229 : decode cX8_text 229 = .ok (.ireturn, 1) := by decide +kernel
theorem mkX8_text : mokV qX8_text 0 := ⟨⟨⟨⟨by decide, by decide, by decide +kernel⟩, by decide⟩, gd_mem 59 (by decide +kernel) (by decide +kernel), gd_mem 1005 (by decide +kernel) (by decide +kernel)⟩, gd_mem 1003 (by decide +kernel) (by decide +kernel), gd_mem 1004 (by decide +kernel) (by decide +kernel)⟩
abbrev qX8_climb : mMI := (yX8_climb, cX8_climb, 4, (some .int), 5)
theorem dX8_climb_0 : decode cX8_climb 0 = .ok (.aload_n 0, 1) := by decide +kernel
theorem dX8_climb_1 : decode cX8_climb 1 = .ok (.iload_n 1, 1) := by decide +kernel
theorem dX8_climb_2 : decode cX8_climb 2 = .ok (.invokevirtual 176, 3) := by decide +kernel
theorem dX8_climb_5 : decode cX8_climb 5 = .ok (.ifCond .eq 21, 3) := by decide +kernel
theorem dX8_climb_8 : decode cX8_climb 8 = .ok (.iload_n 2, 1) := by decide +kernel
theorem dX8_climb_9 : decode cX8_climb 9 = .ok (.ifCond .eq 19, 3) := by decide +kernel
theorem dX8_climb_12 : decode cX8_climb 12 = .ok (.iload_n 2, 1) := by decide +kernel
theorem dX8_climb_13 : decode cX8_climb 13 = .ok (.i2l, 1) := by decide +kernel
theorem dX8_climb_14 : decode cX8_climb 14 = .ok (.ldc2_w 201, 3) := by decide +kernel
theorem dX8_climb_17 : decode cX8_climb 17 = .ok (.ldc2_w 203, 3) := by decide +kernel
theorem dX8_climb_20 : decode cX8_climb 20 = .ok (.invokestatic 67, 3) := by decide +kernel
theorem dX8_climb_23 : decode cX8_climb 23 = .ok (.ifCond .ne 5, 3) := by decide +kernel
theorem dX8_climb_26 : decode cX8_climb 26 = .ok (.iconst (-1), 1) := by decide +kernel
theorem dX8_climb_27 : decode cX8_climb 27 = .ok (.ireturn, 1) := by decide +kernel
theorem dX8_climb_28 : decode cX8_climb 28 = .ok (.aload_n 0, 1) := by decide +kernel
theorem dX8_climb_29 : decode cX8_climb 29 = .ok (.iconst 0, 1) := by decide +kernel
theorem dX8_climb_30 : decode cX8_climb 30 = .ok (.iload_n 1, 1) := by decide +kernel
theorem dX8_climb_31 : decode cX8_climb 31 = .ok (.invokevirtual 205, 3) := by decide +kernel
theorem dX8_climb_34 : decode cX8_climb 34 = .ok (.istore_n 3, 1) := by decide +kernel
theorem dX8_climb_35 : decode cX8_climb 35 = .ok (.iload_n 2, 1) := by decide +kernel
theorem dX8_climb_36 : decode cX8_climb 36 = .ok (.ifCond .ne 7, 3) := by decide +kernel
theorem dX8_climb_39 : decode cX8_climb 39 = .ok (.iload_n 3, 1) := by decide +kernel
theorem dX8_climb_40 : decode cX8_climb 40 = .ok (.goto 25, 3) := by decide +kernel
theorem dX8_climb_43 : decode cX8_climb 43 = .ok (.iload_n 2, 1) := by decide +kernel
theorem dX8_climb_44 : decode cX8_climb 44 = .ok (.bipush 10, 2) := by decide +kernel
theorem dX8_climb_46 : decode cX8_climb 46 = .ok (.isub, 1) := by decide +kernel
theorem dX8_climb_47 : decode cX8_climb 47 = .ok (.iload_n 3, 1) := by decide +kernel
theorem dX8_climb_48 : decode cX8_climb 48 = .ok (.if_icmp .ge 15, 3) := by decide +kernel
theorem dX8_climb_51 : decode cX8_climb 51 = .ok (.aload_n 0, 1) := by decide +kernel
theorem dX8_climb_52 : decode cX8_climb 52 = .ok (.getfield 40, 3) := by decide +kernel
theorem dX8_climb_55 : decode cX8_climb 55 = .ok (.iload_n 2, 1) := by decide +kernel
theorem dX8_climb_56 : decode cX8_climb 56 = .ok (.bipush 10, 2) := by decide +kernel
theorem dX8_climb_58 : decode cX8_climb 58 = .ok (.isub, 1) := by decide +kernel
theorem dX8_climb_59 : decode cX8_climb 59 = .ok (.iaload, 1) := by decide +kernel
theorem dX8_climb_60 : decode cX8_climb 60 = .ok (.goto 5, 3) := by decide +kernel
theorem dX8_climb_63 : decode cX8_climb 63 = .ok (.bipush (-4), 2) := by decide +kernel
theorem dX8_climb_65 : decode cX8_climb 65 = .ok (.ireturn, 1) := by decide +kernel
theorem mkX8_climb : mokV qX8_climb 2 := ⟨⟨⟨⟨by decide, by decide, by decide +kernel⟩, by decide⟩, gd_mem 59 (by decide +kernel) (by decide +kernel), gd_mem 1134 (by decide +kernel) (by decide +kernel)⟩, gd_mem 1132 (by decide +kernel) (by decide +kernel), gd_mem 1133 (by decide +kernel) (by decide +kernel)⟩
abbrev qX8_smooth : mMI := (yX8_smooth, cX8_smooth, 6, (some .int), 5)
theorem dX8_smooth_0 : decode cX8_smooth 0 = .ok (.aload_n 0, 1) := by decide +kernel
theorem dX8_smooth_1 : decode cX8_smooth 1 = .ok (.iload_n 1, 1) := by decide +kernel
theorem dX8_smooth_2 : decode cX8_smooth 2 = .ok (.invokevirtual 176, 3) := by decide +kernel
theorem dX8_smooth_5 : decode cX8_smooth 5 = .ok (.ifCond .eq 13, 3) := by decide +kernel
theorem dX8_smooth_8 : decode cX8_smooth 8 = .ok (.iload_n 2, 1) := by decide +kernel
theorem dX8_smooth_9 : decode cX8_smooth 9 = .ok (.i2l, 1) := by decide +kernel
theorem dX8_smooth_10 : decode cX8_smooth 10 = .ok (.lconst 0, 1) := by decide +kernel
theorem dX8_smooth_11 : decode cX8_smooth 11 = .ok (.lconst 1, 1) := by decide +kernel
theorem dX8_smooth_12 : decode cX8_smooth 12 = .ok (.invokestatic 67, 3) := by decide +kernel
theorem dX8_smooth_15 : decode cX8_smooth 15 = .ok (.ifCond .ne 5, 3) := by decide +kernel
theorem dX8_smooth_18 : decode cX8_smooth 18 = .ok (.iconst (-1), 1) := by decide +kernel
theorem dX8_smooth_19 : decode cX8_smooth 19 = .ok (.ireturn, 1) := by decide +kernel
theorem dX8_smooth_20 : decode cX8_smooth 20 = .ok (.bipush (-4), 2) := by decide +kernel
theorem dX8_smooth_22 : decode cX8_smooth 22 = .ok (.istore_n 3, 1) := by decide +kernel
theorem dX8_smooth_23 : decode cX8_smooth 23 = .ok (.iconst 0, 1) := by decide +kernel
theorem dX8_smooth_24 : decode cX8_smooth 24 = .ok (.istore 4, 2) := by decide +kernel
theorem dX8_smooth_26 : decode cX8_smooth 26 = .ok (.iload 4, 2) := by decide +kernel
theorem dX8_smooth_28 : decode cX8_smooth 28 = .ok (.bipush 99, 2) := by decide +kernel
theorem dX8_smooth_30 : decode cX8_smooth 30 = .ok (.if_icmp .gt 59, 3) := by decide +kernel
theorem dX8_smooth_33 : decode cX8_smooth 33 = .ok (.iload_n 3, 1) := by decide +kernel
theorem dX8_smooth_34 : decode cX8_smooth 34 = .ok (.bipush (-4), 2) := by decide +kernel
theorem dX8_smooth_36 : decode cX8_smooth 36 = .ok (.if_icmp .ne 53, 3) := by decide +kernel
theorem dX8_smooth_39 : decode cX8_smooth 39 = .ok (.aload_n 0, 1) := by decide +kernel
theorem dX8_smooth_40 : decode cX8_smooth 40 = .ok (.aload_n 0, 1) := by decide +kernel
theorem dX8_smooth_41 : decode cX8_smooth 41 = .ok (.iload 4, 2) := by decide +kernel
theorem dX8_smooth_43 : decode cX8_smooth 43 = .ok (.invokevirtual 208, 3) := by decide +kernel
theorem dX8_smooth_46 : decode cX8_smooth 46 = .ok (.putfield 155, 3) := by decide +kernel
theorem dX8_smooth_49 : decode cX8_smooth 49 = .ok (.aload_n 0, 1) := by decide +kernel
theorem dX8_smooth_50 : decode cX8_smooth 50 = .ok (.iconst 0, 1) := by decide +kernel
theorem dX8_smooth_51 : decode cX8_smooth 51 = .ok (.iload_n 1, 1) := by decide +kernel
theorem dX8_smooth_52 : decode cX8_smooth 52 = .ok (.invokevirtual 211, 3) := by decide +kernel
theorem dX8_smooth_55 : decode cX8_smooth 55 = .ok (.istore 5, 2) := by decide +kernel
theorem dX8_smooth_57 : decode cX8_smooth 57 = .ok (.iload 5, 2) := by decide +kernel
theorem dX8_smooth_59 : decode cX8_smooth 59 = .ok (.ifCond .eq 21, 3) := by decide +kernel
theorem dX8_smooth_62 : decode cX8_smooth 62 = .ok (.iload_n 2, 1) := by decide +kernel
theorem dX8_smooth_63 : decode cX8_smooth 63 = .ok (.ifCond .ne 8, 3) := by decide +kernel
theorem dX8_smooth_66 : decode cX8_smooth 66 = .ok (.iload 4, 2) := by decide +kernel
theorem dX8_smooth_68 : decode cX8_smooth 68 = .ok (.goto 14, 3) := by decide +kernel
theorem dX8_smooth_71 : decode cX8_smooth 71 = .ok (.aload_n 0, 1) := by decide +kernel
theorem dX8_smooth_72 : decode cX8_smooth 72 = .ok (.getfield 37, 3) := by decide +kernel
theorem dX8_smooth_75 : decode cX8_smooth 75 = .ok (.iconst 0, 1) := by decide +kernel
theorem dX8_smooth_76 : decode cX8_smooth 76 = .ok (.iaload, 1) := by decide +kernel
theorem dX8_smooth_77 : decode cX8_smooth 77 = .ok (.goto 5, 3) := by decide +kernel
theorem dX8_smooth_80 : decode cX8_smooth 80 = .ok (.bipush (-4), 2) := by decide +kernel
theorem dX8_smooth_82 : decode cX8_smooth 82 = .ok (.istore_n 3, 1) := by decide +kernel
theorem dX8_smooth_83 : decode cX8_smooth 83 = .ok (.iinc 4 1, 3) := by decide +kernel
theorem dX8_smooth_86 : decode cX8_smooth 86 = .ok (.goto (-60), 3) := by decide +kernel
theorem dX8_smooth_89 : decode cX8_smooth 89 = .ok (.aload_n 0, 1) := by decide +kernel
theorem dX8_smooth_90 : decode cX8_smooth 90 = .ok (.iconst 0, 1) := by decide +kernel
theorem dX8_smooth_91 : decode cX8_smooth 91 = .ok (.putfield 155, 3) := by decide +kernel
theorem dX8_smooth_94 : decode cX8_smooth 94 = .ok (.iload_n 3, 1) := by decide +kernel
theorem dX8_smooth_95 : decode cX8_smooth 95 = .ok (.ireturn, 1) := by decide +kernel
theorem mkX8_smooth : mokV qX8_smooth 2 := ⟨⟨⟨⟨by decide, by decide, by decide +kernel⟩, by decide⟩, gd_mem 59 (by decide +kernel) (by decide +kernel), gd_mem 1152 (by decide +kernel) (by decide +kernel)⟩, gd_mem 1150 (by decide +kernel) (by decide +kernel), gd_mem 1151 (by decide +kernel) (by decide +kernel)⟩
abbrev qX8_homesOn : mMI := (yX8_homesOn, cX8_homesOn, 4, (some .int), 5)
theorem dX8_homesOn_0 : decode cX8_homesOn 0 = .ok (.iconst 0, 1) := by decide +kernel
theorem dX8_homesOn_1 : decode cX8_homesOn 1 = .ok (.istore_n 2, 1) := by decide +kernel
theorem dX8_homesOn_2 : decode cX8_homesOn 2 = .ok (.iconst 0, 1) := by decide +kernel
theorem dX8_homesOn_3 : decode cX8_homesOn 3 = .ok (.istore_n 3, 1) := by decide +kernel
theorem dX8_homesOn_4 : decode cX8_homesOn 4 = .ok (.iload_n 3, 1) := by decide +kernel
theorem dX8_homesOn_5 : decode cX8_homesOn 5 = .ok (.aload_n 0, 1) := by decide +kernel
theorem dX8_homesOn_6 : decode cX8_homesOn 6 = .ok (.getfield 146, 3) := by decide +kernel
theorem dX8_homesOn_9 : decode cX8_homesOn 9 = .ok (.if_icmp .ge 28, 3) := by decide +kernel
theorem dX8_homesOn_12 : decode cX8_homesOn 12 = .ok (.iload_n 2, 1) := by decide +kernel
theorem dX8_homesOn_13 : decode cX8_homesOn 13 = .ok (.aload_n 0, 1) := by decide +kernel
theorem dX8_homesOn_14 : decode cX8_homesOn 14 = .ok (.iload_n 1, 1) := by decide +kernel
theorem dX8_homesOn_15 : decode cX8_homesOn 15 = .ok (.iload_n 3, 1) := by decide +kernel
theorem dX8_homesOn_16 : decode cX8_homesOn 16 = .ok (.invokevirtual 211, 3) := by decide +kernel
theorem dX8_homesOn_19 : decode cX8_homesOn 19 = .ok (.ifCond .eq 9, 3) := by decide +kernel
theorem dX8_homesOn_22 : decode cX8_homesOn 22 = .ok (.iconst 1, 1) := by decide +kernel
theorem dX8_homesOn_23 : decode cX8_homesOn 23 = .ok (.iload_n 3, 1) := by decide +kernel
theorem dX8_homesOn_24 : decode cX8_homesOn 24 = .ok (.ishl, 1) := by decide +kernel
theorem dX8_homesOn_25 : decode cX8_homesOn 25 = .ok (.goto 4, 3) := by decide +kernel
theorem dX8_homesOn_28 : decode cX8_homesOn 28 = .ok (.iconst 0, 1) := by decide +kernel
theorem dX8_homesOn_29 : decode cX8_homesOn 29 = .ok (.ior, 1) := by decide +kernel
theorem dX8_homesOn_30 : decode cX8_homesOn 30 = .ok (.istore_n 2, 1) := by decide +kernel
theorem dX8_homesOn_31 : decode cX8_homesOn 31 = .ok (.iinc 3 1, 3) := by decide +kernel
theorem dX8_homesOn_34 : decode cX8_homesOn 34 = .ok (.goto (-30), 3) := by decide +kernel
theorem dX8_homesOn_37 : decode cX8_homesOn 37 = .ok (.iload_n 2, 1) := by decide +kernel
theorem dX8_homesOn_38 : decode cX8_homesOn 38 = .ok (.ireturn, 1) := by decide +kernel
theorem mkX8_homesOn : mokV qX8_homesOn 1 := ⟨⟨⟨⟨by decide, by decide, by decide +kernel⟩, by decide⟩, gd_mem 59 (by decide +kernel) (by decide +kernel), gd_mem 1168 (by decide +kernel) (by decide +kernel)⟩, gd_mem 1167 (by decide +kernel) (by decide +kernel), gd_mem 40 (by decide +kernel) (by decide +kernel)⟩
abbrev qX8_goes : mMI := (yX8_goes, cX8_goes, 8, (some .boolean), 5)
theorem dX8_goes_0 : decode cX8_goes 0 = .ok (.aload_n 0, 1) := by decide +kernel
theorem dX8_goes_1 : decode cX8_goes 1 = .ok (.iload_n 1, 1) := by decide +kernel
theorem dX8_goes_2 : decode cX8_goes 2 = .ok (.iload_n 2, 1) := by decide +kernel
theorem dX8_goes_3 : decode cX8_goes 3 = .ok (.invokevirtual 205, 3) := by decide +kernel
theorem dX8_goes_6 : decode cX8_goes 6 = .ok (.istore_n 3, 1) := by decide +kernel
theorem dX8_goes_7 : decode cX8_goes 7 = .ok (.iconst 0, 1) := by decide +kernel
theorem dX8_goes_8 : decode cX8_goes 8 = .ok (.istore 4, 2) := by decide +kernel
theorem dX8_goes_10 : decode cX8_goes 10 = .ok (.iload 4, 2) := by decide +kernel
theorem dX8_goes_12 : decode cX8_goes 12 = .ok (.iload_n 3, 1) := by decide +kernel
theorem dX8_goes_13 : decode cX8_goes 13 = .ok (.if_icmp .ge 106, 3) := by decide +kernel
theorem dX8_goes_16 : decode cX8_goes 16 = .ok (.iload_n 1, 1) := by decide +kernel
theorem dX8_goes_17 : decode cX8_goes 17 = .ok (.iconst 2, 1) := by decide +kernel
theorem dX8_goes_18 : decode cX8_goes 18 = .ok (.aload_n 0, 1) := by decide +kernel
theorem dX8_goes_19 : decode cX8_goes 19 = .ok (.getfield 40, 3) := by decide +kernel
theorem dX8_goes_22 : decode cX8_goes 22 = .ok (.iload 4, 2) := by decide +kernel
theorem dX8_goes_24 : decode cX8_goes 24 = .ok (.iaload, 1) := by decide +kernel
theorem dX8_goes_25 : decode cX8_goes 25 = .ok (.imul, 1) := by decide +kernel
theorem dX8_goes_26 : decode cX8_goes 26 = .ok (.iadd, 1) := by decide +kernel
theorem dX8_goes_27 : decode cX8_goes 27 = .ok (.iconst 1, 1) := by decide +kernel
theorem dX8_goes_28 : decode cX8_goes 28 = .ok (.iadd, 1) := by decide +kernel
theorem dX8_goes_29 : decode cX8_goes 29 = .ok (.istore 5, 2) := by decide +kernel
theorem dX8_goes_31 : decode cX8_goes 31 = .ok (.aload_n 0, 1) := by decide +kernel
theorem dX8_goes_32 : decode cX8_goes 32 = .ok (.getfield 13, 3) := by decide +kernel
theorem dX8_goes_35 : decode cX8_goes 35 = .ok (.aload_n 0, 1) := by decide +kernel
theorem dX8_goes_36 : decode cX8_goes 36 = .ok (.getfield 40, 3) := by decide +kernel
theorem dX8_goes_39 : decode cX8_goes 39 = .ok (.iload 4, 2) := by decide +kernel
theorem dX8_goes_41 : decode cX8_goes 41 = .ok (.iaload, 1) := by decide +kernel
theorem dX8_goes_42 : decode cX8_goes 42 = .ok (.iaload, 1) := by decide +kernel
theorem dX8_goes_43 : decode cX8_goes 43 = .ok (.istore 6, 2) := by decide +kernel
theorem dX8_goes_45 : decode cX8_goes 45 = .ok (.iload 6, 2) := by decide +kernel
theorem dX8_goes_47 : decode cX8_goes 47 = .ok (.iconst 3, 1) := by decide +kernel
theorem dX8_goes_48 : decode cX8_goes 48 = .ok (.if_icmp .ne 7, 3) := by decide +kernel
theorem dX8_goes_51 : decode cX8_goes 51 = .ok (.iconst 0, 1) := by decide +kernel
theorem dX8_goes_52 : decode cX8_goes 52 = .ok (.goto 22, 3) := by decide +kernel
theorem dX8_goes_55 : decode cX8_goes 55 = .ok (.iconst 2, 1) := by decide +kernel
theorem dX8_goes_56 : decode cX8_goes 56 = .ok (.iload 6, 2) := by decide +kernel
theorem dX8_goes_58 : decode cX8_goes 58 = .ok (.isub, 1) := by decide +kernel
theorem dX8_goes_59 : decode cX8_goes 59 = .ok (.aload_n 0, 1) := by decide +kernel
theorem dX8_goes_60 : decode cX8_goes 60 = .ok (.iload_n 1, 1) := by decide +kernel
theorem dX8_goes_61 : decode cX8_goes 61 = .ok (.iload_n 2, 1) := by decide +kernel
theorem dX8_goes_62 : decode cX8_goes 62 = .ok (.invokevirtual 165, 3) := by decide +kernel
theorem dX8_goes_65 : decode cX8_goes 65 = .ok (.ifCond .eq 7, 3) := by decide +kernel
theorem dX8_goes_68 : decode cX8_goes 68 = .ok (.iconst 1, 1) := by decide +kernel
theorem dX8_goes_69 : decode cX8_goes 69 = .ok (.goto 4, 3) := by decide +kernel
theorem dX8_goes_72 : decode cX8_goes 72 = .ok (.iconst 0, 1) := by decide +kernel
theorem dX8_goes_73 : decode cX8_goes 73 = .ok (.iadd, 1) := by decide +kernel
theorem dX8_goes_74 : decode cX8_goes 74 = .ok (.istore 7, 2) := by decide +kernel
theorem dX8_goes_76 : decode cX8_goes 76 = .ok (.aload_n 0, 1) := by decide +kernel
theorem dX8_goes_77 : decode cX8_goes 77 = .ok (.getfield 7, 3) := by decide +kernel
theorem dX8_goes_80 : decode cX8_goes 80 = .ok (.iload 5, 2) := by decide +kernel
theorem dX8_goes_82 : decode cX8_goes 82 = .ok (.aload_n 0, 1) := by decide +kernel
theorem dX8_goes_83 : decode cX8_goes 83 = .ok (.getfield 7, 3) := by decide +kernel
theorem dX8_goes_86 : decode cX8_goes 86 = .ok (.iload 5, 2) := by decide +kernel
theorem dX8_goes_88 : decode cX8_goes 88 = .ok (.iaload, 1) := by decide +kernel
theorem dX8_goes_89 : decode cX8_goes 89 = .ok (.iload 7, 2) := by decide +kernel
theorem dX8_goes_91 : decode cX8_goes 91 = .ok (.iadd, 1) := by decide +kernel
theorem dX8_goes_92 : decode cX8_goes 92 = .ok (.bipush 99, 2) := by decide +kernel
theorem dX8_goes_94 : decode cX8_goes 94 = .ok (.if_icmp .le 8, 3) := by decide +kernel
theorem dX8_goes_97 : decode cX8_goes 97 = .ok (.bipush 99, 2) := by decide +kernel
theorem dX8_goes_99 : decode cX8_goes 99 = .ok (.goto 13, 3) := by decide +kernel
theorem dX8_goes_102 : decode cX8_goes 102 = .ok (.aload_n 0, 1) := by decide +kernel
theorem dX8_goes_103 : decode cX8_goes 103 = .ok (.getfield 7, 3) := by decide +kernel
theorem dX8_goes_106 : decode cX8_goes 106 = .ok (.iload 5, 2) := by decide +kernel
theorem dX8_goes_108 : decode cX8_goes 108 = .ok (.iaload, 1) := by decide +kernel
theorem dX8_goes_109 : decode cX8_goes 109 = .ok (.iload 7, 2) := by decide +kernel
theorem dX8_goes_111 : decode cX8_goes 111 = .ok (.iadd, 1) := by decide +kernel
theorem dX8_goes_112 : decode cX8_goes 112 = .ok (.iastore, 1) := by decide +kernel
theorem dX8_goes_113 : decode cX8_goes 113 = .ok (.iinc 4 1, 3) := by decide +kernel
theorem dX8_goes_116 : decode cX8_goes 116 = .ok (.goto (-106), 3) := by decide +kernel
theorem dX8_goes_119 : decode cX8_goes 119 = .ok (.iload_n 3, 1) := by decide +kernel
theorem dX8_goes_120 : decode cX8_goes 120 = .ok (.bipush (-4), 2) := by decide +kernel
theorem dX8_goes_122 : decode cX8_goes 122 = .ok (.if_icmp .eq 7, 3) := by decide +kernel
theorem dX8_goes_125 : decode cX8_goes 125 = .ok (.iconst 1, 1) := by decide +kernel
theorem dX8_goes_126 : decode cX8_goes 126 = .ok (.goto 4, 3) := by decide +kernel
theorem dX8_goes_129 : decode cX8_goes 129 = .ok (.iconst 0, 1) := by decide +kernel
theorem dX8_goes_130 : decode cX8_goes 130 = .ok (.ireturn, 1) := by decide +kernel
theorem mkX8_goes : mokV qX8_goes 2 := ⟨⟨⟨⟨by decide, by decide, by decide +kernel⟩, by decide⟩, gd_mem 59 (by decide +kernel) (by decide +kernel), gd_mem 1184 (by decide +kernel) (by decide +kernel)⟩, gd_mem 1183 (by decide +kernel) (by decide +kernel), gd_mem 42 (by decide +kernel) (by decide +kernel)⟩
abbrev qX8_gap : mMI := (yX8_gap, cX8_gap, 3, (some .int), 5)
theorem dX8_gap_0 : decode cX8_gap 0 = .ok (.aload_n 0, 1) := by decide +kernel
theorem dX8_gap_1 : decode cX8_gap 1 = .ok (.iload_n 1, 1) := by decide +kernel
theorem dX8_gap_2 : decode cX8_gap 2 = .ok (.invokevirtual 176, 3) := by decide +kernel
theorem dX8_gap_5 : decode cX8_gap 5 = .ok (.ifCond .ne 5, 3) := by decide +kernel
theorem dX8_gap_8 : decode cX8_gap 8 = .ok (.iconst (-1), 1) := by decide +kernel
theorem dX8_gap_9 : decode cX8_gap 9 = .ok (.ireturn, 1) := by decide +kernel
theorem dX8_gap_10 : decode cX8_gap 10 = .ok (.aload_n 0, 1) := by decide +kernel
theorem dX8_gap_11 : decode cX8_gap 11 = .ok (.iconst 0, 1) := by decide +kernel
theorem dX8_gap_12 : decode cX8_gap 12 = .ok (.sipush 175, 3) := by decide +kernel
theorem dX8_gap_15 : decode cX8_gap 15 = .ok (.invokevirtual 223, 3) := by decide +kernel
theorem dX8_gap_18 : decode cX8_gap 18 = .ok (.iconst 0, 1) := by decide +kernel
theorem dX8_gap_19 : decode cX8_gap 19 = .ok (.istore_n 2, 1) := by decide +kernel
theorem dX8_gap_20 : decode cX8_gap 20 = .ok (.iload_n 2, 1) := by decide +kernel
theorem dX8_gap_21 : decode cX8_gap 21 = .ok (.iconst 4, 1) := by decide +kernel
theorem dX8_gap_22 : decode cX8_gap 22 = .ok (.if_icmp .ge 33, 3) := by decide +kernel
theorem dX8_gap_25 : decode cX8_gap 25 = .ok (.aload_n 0, 1) := by decide +kernel
theorem dX8_gap_26 : decode cX8_gap 26 = .ok (.getfield 7, 3) := by decide +kernel
theorem dX8_gap_29 : decode cX8_gap 29 = .ok (.sipush 207, 3) := by decide +kernel
theorem dX8_gap_32 : decode cX8_gap 32 = .ok (.iload_n 2, 1) := by decide +kernel
theorem dX8_gap_33 : decode cX8_gap 33 = .ok (.iconst 1, 1) := by decide +kernel
theorem dX8_gap_34 : decode cX8_gap 34 = .ok (.isub, 1) := by decide +kernel
theorem dX8_gap_35 : decode cX8_gap 35 = .ok (.iastore, 1) := by decide +kernel
theorem dX8_gap_36 : decode cX8_gap 36 = .ok (.aload_n 0, 1) := by decide +kernel
theorem dX8_gap_37 : decode cX8_gap 37 = .ok (.sipush 175, 3) := by decide +kernel
theorem dX8_gap_40 : decode cX8_gap 40 = .ok (.iload_n 1, 1) := by decide +kernel
theorem dX8_gap_41 : decode cX8_gap 41 = .ok (.invokevirtual 211, 3) := by decide +kernel
theorem dX8_gap_44 : decode cX8_gap 44 = .ok (.ifCond .eq 5, 3) := by decide +kernel
theorem dX8_gap_47 : decode cX8_gap 47 = .ok (.iload_n 2, 1) := by decide +kernel
theorem dX8_gap_48 : decode cX8_gap 48 = .ok (.ireturn, 1) := by decide +kernel
theorem dX8_gap_49 : decode cX8_gap 49 = .ok (.iinc 2 1, 3) := by decide +kernel
theorem dX8_gap_52 : decode cX8_gap 52 = .ok (.goto (-32), 3) := by decide +kernel
theorem dX8_gap_55 : decode cX8_gap 55 = .ok (.bipush (-4), 2) := by decide +kernel
theorem dX8_gap_57 : decode cX8_gap 57 = .ok (.ireturn, 1) := by decide +kernel
theorem mkX8_gap : mokV qX8_gap 1 := ⟨⟨⟨⟨by decide, by decide, by decide +kernel⟩, by decide⟩, gd_mem 59 (by decide +kernel) (by decide +kernel), gd_mem 1208 (by decide +kernel) (by decide +kernel)⟩, gd_mem 1206 (by decide +kernel) (by decide +kernel), gd_mem 1207 (by decide +kernel) (by decide +kernel)⟩
abbrev qX8_legs : mMI := (yX8_legs, cX8_legs, 5, (some .int), 5)
theorem dX8_legs_0 : decode cX8_legs 0 = .ok (.aload_n 0, 1) := by decide +kernel
theorem dX8_legs_1 : decode cX8_legs 1 = .ok (.iload_n 1, 1) := by decide +kernel
theorem dX8_legs_2 : decode cX8_legs 2 = .ok (.invokevirtual 176, 3) := by decide +kernel
theorem dX8_legs_5 : decode cX8_legs 5 = .ok (.ifCond .ne 5, 3) := by decide +kernel
theorem dX8_legs_8 : decode cX8_legs 8 = .ok (.iconst (-1), 1) := by decide +kernel
theorem dX8_legs_9 : decode cX8_legs 9 = .ok (.ireturn, 1) := by decide +kernel
theorem dX8_legs_10 : decode cX8_legs 10 = .ok (.aload_n 0, 1) := by decide +kernel
theorem dX8_legs_11 : decode cX8_legs 11 = .ok (.getfield 16, 3) := by decide +kernel
theorem dX8_legs_14 : decode cX8_legs 14 = .ok (.iload_n 1, 1) := by decide +kernel
theorem dX8_legs_15 : decode cX8_legs 15 = .ok (.iaload, 1) := by decide +kernel
theorem dX8_legs_16 : decode cX8_legs 16 = .ok (.istore_n 2, 1) := by decide +kernel
theorem dX8_legs_17 : decode cX8_legs 17 = .ok (.bipush (-4), 2) := by decide +kernel
theorem dX8_legs_19 : decode cX8_legs 19 = .ok (.istore_n 3, 1) := by decide +kernel
theorem dX8_legs_20 : decode cX8_legs 20 = .ok (.iconst 4, 1) := by decide +kernel
theorem dX8_legs_21 : decode cX8_legs 21 = .ok (.istore 4, 2) := by decide +kernel
theorem dX8_legs_23 : decode cX8_legs 23 = .ok (.iload 4, 2) := by decide +kernel
theorem dX8_legs_25 : decode cX8_legs 25 = .ok (.ifCond .le 33, 3) := by decide +kernel
theorem dX8_legs_28 : decode cX8_legs 28 = .ok (.aload_n 0, 1) := by decide +kernel
theorem dX8_legs_29 : decode cX8_legs 29 = .ok (.getfield 16, 3) := by decide +kernel
theorem dX8_legs_32 : decode cX8_legs 32 = .ok (.iload_n 1, 1) := by decide +kernel
theorem dX8_legs_33 : decode cX8_legs 33 = .ok (.iload 4, 2) := by decide +kernel
theorem dX8_legs_35 : decode cX8_legs 35 = .ok (.iastore, 1) := by decide +kernel
theorem dX8_legs_36 : decode cX8_legs 36 = .ok (.aload_n 0, 1) := by decide +kernel
theorem dX8_legs_37 : decode cX8_legs 37 = .ok (.iconst 0, 1) := by decide +kernel
theorem dX8_legs_38 : decode cX8_legs 38 = .ok (.iload_n 1, 1) := by decide +kernel
theorem dX8_legs_39 : decode cX8_legs 39 = .ok (.invokevirtual 211, 3) := by decide +kernel
theorem dX8_legs_42 : decode cX8_legs 42 = .ok (.ifCond .eq 8, 3) := by decide +kernel
theorem dX8_legs_45 : decode cX8_legs 45 = .ok (.iload 4, 2) := by decide +kernel
theorem dX8_legs_47 : decode cX8_legs 47 = .ok (.goto 4, 3) := by decide +kernel
theorem dX8_legs_50 : decode cX8_legs 50 = .ok (.iload_n 3, 1) := by decide +kernel
theorem dX8_legs_51 : decode cX8_legs 51 = .ok (.istore_n 3, 1) := by decide +kernel
theorem dX8_legs_52 : decode cX8_legs 52 = .ok (.iinc 4 (-1), 3) := by decide +kernel
theorem dX8_legs_55 : decode cX8_legs 55 = .ok (.goto (-32), 3) := by decide +kernel
theorem dX8_legs_58 : decode cX8_legs 58 = .ok (.aload_n 0, 1) := by decide +kernel
theorem dX8_legs_59 : decode cX8_legs 59 = .ok (.getfield 16, 3) := by decide +kernel
theorem dX8_legs_62 : decode cX8_legs 62 = .ok (.iload_n 1, 1) := by decide +kernel
theorem dX8_legs_63 : decode cX8_legs 63 = .ok (.iload_n 2, 1) := by decide +kernel
theorem dX8_legs_64 : decode cX8_legs 64 = .ok (.iastore, 1) := by decide +kernel
theorem dX8_legs_65 : decode cX8_legs 65 = .ok (.iload_n 3, 1) := by decide +kernel
theorem dX8_legs_66 : decode cX8_legs 66 = .ok (.ireturn, 1) := by decide +kernel
theorem mkX8_legs : mokV qX8_legs 1 := ⟨⟨⟨⟨by decide, by decide, by decide +kernel⟩, by decide⟩, gd_mem 59 (by decide +kernel) (by decide +kernel), gd_mem 1212 (by decide +kernel) (by decide +kernel)⟩, gd_mem 1210 (by decide +kernel) (by decide +kernel), gd_mem 1211 (by decide +kernel) (by decide +kernel)⟩
abbrev qX8_lodge : mMI := (yX8_lodge, cX8_lodge, 11, (some .int), 5)
theorem dX8_lodge_0 : decode cX8_lodge 0 = .ok (.iload_n 1, 1) := by decide +kernel
theorem dX8_lodge_1 : decode cX8_lodge 1 = .ok (.i2l, 1) := by decide +kernel
theorem dX8_lodge_2 : decode cX8_lodge 2 = .ok (.lconst 0, 1) := by decide +kernel
theorem dX8_lodge_3 : decode cX8_lodge 3 = .ok (.lconst 1, 1) := by decide +kernel
theorem dX8_lodge_4 : decode cX8_lodge 4 = .ok (.invokestatic 67, 3) := by decide +kernel
theorem dX8_lodge_7 : decode cX8_lodge 7 = .ok (.ifCond .ne 24, 3) := by decide +kernel
theorem dX8_lodge_10 : decode cX8_lodge 10 = .ok (.iload_n 1, 1) := by decide +kernel
theorem dX8_lodge_11 : decode cX8_lodge 11 = .ok (.i2l, 1) := by decide +kernel
theorem dX8_lodge_12 : decode cX8_lodge 12 = .ok (.ldc2_w 201, 3) := by decide +kernel
theorem dX8_lodge_15 : decode cX8_lodge 15 = .ok (.bipush 9, 2) := by decide +kernel
theorem dX8_lodge_17 : decode cX8_lodge 17 = .ok (.aload_n 0, 1) := by decide +kernel
theorem dX8_lodge_18 : decode cX8_lodge 18 = .ok (.getfield 146, 3) := by decide +kernel
theorem dX8_lodge_21 : decode cX8_lodge 21 = .ok (.iadd, 1) := by decide +kernel
theorem dX8_lodge_22 : decode cX8_lodge 22 = .ok (.i2l, 1) := by decide +kernel
theorem dX8_lodge_23 : decode cX8_lodge 23 = .ok (.invokestatic 67, 3) := by decide +kernel
theorem dX8_lodge_26 : decode cX8_lodge 26 = .ok (.ifCond .ne 5, 3) := by decide +kernel
theorem dX8_lodge_29 : decode cX8_lodge 29 = .ok (.iconst (-1), 1) := by decide +kernel
theorem dX8_lodge_30 : decode cX8_lodge 30 = .ok (.ireturn, 1) := by decide +kernel
theorem dX8_lodge_31 : decode cX8_lodge 31 = .ok (.iconst 1, 1) := by decide +kernel
theorem dX8_lodge_32 : decode cX8_lodge 32 = .ok (.istore_n 2, 1) := by decide +kernel
theorem dX8_lodge_33 : decode cX8_lodge 33 = .ok (.iconst 0, 1) := by decide +kernel
theorem dX8_lodge_34 : decode cX8_lodge 34 = .ok (.istore_n 3, 1) := by decide +kernel
theorem dX8_lodge_35 : decode cX8_lodge 35 = .ok (.iload_n 3, 1) := by decide +kernel
theorem dX8_lodge_36 : decode cX8_lodge 36 = .ok (.aload_n 0, 1) := by decide +kernel
theorem dX8_lodge_37 : decode cX8_lodge 37 = .ok (.getfield 146, 3) := by decide +kernel
theorem dX8_lodge_40 : decode cX8_lodge 40 = .ok (.if_icmp .ge 13, 3) := by decide +kernel
theorem dX8_lodge_43 : decode cX8_lodge 43 = .ok (.iload_n 2, 1) := by decide +kernel
theorem dX8_lodge_44 : decode cX8_lodge 44 = .ok (.iconst 4, 1) := by decide +kernel
theorem dX8_lodge_45 : decode cX8_lodge 45 = .ok (.imul, 1) := by decide +kernel
theorem dX8_lodge_46 : decode cX8_lodge 46 = .ok (.istore_n 2, 1) := by decide +kernel
theorem dX8_lodge_47 : decode cX8_lodge 47 = .ok (.iinc 3 1, 3) := by decide +kernel
theorem dX8_lodge_50 : decode cX8_lodge 50 = .ok (.goto (-15), 3) := by decide +kernel
theorem dX8_lodge_53 : decode cX8_lodge 53 = .ok (.iconst (-1), 1) := by decide +kernel
theorem dX8_lodge_54 : decode cX8_lodge 54 = .ok (.istore_n 3, 1) := by decide +kernel
theorem dX8_lodge_55 : decode cX8_lodge 55 = .ok (.iconst 0, 1) := by decide +kernel
theorem dX8_lodge_56 : decode cX8_lodge 56 = .ok (.istore 4, 2) := by decide +kernel
theorem dX8_lodge_58 : decode cX8_lodge 58 = .ok (.iconst 0, 1) := by decide +kernel
theorem dX8_lodge_59 : decode cX8_lodge 59 = .ok (.istore 5, 2) := by decide +kernel
theorem dX8_lodge_61 : decode cX8_lodge 61 = .ok (.aload_n 0, 1) := by decide +kernel
theorem dX8_lodge_62 : decode cX8_lodge 62 = .ok (.iconst 0, 1) := by decide +kernel
theorem dX8_lodge_63 : decode cX8_lodge 63 = .ok (.sipush 175, 3) := by decide +kernel
theorem dX8_lodge_66 : decode cX8_lodge 66 = .ok (.invokevirtual 223, 3) := by decide +kernel
theorem dX8_lodge_69 : decode cX8_lodge 69 = .ok (.iconst 0, 1) := by decide +kernel
theorem dX8_lodge_70 : decode cX8_lodge 70 = .ok (.istore 6, 2) := by decide +kernel
theorem dX8_lodge_72 : decode cX8_lodge 72 = .ok (.iload 6, 2) := by decide +kernel
theorem dX8_lodge_74 : decode cX8_lodge 74 = .ok (.iload_n 2, 1) := by decide +kernel
theorem dX8_lodge_75 : decode cX8_lodge 75 = .ok (.if_icmp .ge 154, 3) := by decide +kernel
theorem dX8_lodge_78 : decode cX8_lodge 78 = .ok (.aload_n 0, 1) := by decide +kernel
theorem dX8_lodge_79 : decode cX8_lodge 79 = .ok (.iload 6, 2) := by decide +kernel
theorem dX8_lodge_81 : decode cX8_lodge 81 = .ok (.invokevirtual 232, 3) := by decide +kernel
theorem dX8_lodge_84 : decode cX8_lodge 84 = .ok (.ifCond .eq 139, 3) := by decide +kernel
theorem dX8_lodge_87 : decode cX8_lodge 87 = .ok (.iconst 0, 1) := by decide +kernel
theorem dX8_lodge_88 : decode cX8_lodge 88 = .ok (.istore 7, 2) := by decide +kernel
theorem dX8_lodge_90 : decode cX8_lodge 90 = .ok (.iconst 0, 1) := by decide +kernel
theorem dX8_lodge_91 : decode cX8_lodge 91 = .ok (.istore 8, 2) := by decide +kernel
theorem dX8_lodge_93 : decode cX8_lodge 93 = .ok (.iconst 0, 1) := by decide +kernel
theorem dX8_lodge_94 : decode cX8_lodge 94 = .ok (.istore 9, 2) := by decide +kernel
theorem dX8_lodge_96 : decode cX8_lodge 96 = .ok (.iload 9, 2) := by decide +kernel
theorem dX8_lodge_98 : decode cX8_lodge 98 = .ok (.aload_n 0, 1) := by decide +kernel
theorem dX8_lodge_99 : decode cX8_lodge 99 = .ok (.getfield 146, 3) := by decide +kernel
theorem dX8_lodge_102 : decode cX8_lodge 102 = .ok (.if_icmp .ge 55, 3) := by decide +kernel
theorem dX8_lodge_105 : decode cX8_lodge 105 = .ok (.aload_n 0, 1) := by decide +kernel
theorem dX8_lodge_106 : decode cX8_lodge 106 = .ok (.sipush 175, 3) := by decide +kernel
theorem dX8_lodge_109 : decode cX8_lodge 109 = .ok (.iload 9, 2) := by decide +kernel
theorem dX8_lodge_111 : decode cX8_lodge 111 = .ok (.invokevirtual 211, 3) := by decide +kernel
theorem dX8_lodge_114 : decode cX8_lodge 114 = .ok (.istore 10, 2) := by decide +kernel
theorem dX8_lodge_116 : decode cX8_lodge 116 = .ok (.iload 7, 2) := by decide +kernel
theorem dX8_lodge_118 : decode cX8_lodge 118 = .ok (.iload 10, 2) := by decide +kernel
theorem dX8_lodge_120 : decode cX8_lodge 120 = .ok (.ifCond .eq 7, 3) := by decide +kernel
theorem dX8_lodge_123 : decode cX8_lodge 123 = .ok (.iconst 1, 1) := by decide +kernel
theorem dX8_lodge_124 : decode cX8_lodge 124 = .ok (.goto 4, 3) := by decide +kernel
theorem dX8_lodge_127 : decode cX8_lodge 127 = .ok (.iconst 0, 1) := by decide +kernel
theorem dX8_lodge_128 : decode cX8_lodge 128 = .ok (.iadd, 1) := by decide +kernel
theorem dX8_lodge_129 : decode cX8_lodge 129 = .ok (.istore 7, 2) := by decide +kernel
theorem dX8_lodge_131 : decode cX8_lodge 131 = .ok (.iload 8, 2) := by decide +kernel
theorem dX8_lodge_133 : decode cX8_lodge 133 = .ok (.iload 10, 2) := by decide +kernel
theorem dX8_lodge_135 : decode cX8_lodge 135 = .ok (.ifCond .eq 12, 3) := by decide +kernel
theorem dX8_lodge_138 : decode cX8_lodge 138 = .ok (.aload_n 0, 1) := by decide +kernel
theorem dX8_lodge_139 : decode cX8_lodge 139 = .ok (.getfield 37, 3) := by decide +kernel
theorem dX8_lodge_142 : decode cX8_lodge 142 = .ok (.iconst 0, 1) := by decide +kernel
theorem dX8_lodge_143 : decode cX8_lodge 143 = .ok (.iaload, 1) := by decide +kernel
theorem dX8_lodge_144 : decode cX8_lodge 144 = .ok (.goto 4, 3) := by decide +kernel
theorem dX8_lodge_147 : decode cX8_lodge 147 = .ok (.iconst 0, 1) := by decide +kernel
theorem dX8_lodge_148 : decode cX8_lodge 148 = .ok (.iadd, 1) := by decide +kernel
theorem dX8_lodge_149 : decode cX8_lodge 149 = .ok (.istore 8, 2) := by decide +kernel
theorem dX8_lodge_151 : decode cX8_lodge 151 = .ok (.iinc 9 1, 3) := by decide +kernel
theorem dX8_lodge_154 : decode cX8_lodge 154 = .ok (.goto (-58), 3) := by decide +kernel
theorem dX8_lodge_157 : decode cX8_lodge 157 = .ok (.iload 7, 2) := by decide +kernel
theorem dX8_lodge_159 : decode cX8_lodge 159 = .ok (.iload_n 3, 1) := by decide +kernel
theorem dX8_lodge_160 : decode cX8_lodge 160 = .ok (.if_icmp .gt 16, 3) := by decide +kernel
theorem dX8_lodge_163 : decode cX8_lodge 163 = .ok (.iload 7, 2) := by decide +kernel
theorem dX8_lodge_165 : decode cX8_lodge 165 = .ok (.iload_n 3, 1) := by decide +kernel
theorem dX8_lodge_166 : decode cX8_lodge 166 = .ok (.if_icmp .ne 14, 3) := by decide +kernel
theorem dX8_lodge_169 : decode cX8_lodge 169 = .ok (.iload 8, 2) := by decide +kernel
theorem dX8_lodge_171 : decode cX8_lodge 171 = .ok (.iload 4, 2) := by decide +kernel
theorem dX8_lodge_173 : decode cX8_lodge 173 = .ok (.if_icmp .ge 7, 3) := by decide +kernel
theorem dX8_lodge_176 : decode cX8_lodge 176 = .ok (.iconst 1, 1) := by decide +kernel
theorem dX8_lodge_177 : decode cX8_lodge 177 = .ok (.goto 4, 3) := by decide +kernel
theorem dX8_lodge_180 : decode cX8_lodge 180 = .ok (.iconst 0, 1) := by decide +kernel
theorem dX8_lodge_181 : decode cX8_lodge 181 = .ok (.istore 9, 2) := by decide +kernel
theorem dX8_lodge_183 : decode cX8_lodge 183 = .ok (.iload 9, 2) := by decide +kernel
theorem dX8_lodge_185 : decode cX8_lodge 185 = .ok (.ifCond .eq 8, 3) := by decide +kernel
theorem dX8_lodge_188 : decode cX8_lodge 188 = .ok (.iload 6, 2) := by decide +kernel
theorem dX8_lodge_190 : decode cX8_lodge 190 = .ok (.goto 5, 3) := by decide +kernel
theorem dX8_lodge_193 : decode cX8_lodge 193 = .ok (.iload 5, 2) := by decide +kernel
theorem dX8_lodge_195 : decode cX8_lodge 195 = .ok (.istore 5, 2) := by decide +kernel
theorem dX8_lodge_197 : decode cX8_lodge 197 = .ok (.iload 9, 2) := by decide +kernel
theorem dX8_lodge_199 : decode cX8_lodge 199 = .ok (.ifCond .eq 8, 3) := by decide +kernel
theorem dX8_lodge_202 : decode cX8_lodge 202 = .ok (.iload 7, 2) := by decide +kernel
theorem dX8_lodge_204 : decode cX8_lodge 204 = .ok (.goto 4, 3) := by decide +kernel
theorem dX8_lodge_207 : decode cX8_lodge 207 = .ok (.iload_n 3, 1) := by decide +kernel
theorem dX8_lodge_208 : decode cX8_lodge 208 = .ok (.istore_n 3, 1) := by decide +kernel
theorem dX8_lodge_209 : decode cX8_lodge 209 = .ok (.iload 9, 2) := by decide +kernel
theorem dX8_lodge_211 : decode cX8_lodge 211 = .ok (.ifCond .eq 8, 3) := by decide +kernel
theorem dX8_lodge_214 : decode cX8_lodge 214 = .ok (.iload 8, 2) := by decide +kernel
theorem dX8_lodge_216 : decode cX8_lodge 216 = .ok (.goto 5, 3) := by decide +kernel
theorem dX8_lodge_219 : decode cX8_lodge 219 = .ok (.iload 4, 2) := by decide +kernel
theorem dX8_lodge_221 : decode cX8_lodge 221 = .ok (.istore 4, 2) := by decide +kernel
theorem dX8_lodge_223 : decode cX8_lodge 223 = .ok (.iinc 6 1, 3) := by decide +kernel
theorem dX8_lodge_226 : decode cX8_lodge 226 = .ok (.goto (-154), 3) := by decide +kernel
theorem dX8_lodge_229 : decode cX8_lodge 229 = .ok (.aload_n 0, 1) := by decide +kernel
theorem dX8_lodge_230 : decode cX8_lodge 230 = .ok (.iload 5, 2) := by decide +kernel
theorem dX8_lodge_232 : decode cX8_lodge 232 = .ok (.invokevirtual 232, 3) := by decide +kernel
theorem dX8_lodge_235 : decode cX8_lodge 235 = .ok (.pop, 1) := by decide +kernel
theorem dX8_lodge_236 : decode cX8_lodge 236 = .ok (.iload_n 1, 1) := by decide +kernel
theorem dX8_lodge_237 : decode cX8_lodge 237 = .ok (.ifCond .ne 7, 3) := by decide +kernel
theorem dX8_lodge_240 : decode cX8_lodge 240 = .ok (.iload_n 3, 1) := by decide +kernel
theorem dX8_lodge_241 : decode cX8_lodge 241 = .ok (.goto 30, 3) := by decide +kernel
theorem dX8_lodge_244 : decode cX8_lodge 244 = .ok (.iload_n 1, 1) := by decide +kernel
theorem dX8_lodge_245 : decode cX8_lodge 245 = .ok (.iconst 1, 1) := by decide +kernel
theorem dX8_lodge_246 : decode cX8_lodge 246 = .ok (.if_icmp .ne 8, 3) := by decide +kernel
theorem dX8_lodge_249 : decode cX8_lodge 249 = .ok (.iload 4, 2) := by decide +kernel
theorem dX8_lodge_251 : decode cX8_lodge 251 = .ok (.goto 20, 3) := by decide +kernel
theorem dX8_lodge_254 : decode cX8_lodge 254 = .ok (.aload_n 0, 1) := by decide +kernel
theorem dX8_lodge_255 : decode cX8_lodge 255 = .ok (.getfield 7, 3) := by decide +kernel
theorem dX8_lodge_258 : decode cX8_lodge 258 = .ok (.sipush 195, 3) := by decide +kernel
theorem dX8_lodge_261 : decode cX8_lodge 261 = .ok (.iconst 3, 1) := by decide +kernel
theorem dX8_lodge_262 : decode cX8_lodge 262 = .ok (.iload_n 1, 1) := by decide +kernel
theorem dX8_lodge_263 : decode cX8_lodge 263 = .ok (.bipush 10, 2) := by decide +kernel
theorem dX8_lodge_265 : decode cX8_lodge 265 = .ok (.isub, 1) := by decide +kernel
theorem dX8_lodge_266 : decode cX8_lodge 266 = .ok (.imul, 1) := by decide +kernel
theorem dX8_lodge_267 : decode cX8_lodge 267 = .ok (.iadd, 1) := by decide +kernel
theorem dX8_lodge_268 : decode cX8_lodge 268 = .ok (.iconst 2, 1) := by decide +kernel
theorem dX8_lodge_269 : decode cX8_lodge 269 = .ok (.iadd, 1) := by decide +kernel
theorem dX8_lodge_270 : decode cX8_lodge 270 = .ok (.iaload, 1) := by decide +kernel
theorem dX8_lodge_271 : decode cX8_lodge 271 = .ok (.ireturn, 1) := by decide +kernel
theorem mkX8_lodge : mokV qX8_lodge 1 := ⟨⟨⟨⟨by decide, by decide, by decide +kernel⟩, by decide⟩, gd_mem 59 (by decide +kernel) (by decide +kernel), gd_mem 1227 (by decide +kernel) (by decide +kernel)⟩, gd_mem 1225 (by decide +kernel) (by decide +kernel), gd_mem 1226 (by decide +kernel) (by decide +kernel)⟩
abbrev qX8_homes : mMI := (yX8_homes, cX8_homes, 1, (some .int), 6)
theorem dX8_homes_0 : decode cX8_homes 0 = .ok (.aload_n 0, 1) := by decide +kernel
theorem dX8_homes_1 : decode cX8_homes 1 = .ok (.iconst 0, 1) := by decide +kernel
theorem dX8_homes_2 : decode cX8_homes 2 = .ok (.invokevirtual 214, 3) := by decide +kernel
theorem dX8_homes_5 : decode cX8_homes 5 = .ok (.ireturn, 1) := by decide +kernel
theorem mkX8_homes : mokV qX8_homes 0 := ⟨⟨⟨⟨by decide, by decide, by decide +kernel⟩, by decide⟩, gd_mem 59 (by decide +kernel) (by decide +kernel), gd_mem 1164 (by decide +kernel) (by decide +kernel)⟩, gd_mem 1162 (by decide +kernel) (by decide +kernel), gd_mem 1163 (by decide +kernel) (by decide +kernel)⟩
abbrev qX8_must : mMI := (yX8_must, cX8_must, 4, (some .int), 6)
theorem dX8_must_0 : decode cX8_must 0 = .ok (.aload_n 0, 1) := by decide +kernel
theorem dX8_must_1 : decode cX8_must 1 = .ok (.iload_n 1, 1) := by decide +kernel
theorem dX8_must_2 : decode cX8_must 2 = .ok (.invokevirtual 172, 3) := by decide +kernel
theorem dX8_must_5 : decode cX8_must 5 = .ok (.ifCond .ne 5, 3) := by decide +kernel
theorem dX8_must_8 : decode cX8_must 8 = .ok (.iconst (-1), 1) := by decide +kernel
theorem dX8_must_9 : decode cX8_must 9 = .ok (.ireturn, 1) := by decide +kernel
theorem dX8_must_10 : decode cX8_must 10 = .ok (.aload_n 0, 1) := by decide +kernel
theorem dX8_must_11 : decode cX8_must 11 = .ok (.iconst 0, 1) := by decide +kernel
theorem dX8_must_12 : decode cX8_must 12 = .ok (.invokevirtual 214, 3) := by decide +kernel
theorem dX8_must_15 : decode cX8_must 15 = .ok (.istore_n 2, 1) := by decide +kernel
theorem dX8_must_16 : decode cX8_must 16 = .ok (.aload_n 0, 1) := by decide +kernel
theorem dX8_must_17 : decode cX8_must 17 = .ok (.iconst 1, 1) := by decide +kernel
theorem dX8_must_18 : decode cX8_must 18 = .ok (.iload_n 1, 1) := by decide +kernel
theorem dX8_must_19 : decode cX8_must 19 = .ok (.ishl, 1) := by decide +kernel
theorem dX8_must_20 : decode cX8_must 20 = .ok (.putfield 155, 3) := by decide +kernel
theorem dX8_must_23 : decode cX8_must 23 = .ok (.aload_n 0, 1) := by decide +kernel
theorem dX8_must_24 : decode cX8_must 24 = .ok (.iconst 0, 1) := by decide +kernel
theorem dX8_must_25 : decode cX8_must 25 = .ok (.invokevirtual 214, 3) := by decide +kernel
theorem dX8_must_28 : decode cX8_must 28 = .ok (.istore_n 3, 1) := by decide +kernel
theorem dX8_must_29 : decode cX8_must 29 = .ok (.aload_n 0, 1) := by decide +kernel
theorem dX8_must_30 : decode cX8_must 30 = .ok (.iconst 0, 1) := by decide +kernel
theorem dX8_must_31 : decode cX8_must 31 = .ok (.putfield 155, 3) := by decide +kernel
theorem dX8_must_34 : decode cX8_must 34 = .ok (.iload_n 2, 1) := by decide +kernel
theorem dX8_must_35 : decode cX8_must 35 = .ok (.iload_n 3, 1) := by decide +kernel
theorem dX8_must_36 : decode cX8_must 36 = .ok (.iconst (-1), 1) := by decide +kernel
theorem dX8_must_37 : decode cX8_must 37 = .ok (.ixor, 1) := by decide +kernel
theorem dX8_must_38 : decode cX8_must 38 = .ok (.iand, 1) := by decide +kernel
theorem dX8_must_39 : decode cX8_must 39 = .ok (.ireturn, 1) := by decide +kernel
theorem mkX8_must : mokV qX8_must 1 := ⟨⟨⟨⟨by decide, by decide, by decide +kernel⟩, by decide⟩, gd_mem 59 (by decide +kernel) (by decide +kernel), gd_mem 1172 (by decide +kernel) (by decide +kernel)⟩, gd_mem 1170 (by decide +kernel) (by decide +kernel), gd_mem 1171 (by decide +kernel) (by decide +kernel)⟩
abbrev qX8_daysOn : mMI := (yX8_daysOn, cX8_daysOn, 6, (some .int), 6)
theorem dX8_daysOn_0 : decode cX8_daysOn 0 = .ok (.iconst 0, 1) := by decide +kernel
theorem dX8_daysOn_1 : decode cX8_daysOn 1 = .ok (.istore_n 3, 1) := by decide +kernel
theorem dX8_daysOn_2 : decode cX8_daysOn 2 = .ok (.iconst 0, 1) := by decide +kernel
theorem dX8_daysOn_3 : decode cX8_daysOn 3 = .ok (.istore 4, 2) := by decide +kernel
theorem dX8_daysOn_5 : decode cX8_daysOn 5 = .ok (.iload 4, 2) := by decide +kernel
theorem dX8_daysOn_7 : decode cX8_daysOn 7 = .ok (.iload_n 2, 1) := by decide +kernel
theorem dX8_daysOn_8 : decode cX8_daysOn 8 = .ok (.if_icmp .ge 58, 3) := by decide +kernel
theorem dX8_daysOn_11 : decode cX8_daysOn 11 = .ok (.iconst 0, 1) := by decide +kernel
theorem dX8_daysOn_12 : decode cX8_daysOn 12 = .ok (.istore 5, 2) := by decide +kernel
theorem dX8_daysOn_14 : decode cX8_daysOn 14 = .ok (.iload 5, 2) := by decide +kernel
theorem dX8_daysOn_16 : decode cX8_daysOn 16 = .ok (.aload_n 0, 1) := by decide +kernel
theorem dX8_daysOn_17 : decode cX8_daysOn 17 = .ok (.getfield 146, 3) := by decide +kernel
theorem dX8_daysOn_20 : decode cX8_daysOn 20 = .ok (.if_icmp .ge 27, 3) := by decide +kernel
theorem dX8_daysOn_23 : decode cX8_daysOn 23 = .ok (.iload_n 3, 1) := by decide +kernel
theorem dX8_daysOn_24 : decode cX8_daysOn 24 = .ok (.aload_n 0, 1) := by decide +kernel
theorem dX8_daysOn_25 : decode cX8_daysOn 25 = .ok (.iload_n 1, 1) := by decide +kernel
theorem dX8_daysOn_26 : decode cX8_daysOn 26 = .ok (.iload 5, 2) := by decide +kernel
theorem dX8_daysOn_28 : decode cX8_daysOn 28 = .ok (.invokevirtual 217, 3) := by decide +kernel
theorem dX8_daysOn_31 : decode cX8_daysOn 31 = .ok (.ifCond .eq 7, 3) := by decide +kernel
theorem dX8_daysOn_34 : decode cX8_daysOn 34 = .ok (.iconst 1, 1) := by decide +kernel
theorem dX8_daysOn_35 : decode cX8_daysOn 35 = .ok (.goto 4, 3) := by decide +kernel
theorem dX8_daysOn_38 : decode cX8_daysOn 38 = .ok (.iconst 0, 1) := by decide +kernel
theorem dX8_daysOn_39 : decode cX8_daysOn 39 = .ok (.iadd, 1) := by decide +kernel
theorem dX8_daysOn_40 : decode cX8_daysOn 40 = .ok (.istore_n 3, 1) := by decide +kernel
theorem dX8_daysOn_41 : decode cX8_daysOn 41 = .ok (.iinc 5 1, 3) := by decide +kernel
theorem dX8_daysOn_44 : decode cX8_daysOn 44 = .ok (.goto (-30), 3) := by decide +kernel
theorem dX8_daysOn_47 : decode cX8_daysOn 47 = .ok (.aload_n 0, 1) := by decide +kernel
theorem dX8_daysOn_48 : decode cX8_daysOn 48 = .ok (.getfield 7, 3) := by decide +kernel
theorem dX8_daysOn_51 : decode cX8_daysOn 51 = .ok (.iload_n 1, 1) := by decide +kernel
theorem dX8_daysOn_52 : decode cX8_daysOn 52 = .ok (.bipush 34, 2) := by decide +kernel
theorem dX8_daysOn_54 : decode cX8_daysOn 54 = .ok (.iadd, 1) := by decide +kernel
theorem dX8_daysOn_55 : decode cX8_daysOn 55 = .ok (.dup2, 1) := by decide +kernel
theorem dX8_daysOn_56 : decode cX8_daysOn 56 = .ok (.iaload, 1) := by decide +kernel
theorem dX8_daysOn_57 : decode cX8_daysOn 57 = .ok (.iconst 1, 1) := by decide +kernel
theorem dX8_daysOn_58 : decode cX8_daysOn 58 = .ok (.iadd, 1) := by decide +kernel
theorem dX8_daysOn_59 : decode cX8_daysOn 59 = .ok (.iastore, 1) := by decide +kernel
theorem dX8_daysOn_60 : decode cX8_daysOn 60 = .ok (.iinc 4 1, 3) := by decide +kernel
theorem dX8_daysOn_63 : decode cX8_daysOn 63 = .ok (.goto (-58), 3) := by decide +kernel
theorem dX8_daysOn_66 : decode cX8_daysOn 66 = .ok (.iload_n 3, 1) := by decide +kernel
theorem dX8_daysOn_67 : decode cX8_daysOn 67 = .ok (.ireturn, 1) := by decide +kernel
theorem mkX8_daysOn : mokV qX8_daysOn 2 := ⟨⟨⟨⟨by decide, by decide, by decide +kernel⟩, by decide⟩, gd_mem 59 (by decide +kernel) (by decide +kernel), gd_mem 1180 (by decide +kernel) (by decide +kernel)⟩, gd_mem 1179 (by decide +kernel) (by decide +kernel), gd_mem 41 (by decide +kernel) (by decide +kernel)⟩
abbrev qX8_best : mMI := (yX8_best, cX8_best, 6, (some .int), 6)
theorem dX8_best_0 : decode cX8_best 0 = .ok (.iload_n 1, 1) := by decide +kernel
theorem dX8_best_1 : decode cX8_best 1 = .ok (.i2l, 1) := by decide +kernel
theorem dX8_best_2 : decode cX8_best 2 = .ok (.lconst 0, 1) := by decide +kernel
theorem dX8_best_3 : decode cX8_best 3 = .ok (.lconst 1, 1) := by decide +kernel
theorem dX8_best_4 : decode cX8_best 4 = .ok (.invokestatic 67, 3) := by decide +kernel
theorem dX8_best_7 : decode cX8_best 7 = .ok (.ifCond .ne 5, 3) := by decide +kernel
theorem dX8_best_10 : decode cX8_best 10 = .ok (.iconst (-1), 1) := by decide +kernel
theorem dX8_best_11 : decode cX8_best 11 = .ok (.ireturn, 1) := by decide +kernel
theorem dX8_best_12 : decode cX8_best 12 = .ok (.aload_n 0, 1) := by decide +kernel
theorem dX8_best_13 : decode cX8_best 13 = .ok (.iconst 0, 1) := by decide +kernel
theorem dX8_best_14 : decode cX8_best 14 = .ok (.invokevirtual 214, 3) := by decide +kernel
theorem dX8_best_17 : decode cX8_best 17 = .ok (.invokestatic 229, 3) := by decide +kernel
theorem dX8_best_20 : decode cX8_best 20 = .ok (.istore_n 2, 1) := by decide +kernel
theorem dX8_best_21 : decode cX8_best 21 = .ok (.bipush (-4), 2) := by decide +kernel
theorem dX8_best_23 : decode cX8_best 23 = .ok (.istore_n 3, 1) := by decide +kernel
theorem dX8_best_24 : decode cX8_best 24 = .ok (.iconst 0, 1) := by decide +kernel
theorem dX8_best_25 : decode cX8_best 25 = .ok (.istore 4, 2) := by decide +kernel
theorem dX8_best_27 : decode cX8_best 27 = .ok (.iload 4, 2) := by decide +kernel
theorem dX8_best_29 : decode cX8_best 29 = .ok (.aload_n 0, 1) := by decide +kernel
theorem dX8_best_30 : decode cX8_best 30 = .ok (.getfield 143, 3) := by decide +kernel
theorem dX8_best_33 : decode cX8_best 33 = .ok (.if_icmp .ge 85, 3) := by decide +kernel
theorem dX8_best_36 : decode cX8_best 36 = .ok (.aload_n 0, 1) := by decide +kernel
theorem dX8_best_37 : decode cX8_best 37 = .ok (.iconst 0, 1) := by decide +kernel
theorem dX8_best_38 : decode cX8_best 38 = .ok (.sipush 175, 3) := by decide +kernel
theorem dX8_best_41 : decode cX8_best 41 = .ok (.invokevirtual 223, 3) := by decide +kernel
theorem dX8_best_44 : decode cX8_best 44 = .ok (.aload_n 0, 1) := by decide +kernel
theorem dX8_best_45 : decode cX8_best 45 = .ok (.getfield 7, 3) := by decide +kernel
theorem dX8_best_48 : decode cX8_best 48 = .ok (.sipush 175, 3) := by decide +kernel
theorem dX8_best_51 : decode cX8_best 51 = .ok (.iconst 2, 1) := by decide +kernel
theorem dX8_best_52 : decode cX8_best 52 = .ok (.iload 4, 2) := by decide +kernel
theorem dX8_best_54 : decode cX8_best 54 = .ok (.imul, 1) := by decide +kernel
theorem dX8_best_55 : decode cX8_best 55 = .ok (.iadd, 1) := by decide +kernel
theorem dX8_best_56 : decode cX8_best 56 = .ok (.iconst 0, 1) := by decide +kernel
theorem dX8_best_57 : decode cX8_best 57 = .ok (.iastore, 1) := by decide +kernel
theorem dX8_best_58 : decode cX8_best 58 = .ok (.aload_n 0, 1) := by decide +kernel
theorem dX8_best_59 : decode cX8_best 59 = .ok (.getfield 7, 3) := by decide +kernel
theorem dX8_best_62 : decode cX8_best 62 = .ok (.sipush 175, 3) := by decide +kernel
theorem dX8_best_65 : decode cX8_best 65 = .ok (.iconst 2, 1) := by decide +kernel
theorem dX8_best_66 : decode cX8_best 66 = .ok (.iload 4, 2) := by decide +kernel
theorem dX8_best_68 : decode cX8_best 68 = .ok (.imul, 1) := by decide +kernel
theorem dX8_best_69 : decode cX8_best 69 = .ok (.iadd, 1) := by decide +kernel
theorem dX8_best_70 : decode cX8_best 70 = .ok (.iconst 1, 1) := by decide +kernel
theorem dX8_best_71 : decode cX8_best 71 = .ok (.iadd, 1) := by decide +kernel
theorem dX8_best_72 : decode cX8_best 72 = .ok (.iconst 0, 1) := by decide +kernel
theorem dX8_best_73 : decode cX8_best 73 = .ok (.iastore, 1) := by decide +kernel
theorem dX8_best_74 : decode cX8_best 74 = .ok (.aload_n 0, 1) := by decide +kernel
theorem dX8_best_75 : decode cX8_best 75 = .ok (.sipush 175, 3) := by decide +kernel
theorem dX8_best_78 : decode cX8_best 78 = .ok (.invokevirtual 214, 3) := by decide +kernel
theorem dX8_best_81 : decode cX8_best 81 = .ok (.invokestatic 229, 3) := by decide +kernel
theorem dX8_best_84 : decode cX8_best 84 = .ok (.istore 5, 2) := by decide +kernel
theorem dX8_best_86 : decode cX8_best 86 = .ok (.iload 5, 2) := by decide +kernel
theorem dX8_best_88 : decode cX8_best 88 = .ok (.iload_n 2, 1) := by decide +kernel
theorem dX8_best_89 : decode cX8_best 89 = .ok (.if_icmp .le 8, 3) := by decide +kernel
theorem dX8_best_92 : decode cX8_best 92 = .ok (.iload 4, 2) := by decide +kernel
theorem dX8_best_94 : decode cX8_best 94 = .ok (.goto 4, 3) := by decide +kernel
theorem dX8_best_97 : decode cX8_best 97 = .ok (.iload_n 3, 1) := by decide +kernel
theorem dX8_best_98 : decode cX8_best 98 = .ok (.istore_n 3, 1) := by decide +kernel
theorem dX8_best_99 : decode cX8_best 99 = .ok (.iload 5, 2) := by decide +kernel
theorem dX8_best_101 : decode cX8_best 101 = .ok (.iload_n 2, 1) := by decide +kernel
theorem dX8_best_102 : decode cX8_best 102 = .ok (.if_icmp .le 8, 3) := by decide +kernel
theorem dX8_best_105 : decode cX8_best 105 = .ok (.iload 5, 2) := by decide +kernel
theorem dX8_best_107 : decode cX8_best 107 = .ok (.goto 4, 3) := by decide +kernel
theorem dX8_best_110 : decode cX8_best 110 = .ok (.iload_n 2, 1) := by decide +kernel
theorem dX8_best_111 : decode cX8_best 111 = .ok (.istore_n 2, 1) := by decide +kernel
theorem dX8_best_112 : decode cX8_best 112 = .ok (.iinc 4 1, 3) := by decide +kernel
theorem dX8_best_115 : decode cX8_best 115 = .ok (.goto (-88), 3) := by decide +kernel
theorem dX8_best_118 : decode cX8_best 118 = .ok (.iload_n 3, 1) := by decide +kernel
theorem dX8_best_119 : decode cX8_best 119 = .ok (.bipush (-4), 2) := by decide +kernel
theorem dX8_best_121 : decode cX8_best 121 = .ok (.if_icmp .eq 7, 3) := by decide +kernel
theorem dX8_best_124 : decode cX8_best 124 = .ok (.iload_n 1, 1) := by decide +kernel
theorem dX8_best_125 : decode cX8_best 125 = .ok (.ifCond .ne 7, 3) := by decide +kernel
theorem dX8_best_128 : decode cX8_best 128 = .ok (.iload_n 3, 1) := by decide +kernel
theorem dX8_best_129 : decode cX8_best 129 = .ok (.goto 4, 3) := by decide +kernel
theorem dX8_best_132 : decode cX8_best 132 = .ok (.iload_n 2, 1) := by decide +kernel
theorem dX8_best_133 : decode cX8_best 133 = .ok (.ireturn, 1) := by decide +kernel
theorem mkX8_best : mokV qX8_best 1 := ⟨⟨⟨⟨by decide, by decide, by decide +kernel⟩, by decide⟩, gd_mem 59 (by decide +kernel) (by decide +kernel), gd_mem 1220 (by decide +kernel) (by decide +kernel)⟩, gd_mem 1218 (by decide +kernel) (by decide +kernel), gd_mem 1219 (by decide +kernel) (by decide +kernel)⟩
abbrev qX8_meanOf : mMI := (yX8_meanOf, cX8_meanOf, 13, (some .long), 6)
theorem dX8_meanOf_0 : decode cX8_meanOf 0 = .ok (.lconst 0, 1) := by decide +kernel
theorem dX8_meanOf_1 : decode cX8_meanOf 1 = .ok (.lstore 4, 2) := by decide +kernel
theorem dX8_meanOf_3 : decode cX8_meanOf 3 = .ok (.lconst 1, 1) := by decide +kernel
theorem dX8_meanOf_4 : decode cX8_meanOf 4 = .ok (.lstore 6, 2) := by decide +kernel
theorem dX8_meanOf_6 : decode cX8_meanOf 6 = .ok (.iconst 0, 1) := by decide +kernel
theorem dX8_meanOf_7 : decode cX8_meanOf 7 = .ok (.istore 8, 2) := by decide +kernel
theorem dX8_meanOf_9 : decode cX8_meanOf 9 = .ok (.iload 8, 2) := by decide +kernel
theorem dX8_meanOf_11 : decode cX8_meanOf 11 = .ok (.aload_n 0, 1) := by decide +kernel
theorem dX8_meanOf_12 : decode cX8_meanOf 12 = .ok (.getfield 143, 3) := by decide +kernel
theorem dX8_meanOf_15 : decode cX8_meanOf 15 = .ok (.if_icmp .ge 32, 3) := by decide +kernel
theorem dX8_meanOf_18 : decode cX8_meanOf 18 = .ok (.lload 6, 2) := by decide +kernel
theorem dX8_meanOf_20 : decode cX8_meanOf 20 = .ok (.aload_n 0, 1) := by decide +kernel
theorem dX8_meanOf_21 : decode cX8_meanOf 21 = .ok (.getfield 13, 3) := by decide +kernel
theorem dX8_meanOf_24 : decode cX8_meanOf 24 = .ok (.iload 8, 2) := by decide +kernel
theorem dX8_meanOf_26 : decode cX8_meanOf 26 = .ok (.iaload, 1) := by decide +kernel
theorem dX8_meanOf_27 : decode cX8_meanOf 27 = .ok (.iconst 3, 1) := by decide +kernel
theorem dX8_meanOf_28 : decode cX8_meanOf 28 = .ok (.if_icmp .ne 7, 3) := by decide +kernel
theorem dX8_meanOf_31 : decode cX8_meanOf 31 = .ok (.lconst 1, 1) := by decide +kernel
theorem dX8_meanOf_32 : decode cX8_meanOf 32 = .ok (.goto 6, 3) := by decide +kernel
theorem dX8_meanOf_35 : decode cX8_meanOf 35 = .ok (.ldc2_w 201, 3) := by decide +kernel
theorem dX8_meanOf_38 : decode cX8_meanOf 38 = .ok (.lmul, 1) := by decide +kernel
theorem dX8_meanOf_39 : decode cX8_meanOf 39 = .ok (.lstore 6, 2) := by decide +kernel
theorem dX8_meanOf_41 : decode cX8_meanOf 41 = .ok (.iinc 8 1, 3) := by decide +kernel
theorem dX8_meanOf_44 : decode cX8_meanOf 44 = .ok (.goto (-35), 3) := by decide +kernel
theorem dX8_meanOf_47 : decode cX8_meanOf 47 = .ok (.iconst 0, 1) := by decide +kernel
theorem dX8_meanOf_48 : decode cX8_meanOf 48 = .ok (.istore 8, 2) := by decide +kernel
theorem dX8_meanOf_50 : decode cX8_meanOf 50 = .ok (.iload 8, 2) := by decide +kernel
theorem dX8_meanOf_52 : decode cX8_meanOf 52 = .ok (.iconst 1, 1) := by decide +kernel
theorem dX8_meanOf_53 : decode cX8_meanOf 53 = .ok (.aload_n 0, 1) := by decide +kernel
theorem dX8_meanOf_54 : decode cX8_meanOf 54 = .ok (.getfield 143, 3) := by decide +kernel
theorem dX8_meanOf_57 : decode cX8_meanOf 57 = .ok (.ishl, 1) := by decide +kernel
theorem dX8_meanOf_58 : decode cX8_meanOf 58 = .ok (.if_icmp .ge 128, 3) := by decide +kernel
theorem dX8_meanOf_61 : decode cX8_meanOf 61 = .ok (.lconst 1, 1) := by decide +kernel
theorem dX8_meanOf_62 : decode cX8_meanOf 62 = .ok (.lstore 9, 2) := by decide +kernel
theorem dX8_meanOf_64 : decode cX8_meanOf 64 = .ok (.iconst 0, 1) := by decide +kernel
theorem dX8_meanOf_65 : decode cX8_meanOf 65 = .ok (.istore 11, 2) := by decide +kernel
theorem dX8_meanOf_67 : decode cX8_meanOf 67 = .ok (.iload 11, 2) := by decide +kernel
theorem dX8_meanOf_69 : decode cX8_meanOf 69 = .ok (.aload_n 0, 1) := by decide +kernel
theorem dX8_meanOf_70 : decode cX8_meanOf 70 = .ok (.getfield 143, 3) := by decide +kernel
theorem dX8_meanOf_73 : decode cX8_meanOf 73 = .ok (.if_icmp .ge 71, 3) := by decide +kernel
theorem dX8_meanOf_76 : decode cX8_meanOf 76 = .ok (.iload 8, 2) := by decide +kernel
theorem dX8_meanOf_78 : decode cX8_meanOf 78 = .ok (.iload 11, 2) := by decide +kernel
theorem dX8_meanOf_80 : decode cX8_meanOf 80 = .ok (.ishr, 1) := by decide +kernel
theorem dX8_meanOf_81 : decode cX8_meanOf 81 = .ok (.iconst 1, 1) := by decide +kernel
theorem dX8_meanOf_82 : decode cX8_meanOf 82 = .ok (.iand, 1) := by decide +kernel
theorem dX8_meanOf_83 : decode cX8_meanOf 83 = .ok (.iconst 1, 1) := by decide +kernel
theorem dX8_meanOf_84 : decode cX8_meanOf 84 = .ok (.if_icmp .ne 7, 3) := by decide +kernel
theorem dX8_meanOf_87 : decode cX8_meanOf 87 = .ok (.iconst 1, 1) := by decide +kernel
theorem dX8_meanOf_88 : decode cX8_meanOf 88 = .ok (.goto 4, 3) := by decide +kernel
theorem dX8_meanOf_91 : decode cX8_meanOf 91 = .ok (.iconst 0, 1) := by decide +kernel
theorem dX8_meanOf_92 : decode cX8_meanOf 92 = .ok (.istore 12, 2) := by decide +kernel
theorem dX8_meanOf_94 : decode cX8_meanOf 94 = .ok (.lload 9, 2) := by decide +kernel
theorem dX8_meanOf_96 : decode cX8_meanOf 96 = .ok (.aload_n 0, 1) := by decide +kernel
theorem dX8_meanOf_97 : decode cX8_meanOf 97 = .ok (.getfield 13, 3) := by decide +kernel
theorem dX8_meanOf_100 : decode cX8_meanOf 100 = .ok (.iload 11, 2) := by decide +kernel
theorem dX8_meanOf_102 : decode cX8_meanOf 102 = .ok (.iaload, 1) := by decide +kernel
theorem dX8_meanOf_103 : decode cX8_meanOf 103 = .ok (.iconst 3, 1) := by decide +kernel
theorem dX8_meanOf_104 : decode cX8_meanOf 104 = .ok (.if_icmp .ne 16, 3) := by decide +kernel
theorem dX8_meanOf_107 : decode cX8_meanOf 107 = .ok (.iload 12, 2) := by decide +kernel
theorem dX8_meanOf_109 : decode cX8_meanOf 109 = .ok (.ifCond .eq 7, 3) := by decide +kernel
theorem dX8_meanOf_112 : decode cX8_meanOf 112 = .ok (.lconst 0, 1) := by decide +kernel
theorem dX8_meanOf_113 : decode cX8_meanOf 113 = .ok (.goto 22, 3) := by decide +kernel
theorem dX8_meanOf_116 : decode cX8_meanOf 116 = .ok (.lconst 1, 1) := by decide +kernel
theorem dX8_meanOf_117 : decode cX8_meanOf 117 = .ok (.goto 18, 3) := by decide +kernel
theorem dX8_meanOf_120 : decode cX8_meanOf 120 = .ok (.iload 12, 2) := by decide +kernel
theorem dX8_meanOf_122 : decode cX8_meanOf 122 = .ok (.ifCond .eq 8, 3) := by decide +kernel
theorem dX8_meanOf_125 : decode cX8_meanOf 125 = .ok (.iload_n 1, 1) := by decide +kernel
theorem dX8_meanOf_126 : decode cX8_meanOf 126 = .ok (.i2l, 1) := by decide +kernel
theorem dX8_meanOf_127 : decode cX8_meanOf 127 = .ok (.goto 8, 3) := by decide +kernel
theorem dX8_meanOf_130 : decode cX8_meanOf 130 = .ok (.bipush 10, 2) := by decide +kernel
theorem dX8_meanOf_132 : decode cX8_meanOf 132 = .ok (.iload_n 1, 1) := by decide +kernel
theorem dX8_meanOf_133 : decode cX8_meanOf 133 = .ok (.isub, 1) := by decide +kernel
theorem dX8_meanOf_134 : decode cX8_meanOf 134 = .ok (.i2l, 1) := by decide +kernel
theorem dX8_meanOf_135 : decode cX8_meanOf 135 = .ok (.lmul, 1) := by decide +kernel
theorem dX8_meanOf_136 : decode cX8_meanOf 136 = .ok (.lstore 9, 2) := by decide +kernel
theorem dX8_meanOf_138 : decode cX8_meanOf 138 = .ok (.iinc 11 1, 3) := by decide +kernel
theorem dX8_meanOf_141 : decode cX8_meanOf 141 = .ok (.goto (-74), 3) := by decide +kernel
theorem dX8_meanOf_144 : decode cX8_meanOf 144 = .ok (.aload_n 0, 1) := by decide +kernel
theorem dX8_meanOf_145 : decode cX8_meanOf 145 = .ok (.iload 8, 2) := by decide +kernel
theorem dX8_meanOf_147 : decode cX8_meanOf 147 = .ok (.putfield 155, 3) := by decide +kernel
theorem dX8_meanOf_150 : decode cX8_meanOf 150 = .ok (.lload 4, 2) := by decide +kernel
theorem dX8_meanOf_152 : decode cX8_meanOf 152 = .ok (.lload 9, 2) := by decide +kernel
theorem dX8_meanOf_154 : decode cX8_meanOf 154 = .ok (.lconst 0, 1) := by decide +kernel
theorem dX8_meanOf_155 : decode cX8_meanOf 155 = .ok (.lcmp, 1) := by decide +kernel
theorem dX8_meanOf_156 : decode cX8_meanOf 156 = .ok (.ifCond .ne 7, 3) := by decide +kernel
theorem dX8_meanOf_159 : decode cX8_meanOf 159 = .ok (.lconst 0, 1) := by decide +kernel
theorem dX8_meanOf_160 : decode cX8_meanOf 160 = .ok (.goto 17, 3) := by decide +kernel
theorem dX8_meanOf_163 : decode cX8_meanOf 163 = .ok (.lload 9, 2) := by decide +kernel
theorem dX8_meanOf_165 : decode cX8_meanOf 165 = .ok (.aload_n 0, 1) := by decide +kernel
theorem dX8_meanOf_166 : decode cX8_meanOf 166 = .ok (.iconst 0, 1) := by decide +kernel
theorem dX8_meanOf_167 : decode cX8_meanOf 167 = .ok (.invokevirtual 214, 3) := by decide +kernel
theorem dX8_meanOf_170 : decode cX8_meanOf 170 = .ok (.iload_n 2, 1) := by decide +kernel
theorem dX8_meanOf_171 : decode cX8_meanOf 171 = .ok (.iand, 1) := by decide +kernel
theorem dX8_meanOf_172 : decode cX8_meanOf 172 = .ok (.invokestatic 229, 3) := by decide +kernel
theorem dX8_meanOf_175 : decode cX8_meanOf 175 = .ok (.i2l, 1) := by decide +kernel
theorem dX8_meanOf_176 : decode cX8_meanOf 176 = .ok (.lmul, 1) := by decide +kernel
theorem dX8_meanOf_177 : decode cX8_meanOf 177 = .ok (.ladd, 1) := by decide +kernel
theorem dX8_meanOf_178 : decode cX8_meanOf 178 = .ok (.lstore 4, 2) := by decide +kernel
theorem dX8_meanOf_180 : decode cX8_meanOf 180 = .ok (.iinc 8 1, 3) := by decide +kernel
theorem dX8_meanOf_183 : decode cX8_meanOf 183 = .ok (.goto (-133), 3) := by decide +kernel
theorem dX8_meanOf_186 : decode cX8_meanOf 186 = .ok (.aload_n 0, 1) := by decide +kernel
theorem dX8_meanOf_187 : decode cX8_meanOf 187 = .ok (.iconst 0, 1) := by decide +kernel
theorem dX8_meanOf_188 : decode cX8_meanOf 188 = .ok (.putfield 155, 3) := by decide +kernel
theorem dX8_meanOf_191 : decode cX8_meanOf 191 = .ok (.lload 4, 2) := by decide +kernel
theorem dX8_meanOf_193 : decode cX8_meanOf 193 = .ok (.lload 6, 2) := by decide +kernel
theorem dX8_meanOf_195 : decode cX8_meanOf 195 = .ok (.iload_n 3, 1) := by decide +kernel
theorem dX8_meanOf_196 : decode cX8_meanOf 196 = .ok (.invokestatic 235, 3) := by decide +kernel
theorem dX8_meanOf_199 : decode cX8_meanOf 199 = .ok (.lreturn, 1) := by decide +kernel
theorem mkX8_meanOf : mokV qX8_meanOf 3 := ⟨⟨⟨⟨by decide, by decide, by decide +kernel⟩, by decide⟩, gd_mem 59 (by decide +kernel) (by decide +kernel), gd_mem 1239 (by decide +kernel) (by decide +kernel)⟩, gd_mem 1238 (by decide +kernel) (by decide +kernel), gd_mem 46 (by decide +kernel) (by decide +kernel)⟩
abbrev qX8_drift : mMI := (yX8_drift, cX8_drift, 7, (some .int), 6)
theorem dX8_drift_0 : decode cX8_drift 0 = .ok (.iload_n 2, 1) := by decide +kernel
theorem dX8_drift_1 : decode cX8_drift 1 = .ok (.i2l, 1) := by decide +kernel
theorem dX8_drift_2 : decode cX8_drift 2 = .ok (.lconst 1, 1) := by decide +kernel
theorem dX8_drift_3 : decode cX8_drift 3 = .ok (.ldc2_w 185, 3) := by decide +kernel
theorem dX8_drift_6 : decode cX8_drift 6 = .ok (.invokestatic 67, 3) := by decide +kernel
theorem dX8_drift_9 : decode cX8_drift 9 = .ok (.ifCond .eq 13, 3) := by decide +kernel
theorem dX8_drift_12 : decode cX8_drift 12 = .ok (.iload_n 3, 1) := by decide +kernel
theorem dX8_drift_13 : decode cX8_drift 13 = .ok (.i2l, 1) := by decide +kernel
theorem dX8_drift_14 : decode cX8_drift 14 = .ok (.lconst 0, 1) := by decide +kernel
theorem dX8_drift_15 : decode cX8_drift 15 = .ok (.lconst 1, 1) := by decide +kernel
theorem dX8_drift_16 : decode cX8_drift 16 = .ok (.invokestatic 67, 3) := by decide +kernel
theorem dX8_drift_19 : decode cX8_drift 19 = .ok (.ifCond .ne 5, 3) := by decide +kernel
theorem dX8_drift_22 : decode cX8_drift 22 = .ok (.iconst (-1), 1) := by decide +kernel
theorem dX8_drift_23 : decode cX8_drift 23 = .ok (.ireturn, 1) := by decide +kernel
theorem dX8_drift_24 : decode cX8_drift 24 = .ok (.aload_n 0, 1) := by decide +kernel
theorem dX8_drift_25 : decode cX8_drift 25 = .ok (.getfield 146, 3) := by decide +kernel
theorem dX8_drift_28 : decode cX8_drift 28 = .ok (.ifCond .ne 6, 3) := by decide +kernel
theorem dX8_drift_31 : decode cX8_drift 31 = .ok (.bipush (-2), 2) := by decide +kernel
theorem dX8_drift_33 : decode cX8_drift 33 = .ok (.ireturn, 1) := by decide +kernel
theorem dX8_drift_34 : decode cX8_drift 34 = .ok (.aload_n 0, 1) := by decide +kernel
theorem dX8_drift_35 : decode cX8_drift 35 = .ok (.iconst 0, 1) := by decide +kernel
theorem dX8_drift_36 : decode cX8_drift 36 = .ok (.sipush 140, 3) := by decide +kernel
theorem dX8_drift_39 : decode cX8_drift 39 = .ok (.invokevirtual 223, 3) := by decide +kernel
theorem dX8_drift_42 : decode cX8_drift 42 = .ok (.iload_n 1, 1) := by decide +kernel
theorem dX8_drift_43 : decode cX8_drift 43 = .ok (.istore 4, 2) := by decide +kernel
theorem dX8_drift_45 : decode cX8_drift 45 = .ok (.iconst 0, 1) := by decide +kernel
theorem dX8_drift_46 : decode cX8_drift 46 = .ok (.istore 5, 2) := by decide +kernel
theorem dX8_drift_48 : decode cX8_drift 48 = .ok (.iconst 0, 1) := by decide +kernel
theorem dX8_drift_49 : decode cX8_drift 49 = .ok (.istore 6, 2) := by decide +kernel
theorem dX8_drift_51 : decode cX8_drift 51 = .ok (.iload 6, 2) := by decide +kernel
theorem dX8_drift_53 : decode cX8_drift 53 = .ok (.iload_n 2, 1) := by decide +kernel
theorem dX8_drift_54 : decode cX8_drift 54 = .ok (.if_icmp .ge 55, 3) := by decide +kernel
theorem dX8_drift_57 : decode cX8_drift 57 = .ok (.iload 4, 2) := by decide +kernel
theorem dX8_drift_59 : decode cX8_drift 59 = .ok (.ldc_w 256, 3) := by decide +kernel
theorem dX8_drift_62 : decode cX8_drift 62 = .ok (.imul, 1) := by decide +kernel
theorem dX8_drift_63 : decode cX8_drift 63 = .ok (.sipush 12345, 3) := by decide +kernel
theorem dX8_drift_66 : decode cX8_drift 66 = .ok (.iadd, 1) := by decide +kernel
theorem dX8_drift_67 : decode cX8_drift 67 = .ok (.istore 4, 2) := by decide +kernel
theorem dX8_drift_69 : decode cX8_drift 69 = .ok (.iload 5, 2) := by decide +kernel
theorem dX8_drift_71 : decode cX8_drift 71 = .ok (.aload_n 0, 1) := by decide +kernel
theorem dX8_drift_72 : decode cX8_drift 72 = .ok (.sipush 140, 3) := by decide +kernel
theorem dX8_drift_75 : decode cX8_drift 75 = .ok (.iload 4, 2) := by decide +kernel
theorem dX8_drift_77 : decode cX8_drift 77 = .ok (.bipush 16, 2) := by decide +kernel
theorem dX8_drift_79 : decode cX8_drift 79 = .ok (.ishr, 1) := by decide +kernel
theorem dX8_drift_80 : decode cX8_drift 80 = .ok (.sipush 32767, 3) := by decide +kernel
theorem dX8_drift_83 : decode cX8_drift 83 = .ok (.iand, 1) := by decide +kernel
theorem dX8_drift_84 : decode cX8_drift 84 = .ok (.aload_n 0, 1) := by decide +kernel
theorem dX8_drift_85 : decode cX8_drift 85 = .ok (.getfield 146, 3) := by decide +kernel
theorem dX8_drift_88 : decode cX8_drift 88 = .ok (.irem, 1) := by decide +kernel
theorem dX8_drift_89 : decode cX8_drift 89 = .ok (.invokevirtual 217, 3) := by decide +kernel
theorem dX8_drift_92 : decode cX8_drift 92 = .ok (.ifCond .eq 7, 3) := by decide +kernel
theorem dX8_drift_95 : decode cX8_drift 95 = .ok (.iconst 1, 1) := by decide +kernel
theorem dX8_drift_96 : decode cX8_drift 96 = .ok (.goto 4, 3) := by decide +kernel
theorem dX8_drift_99 : decode cX8_drift 99 = .ok (.iconst 0, 1) := by decide +kernel
theorem dX8_drift_100 : decode cX8_drift 100 = .ok (.iadd, 1) := by decide +kernel
theorem dX8_drift_101 : decode cX8_drift 101 = .ok (.istore 5, 2) := by decide +kernel
theorem dX8_drift_103 : decode cX8_drift 103 = .ok (.iinc 6 1, 3) := by decide +kernel
theorem dX8_drift_106 : decode cX8_drift 106 = .ok (.goto (-55), 3) := by decide +kernel
theorem dX8_drift_109 : decode cX8_drift 109 = .ok (.iload_n 3, 1) := by decide +kernel
theorem dX8_drift_110 : decode cX8_drift 110 = .ok (.ifCond .ne 8, 3) := by decide +kernel
theorem dX8_drift_113 : decode cX8_drift 113 = .ok (.iload 5, 2) := by decide +kernel
theorem dX8_drift_115 : decode cX8_drift 115 = .ok (.goto 10, 3) := by decide +kernel
theorem dX8_drift_118 : decode cX8_drift 118 = .ok (.aload_n 0, 1) := by decide +kernel
theorem dX8_drift_119 : decode cX8_drift 119 = .ok (.sipush 140, 3) := by decide +kernel
theorem dX8_drift_122 : decode cX8_drift 122 = .ok (.invokevirtual 226, 3) := by decide +kernel
theorem dX8_drift_125 : decode cX8_drift 125 = .ok (.ireturn, 1) := by decide +kernel
theorem mkX8_drift : mokV qX8_drift 3 := ⟨⟨⟨⟨by decide, by decide, by decide +kernel⟩, by decide⟩, gd_mem 59 (by decide +kernel) (by decide +kernel), gd_mem 1280 (by decide +kernel) (by decide +kernel)⟩, gd_mem 1278 (by decide +kernel) (by decide +kernel), gd_mem 1279 (by decide +kernel) (by decide +kernel)⟩
abbrev qX8_read : mMI := (yX8_read, cX8_read, 8, (some .int), 6)
theorem dX8_read_0 : decode cX8_read 0 = .ok (.iload_n 1, 1) := by decide +kernel
theorem dX8_read_1 : decode cX8_read 1 = .ok (.i2l, 1) := by decide +kernel
theorem dX8_read_2 : decode cX8_read 2 = .ok (.lconst 0, 1) := by decide +kernel
theorem dX8_read_3 : decode cX8_read 3 = .ok (.ldc2_w 193, 3) := by decide +kernel
theorem dX8_read_6 : decode cX8_read 6 = .ok (.invokestatic 67, 3) := by decide +kernel
theorem dX8_read_9 : decode cX8_read 9 = .ok (.ifCond .eq 28, 3) := by decide +kernel
theorem dX8_read_12 : decode cX8_read 12 = .ok (.iload_n 2, 1) := by decide +kernel
theorem dX8_read_13 : decode cX8_read 13 = .ok (.i2l, 1) := by decide +kernel
theorem dX8_read_14 : decode cX8_read 14 = .ok (.lconst 0, 1) := by decide +kernel
theorem dX8_read_15 : decode cX8_read 15 = .ok (.ldc2_w 257, 3) := by decide +kernel
theorem dX8_read_18 : decode cX8_read 18 = .ok (.invokestatic 67, 3) := by decide +kernel
theorem dX8_read_21 : decode cX8_read 21 = .ok (.ifCond .eq 16, 3) := by decide +kernel
theorem dX8_read_24 : decode cX8_read 24 = .ok (.iload 4, 2) := by decide +kernel
theorem dX8_read_26 : decode cX8_read 26 = .ok (.i2l, 1) := by decide +kernel
theorem dX8_read_27 : decode cX8_read 27 = .ok (.lconst 0, 1) := by decide +kernel
theorem dX8_read_28 : decode cX8_read 28 = .ok (.ldc2_w 259, 3) := by decide +kernel
theorem dX8_read_31 : decode cX8_read 31 = .ok (.invokestatic 67, 3) := by decide +kernel
theorem dX8_read_34 : decode cX8_read 34 = .ok (.ifCond .ne 5, 3) := by decide +kernel
theorem dX8_read_37 : decode cX8_read 37 = .ok (.iconst (-1), 1) := by decide +kernel
theorem dX8_read_38 : decode cX8_read 38 = .ok (.ireturn, 1) := by decide +kernel
theorem dX8_read_39 : decode cX8_read 39 = .ok (.aload_n 0, 1) := by decide +kernel
theorem dX8_read_40 : decode cX8_read 40 = .ok (.iconst 0, 1) := by decide +kernel
theorem dX8_read_41 : decode cX8_read 41 = .ok (.bipush 105, 2) := by decide +kernel
theorem dX8_read_43 : decode cX8_read 43 = .ok (.invokevirtual 223, 3) := by decide +kernel
theorem dX8_read_46 : decode cX8_read 46 = .ok (.iconst 0, 1) := by decide +kernel
theorem dX8_read_47 : decode cX8_read 47 = .ok (.istore 5, 2) := by decide +kernel
theorem dX8_read_49 : decode cX8_read 49 = .ok (.iconst 0, 1) := by decide +kernel
theorem dX8_read_50 : decode cX8_read 50 = .ok (.istore 6, 2) := by decide +kernel
theorem dX8_read_52 : decode cX8_read 52 = .ok (.iload 6, 2) := by decide +kernel
theorem dX8_read_54 : decode cX8_read 54 = .ok (.iload 4, 2) := by decide +kernel
theorem dX8_read_56 : decode cX8_read 56 = .ok (.if_icmp .ge 125, 3) := by decide +kernel
theorem dX8_read_59 : decode cX8_read 59 = .ok (.iload 5, 2) := by decide +kernel
theorem dX8_read_61 : decode cX8_read 61 = .ok (.ifCond .ne 120, 3) := by decide +kernel
theorem dX8_read_64 : decode cX8_read 64 = .ok (.aload_n 0, 1) := by decide +kernel
theorem dX8_read_65 : decode cX8_read 65 = .ok (.getfield 56, 3) := by decide +kernel
theorem dX8_read_68 : decode cX8_read 68 = .ok (.iload_n 1, 1) := by decide +kernel
theorem dX8_read_69 : decode cX8_read 69 = .ok (.iaload, 1) := by decide +kernel
theorem dX8_read_70 : decode cX8_read 70 = .ok (.bipush (-4), 2) := by decide +kernel
theorem dX8_read_72 : decode cX8_read 72 = .ok (.if_icmp .ne 7, 3) := by decide +kernel
theorem dX8_read_75 : decode cX8_read 75 = .ok (.iconst 1, 1) := by decide +kernel
theorem dX8_read_76 : decode cX8_read 76 = .ok (.goto 44, 3) := by decide +kernel
theorem dX8_read_79 : decode cX8_read 79 = .ok (.aload_n 0, 1) := by decide +kernel
theorem dX8_read_80 : decode cX8_read 80 = .ok (.getfield 56, 3) := by decide +kernel
theorem dX8_read_83 : decode cX8_read 83 = .ok (.iload_n 1, 1) := by decide +kernel
theorem dX8_read_84 : decode cX8_read 84 = .ok (.iaload, 1) := by decide +kernel
theorem dX8_read_85 : decode cX8_read 85 = .ok (.iload_n 2, 1) := by decide +kernel
theorem dX8_read_86 : decode cX8_read 86 = .ok (.if_icmp .eq 7, 3) := by decide +kernel
theorem dX8_read_89 : decode cX8_read 89 = .ok (.iconst 3, 1) := by decide +kernel
theorem dX8_read_90 : decode cX8_read 90 = .ok (.goto 30, 3) := by decide +kernel
theorem dX8_read_93 : decode cX8_read 93 = .ok (.iload_n 3, 1) := by decide +kernel
theorem dX8_read_94 : decode cX8_read 94 = .ok (.i2l, 1) := by decide +kernel
theorem dX8_read_95 : decode cX8_read 95 = .ok (.iload 6, 2) := by decide +kernel
theorem dX8_read_97 : decode cX8_read 97 = .ok (.i2l, 1) := by decide +kernel
theorem dX8_read_98 : decode cX8_read 98 = .ok (.ladd, 1) := by decide +kernel
theorem dX8_read_99 : decode cX8_read 99 = .ok (.lconst 0, 1) := by decide +kernel
theorem dX8_read_100 : decode cX8_read 100 = .ok (.aload_n 0, 1) := by decide +kernel
theorem dX8_read_101 : decode cX8_read 101 = .ok (.getfield 59, 3) := by decide +kernel
theorem dX8_read_104 : decode cX8_read 104 = .ok (.iload_n 1, 1) := by decide +kernel
theorem dX8_read_105 : decode cX8_read 105 = .ok (.iaload, 1) := by decide +kernel
theorem dX8_read_106 : decode cX8_read 106 = .ok (.iconst 1, 1) := by decide +kernel
theorem dX8_read_107 : decode cX8_read 107 = .ok (.isub, 1) := by decide +kernel
theorem dX8_read_108 : decode cX8_read 108 = .ok (.i2l, 1) := by decide +kernel
theorem dX8_read_109 : decode cX8_read 109 = .ok (.invokestatic 67, 3) := by decide +kernel
theorem dX8_read_112 : decode cX8_read 112 = .ok (.ifCond .ne 7, 3) := by decide +kernel
theorem dX8_read_115 : decode cX8_read 115 = .ok (.iconst 2, 1) := by decide +kernel
theorem dX8_read_116 : decode cX8_read 116 = .ok (.goto 4, 3) := by decide +kernel
theorem dX8_read_119 : decode cX8_read 119 = .ok (.iconst 0, 1) := by decide +kernel
theorem dX8_read_120 : decode cX8_read 120 = .ok (.istore 5, 2) := by decide +kernel
theorem dX8_read_122 : decode cX8_read 122 = .ok (.iload 5, 2) := by decide +kernel
theorem dX8_read_124 : decode cX8_read 124 = .ok (.ifCond .ne (-72), 3) := by decide +kernel
theorem dX8_read_127 : decode cX8_read 127 = .ok (.aload_n 0, 1) := by decide +kernel
theorem dX8_read_128 : decode cX8_read 128 = .ok (.getfield 62, 3) := by decide +kernel
theorem dX8_read_131 : decode cX8_read 131 = .ok (.bipush 40, 2) := by decide +kernel
theorem dX8_read_133 : decode cX8_read 133 = .ok (.iload_n 1, 1) := by decide +kernel
theorem dX8_read_134 : decode cX8_read 134 = .ok (.imul, 1) := by decide +kernel
theorem dX8_read_135 : decode cX8_read 135 = .ok (.iload_n 3, 1) := by decide +kernel
theorem dX8_read_136 : decode cX8_read 136 = .ok (.iadd, 1) := by decide +kernel
theorem dX8_read_137 : decode cX8_read 137 = .ok (.iload 6, 2) := by decide +kernel
theorem dX8_read_139 : decode cX8_read 139 = .ok (.iadd, 1) := by decide +kernel
theorem dX8_read_140 : decode cX8_read 140 = .ok (.iaload, 1) := by decide +kernel
theorem dX8_read_141 : decode cX8_read 141 = .ok (.istore 7, 2) := by decide +kernel
theorem dX8_read_143 : decode cX8_read 143 = .ok (.aload_n 0, 1) := by decide +kernel
theorem dX8_read_144 : decode cX8_read 144 = .ok (.iload 7, 2) := by decide +kernel
theorem dX8_read_146 : decode cX8_read 146 = .ok (.invokevirtual 176, 3) := by decide +kernel
theorem dX8_read_149 : decode cX8_read 149 = .ok (.ifCond .eq 13, 3) := by decide +kernel
theorem dX8_read_152 : decode cX8_read 152 = .ok (.aload_n 0, 1) := by decide +kernel
theorem dX8_read_153 : decode cX8_read 153 = .ok (.iconst 0, 1) := by decide +kernel
theorem dX8_read_154 : decode cX8_read 154 = .ok (.iload 7, 2) := by decide +kernel
theorem dX8_read_156 : decode cX8_read 156 = .ok (.invokevirtual 217, 3) := by decide +kernel
theorem dX8_read_159 : decode cX8_read 159 = .ok (.ifCond .ne 16, 3) := by decide +kernel
theorem dX8_read_162 : decode cX8_read 162 = .ok (.aload_n 0, 1) := by decide +kernel
theorem dX8_read_163 : decode cX8_read 163 = .ok (.bipush 105, 2) := by decide +kernel
theorem dX8_read_165 : decode cX8_read 165 = .ok (.iconst 0, 1) := by decide +kernel
theorem dX8_read_166 : decode cX8_read 166 = .ok (.invokevirtual 223, 3) := by decide +kernel
theorem dX8_read_169 : decode cX8_read 169 = .ok (.bipush (-20), 2) := by decide +kernel
theorem dX8_read_171 : decode cX8_read 171 = .ok (.iload 6, 2) := by decide +kernel
theorem dX8_read_173 : decode cX8_read 173 = .ok (.isub, 1) := by decide +kernel
theorem dX8_read_174 : decode cX8_read 174 = .ok (.ireturn, 1) := by decide +kernel
theorem dX8_read_175 : decode cX8_read 175 = .ok (.iinc 6 1, 3) := by decide +kernel
theorem dX8_read_178 : decode cX8_read 178 = .ok (.goto (-126), 3) := by decide +kernel
theorem dX8_read_181 : decode cX8_read 181 = .ok (.aload_n 0, 1) := by decide +kernel
theorem dX8_read_182 : decode cX8_read 182 = .ok (.iload 5, 2) := by decide +kernel
theorem dX8_read_184 : decode cX8_read 184 = .ok (.putfield 261, 3) := by decide +kernel
theorem dX8_read_187 : decode cX8_read 187 = .ok (.iload 6, 2) := by decide +kernel
theorem dX8_read_189 : decode cX8_read 189 = .ok (.ireturn, 1) := by decide +kernel
theorem mkX8_read : mokV qX8_read 4 := ⟨⟨⟨⟨by decide, by decide, by decide +kernel⟩, by decide⟩, gd_mem 59 (by decide +kernel) (by decide +kernel), gd_mem 1302 (by decide +kernel) (by decide +kernel)⟩, gd_mem 1300 (by decide +kernel) (by decide +kernel), gd_mem 1301 (by decide +kernel) (by decide +kernel)⟩
abbrev qX8_count : mMI := (yX8_count, cX8_count, 4, (some .int), 6)
theorem dX8_count_0 : decode cX8_count 0 = .ok (.iconst 0, 1) := by decide +kernel
theorem dX8_count_1 : decode cX8_count 1 = .ok (.istore_n 2, 1) := by decide +kernel
theorem dX8_count_2 : decode cX8_count 2 = .ok (.iconst 0, 1) := by decide +kernel
theorem dX8_count_3 : decode cX8_count 3 = .ok (.istore_n 3, 1) := by decide +kernel
theorem dX8_count_4 : decode cX8_count 4 = .ok (.iload_n 3, 1) := by decide +kernel
theorem dX8_count_5 : decode cX8_count 5 = .ok (.aload_n 0, 1) := by decide +kernel
theorem dX8_count_6 : decode cX8_count 6 = .ok (.getfield 143, 3) := by decide +kernel
theorem dX8_count_9 : decode cX8_count 9 = .ok (.if_icmp .ge 22, 3) := by decide +kernel
theorem dX8_count_12 : decode cX8_count 12 = .ok (.iload_n 2, 1) := by decide +kernel
theorem dX8_count_13 : decode cX8_count 13 = .ok (.aload_n 0, 1) := by decide +kernel
theorem dX8_count_14 : decode cX8_count 14 = .ok (.getfield 7, 3) := by decide +kernel
theorem dX8_count_17 : decode cX8_count 17 = .ok (.iconst 2, 1) := by decide +kernel
theorem dX8_count_18 : decode cX8_count 18 = .ok (.iload_n 3, 1) := by decide +kernel
theorem dX8_count_19 : decode cX8_count 19 = .ok (.imul, 1) := by decide +kernel
theorem dX8_count_20 : decode cX8_count 20 = .ok (.iconst 1, 1) := by decide +kernel
theorem dX8_count_21 : decode cX8_count 21 = .ok (.iadd, 1) := by decide +kernel
theorem dX8_count_22 : decode cX8_count 22 = .ok (.iaload, 1) := by decide +kernel
theorem dX8_count_23 : decode cX8_count 23 = .ok (.iadd, 1) := by decide +kernel
theorem dX8_count_24 : decode cX8_count 24 = .ok (.istore_n 2, 1) := by decide +kernel
theorem dX8_count_25 : decode cX8_count 25 = .ok (.iinc 3 1, 3) := by decide +kernel
theorem dX8_count_28 : decode cX8_count 28 = .ok (.goto (-24), 3) := by decide +kernel
theorem dX8_count_31 : decode cX8_count 31 = .ok (.iload_n 1, 1) := by decide +kernel
theorem dX8_count_32 : decode cX8_count 32 = .ok (.tableswitch 127 0 6 #[44, 49, 79, 84, 107, 116, 118], 44) := by decide +kernel
theorem dX8_count_76 : decode cX8_count 76 = .ok (.aload_n 0, 1) := by decide +kernel
theorem dX8_count_77 : decode cX8_count 77 = .ok (.getfield 149, 3) := by decide +kernel
theorem dX8_count_80 : decode cX8_count 80 = .ok (.ireturn, 1) := by decide +kernel
theorem dX8_count_81 : decode cX8_count 81 = .ok (.aload_n 0, 1) := by decide +kernel
theorem dX8_count_82 : decode cX8_count 82 = .ok (.getfield 52, 3) := by decide +kernel
theorem dX8_count_85 : decode cX8_count 85 = .ok (.iconst 0, 1) := by decide +kernel
theorem dX8_count_86 : decode cX8_count 86 = .ok (.baload, 1) := by decide +kernel
theorem dX8_count_87 : decode cX8_count 87 = .ok (.ifCond .eq 7, 3) := by decide +kernel
theorem dX8_count_90 : decode cX8_count 90 = .ok (.iconst 1, 1) := by decide +kernel
theorem dX8_count_91 : decode cX8_count 91 = .ok (.goto 4, 3) := by decide +kernel
theorem dX8_count_94 : decode cX8_count 94 = .ok (.iconst 0, 1) := by decide +kernel
theorem dX8_count_95 : decode cX8_count 95 = .ok (.aload_n 0, 1) := by decide +kernel
theorem dX8_count_96 : decode cX8_count 96 = .ok (.getfield 52, 3) := by decide +kernel
theorem dX8_count_99 : decode cX8_count 99 = .ok (.iconst 1, 1) := by decide +kernel
theorem dX8_count_100 : decode cX8_count 100 = .ok (.baload, 1) := by decide +kernel
theorem dX8_count_101 : decode cX8_count 101 = .ok (.ifCond .eq 7, 3) := by decide +kernel
theorem dX8_count_104 : decode cX8_count 104 = .ok (.iconst 1, 1) := by decide +kernel
theorem dX8_count_105 : decode cX8_count 105 = .ok (.goto 4, 3) := by decide +kernel
theorem dX8_count_108 : decode cX8_count 108 = .ok (.iconst 0, 1) := by decide +kernel
theorem dX8_count_109 : decode cX8_count 109 = .ok (.iadd, 1) := by decide +kernel
theorem dX8_count_110 : decode cX8_count 110 = .ok (.ireturn, 1) := by decide +kernel
theorem dX8_count_111 : decode cX8_count 111 = .ok (.aload_n 0, 1) := by decide +kernel
theorem dX8_count_112 : decode cX8_count 112 = .ok (.getfield 71, 3) := by decide +kernel
theorem dX8_count_115 : decode cX8_count 115 = .ok (.ireturn, 1) := by decide +kernel
theorem dX8_count_116 : decode cX8_count 116 = .ok (.aload_n 0, 1) := by decide +kernel
theorem dX8_count_117 : decode cX8_count 117 = .ok (.getfield 56, 3) := by decide +kernel
theorem dX8_count_120 : decode cX8_count 120 = .ok (.iconst 0, 1) := by decide +kernel
theorem dX8_count_121 : decode cX8_count 121 = .ok (.iaload, 1) := by decide +kernel
theorem dX8_count_122 : decode cX8_count 122 = .ok (.bipush (-4), 2) := by decide +kernel
theorem dX8_count_124 : decode cX8_count 124 = .ok (.if_icmp .ne 8, 3) := by decide +kernel
theorem dX8_count_127 : decode cX8_count 127 = .ok (.bipush (-4), 2) := by decide +kernel
theorem dX8_count_129 : decode cX8_count 129 = .ok (.goto 9, 3) := by decide +kernel
theorem dX8_count_132 : decode cX8_count 132 = .ok (.aload_n 0, 1) := by decide +kernel
theorem dX8_count_133 : decode cX8_count 133 = .ok (.getfield 59, 3) := by decide +kernel
theorem dX8_count_136 : decode cX8_count 136 = .ok (.iconst 0, 1) := by decide +kernel
theorem dX8_count_137 : decode cX8_count 137 = .ok (.iaload, 1) := by decide +kernel
theorem dX8_count_138 : decode cX8_count 138 = .ok (.ireturn, 1) := by decide +kernel
theorem dX8_count_139 : decode cX8_count 139 = .ok (.aload_n 0, 1) := by decide +kernel
theorem dX8_count_140 : decode cX8_count 140 = .ok (.iconst 0, 1) := by decide +kernel
theorem dX8_count_141 : decode cX8_count 141 = .ok (.invokevirtual 226, 3) := by decide +kernel
theorem dX8_count_144 : decode cX8_count 144 = .ok (.invokestatic 229, 3) := by decide +kernel
theorem dX8_count_147 : decode cX8_count 147 = .ok (.ireturn, 1) := by decide +kernel
theorem dX8_count_148 : decode cX8_count 148 = .ok (.iload_n 2, 1) := by decide +kernel
theorem dX8_count_149 : decode cX8_count 149 = .ok (.ireturn, 1) := by decide +kernel
theorem dX8_count_150 : decode cX8_count 150 = .ok (.aload_n 0, 1) := by decide +kernel
theorem dX8_count_151 : decode cX8_count 151 = .ok (.iconst 0, 1) := by decide +kernel
theorem dX8_count_152 : decode cX8_count 152 = .ok (.invokevirtual 214, 3) := by decide +kernel
theorem dX8_count_155 : decode cX8_count 155 = .ok (.invokestatic 229, 3) := by decide +kernel
theorem dX8_count_158 : decode cX8_count 158 = .ok (.ireturn, 1) := by decide +kernel
theorem dX8_count_159 : decode cX8_count 159 = .ok (.iconst (-1), 1) := by decide +kernel
theorem dX8_count_160 : decode cX8_count 160 = .ok (.ireturn, 1) := by decide +kernel
theorem mkX8_count : mokV qX8_count 1 := ⟨⟨⟨⟨by decide, by decide, by decide +kernel⟩, by decide⟩, gd_mem 59 (by decide +kernel) (by decide +kernel), gd_mem 1311 (by decide +kernel) (by decide +kernel)⟩, gd_mem 1309 (by decide +kernel) (by decide +kernel), gd_mem 1310 (by decide +kernel) (by decide +kernel)⟩
abbrev qX8_day : mMI := (yX8_day, cX8_day, 2, (some .int), 7)
theorem dX8_day_0 : decode cX8_day 0 = .ok (.iload_n 1, 1) := by decide +kernel
theorem dX8_day_1 : decode cX8_day 1 = .ok (.i2l, 1) := by decide +kernel
theorem dX8_day_2 : decode cX8_day 2 = .ok (.lconst 0, 1) := by decide +kernel
theorem dX8_day_3 : decode cX8_day 3 = .ok (.ldc2_w 185, 3) := by decide +kernel
theorem dX8_day_6 : decode cX8_day 6 = .ok (.invokestatic 67, 3) := by decide +kernel
theorem dX8_day_9 : decode cX8_day 9 = .ok (.ifCond .ne 5, 3) := by decide +kernel
theorem dX8_day_12 : decode cX8_day 12 = .ok (.iconst (-1), 1) := by decide +kernel
theorem dX8_day_13 : decode cX8_day 13 = .ok (.ireturn, 1) := by decide +kernel
theorem dX8_day_14 : decode cX8_day 14 = .ok (.aload_n 0, 1) := by decide +kernel
theorem dX8_day_15 : decode cX8_day 15 = .ok (.getfield 7, 3) := by decide +kernel
theorem dX8_day_18 : decode cX8_day 18 = .ok (.bipush 34, 2) := by decide +kernel
theorem dX8_day_20 : decode cX8_day 20 = .ok (.iaload, 1) := by decide +kernel
theorem dX8_day_21 : decode cX8_day 21 = .ok (.iload_n 1, 1) := by decide +kernel
theorem dX8_day_22 : decode cX8_day 22 = .ok (.iadd, 1) := by decide +kernel
theorem dX8_day_23 : decode cX8_day 23 = .ok (.sipush 999, 3) := by decide +kernel
theorem dX8_day_26 : decode cX8_day 26 = .ok (.if_icmp .le 8, 3) := by decide +kernel
theorem dX8_day_29 : decode cX8_day 29 = .ok (.bipush (-3), 2) := by decide +kernel
theorem dX8_day_31 : decode cX8_day 31 = .ok (.goto 9, 3) := by decide +kernel
theorem dX8_day_34 : decode cX8_day 34 = .ok (.aload_n 0, 1) := by decide +kernel
theorem dX8_day_35 : decode cX8_day 35 = .ok (.iconst 0, 1) := by decide +kernel
theorem dX8_day_36 : decode cX8_day 36 = .ok (.iload_n 1, 1) := by decide +kernel
theorem dX8_day_37 : decode cX8_day 37 = .ok (.invokevirtual 220, 3) := by decide +kernel
theorem dX8_day_40 : decode cX8_day 40 = .ok (.ireturn, 1) := by decide +kernel
theorem mkX8_day : mokV qX8_day 1 := ⟨⟨⟨⟨by decide, by decide, by decide +kernel⟩, by decide⟩, gd_mem 59 (by decide +kernel) (by decide +kernel), gd_mem 1176 (by decide +kernel) (by decide +kernel)⟩, gd_mem 1174 (by decide +kernel) (by decide +kernel), gd_mem 1175 (by decide +kernel) (by decide +kernel)⟩
abbrev qX8_ahead : mMI := (yX8_ahead, cX8_ahead, 4, (some .int), 7)
theorem dX8_ahead_0 : decode cX8_ahead 0 = .ok (.iload_n 1, 1) := by decide +kernel
theorem dX8_ahead_1 : decode cX8_ahead 1 = .ok (.i2l, 1) := by decide +kernel
theorem dX8_ahead_2 : decode cX8_ahead 2 = .ok (.lconst 0, 1) := by decide +kernel
theorem dX8_ahead_3 : decode cX8_ahead 3 = .ok (.ldc2_w 185, 3) := by decide +kernel
theorem dX8_ahead_6 : decode cX8_ahead 6 = .ok (.invokestatic 67, 3) := by decide +kernel
theorem dX8_ahead_9 : decode cX8_ahead 9 = .ok (.ifCond .eq 32, 3) := by decide +kernel
theorem dX8_ahead_12 : decode cX8_ahead 12 = .ok (.iload_n 2, 1) := by decide +kernel
theorem dX8_ahead_13 : decode cX8_ahead 13 = .ok (.i2l, 1) := by decide +kernel
theorem dX8_ahead_14 : decode cX8_ahead 14 = .ok (.lconst 0, 1) := by decide +kernel
theorem dX8_ahead_15 : decode cX8_ahead 15 = .ok (.lconst 1, 1) := by decide +kernel
theorem dX8_ahead_16 : decode cX8_ahead 16 = .ok (.invokestatic 67, 3) := by decide +kernel
theorem dX8_ahead_19 : decode cX8_ahead 19 = .ok (.ifCond .ne 24, 3) := by decide +kernel
theorem dX8_ahead_22 : decode cX8_ahead 22 = .ok (.iload_n 2, 1) := by decide +kernel
theorem dX8_ahead_23 : decode cX8_ahead 23 = .ok (.i2l, 1) := by decide +kernel
theorem dX8_ahead_24 : decode cX8_ahead 24 = .ok (.ldc2_w 201, 3) := by decide +kernel
theorem dX8_ahead_27 : decode cX8_ahead 27 = .ok (.bipush 9, 2) := by decide +kernel
theorem dX8_ahead_29 : decode cX8_ahead 29 = .ok (.aload_n 0, 1) := by decide +kernel
theorem dX8_ahead_30 : decode cX8_ahead 30 = .ok (.getfield 143, 3) := by decide +kernel
theorem dX8_ahead_33 : decode cX8_ahead 33 = .ok (.iadd, 1) := by decide +kernel
theorem dX8_ahead_34 : decode cX8_ahead 34 = .ok (.i2l, 1) := by decide +kernel
theorem dX8_ahead_35 : decode cX8_ahead 35 = .ok (.invokestatic 67, 3) := by decide +kernel
theorem dX8_ahead_38 : decode cX8_ahead 38 = .ok (.ifCond .ne 5, 3) := by decide +kernel
theorem dX8_ahead_41 : decode cX8_ahead 41 = .ok (.iconst (-1), 1) := by decide +kernel
theorem dX8_ahead_42 : decode cX8_ahead 42 = .ok (.ireturn, 1) := by decide +kernel
theorem dX8_ahead_43 : decode cX8_ahead 43 = .ok (.aload_n 0, 1) := by decide +kernel
theorem dX8_ahead_44 : decode cX8_ahead 44 = .ok (.iconst 0, 1) := by decide +kernel
theorem dX8_ahead_45 : decode cX8_ahead 45 = .ok (.sipush 140, 3) := by decide +kernel
theorem dX8_ahead_48 : decode cX8_ahead 48 = .ok (.invokevirtual 223, 3) := by decide +kernel
theorem dX8_ahead_51 : decode cX8_ahead 51 = .ok (.aload_n 0, 1) := by decide +kernel
theorem dX8_ahead_52 : decode cX8_ahead 52 = .ok (.sipush 140, 3) := by decide +kernel
theorem dX8_ahead_55 : decode cX8_ahead 55 = .ok (.iload_n 1, 1) := by decide +kernel
theorem dX8_ahead_56 : decode cX8_ahead 56 = .ok (.invokevirtual 220, 3) := by decide +kernel
theorem dX8_ahead_59 : decode cX8_ahead 59 = .ok (.istore_n 3, 1) := by decide +kernel
theorem dX8_ahead_60 : decode cX8_ahead 60 = .ok (.iload_n 2, 1) := by decide +kernel
theorem dX8_ahead_61 : decode cX8_ahead 61 = .ok (.ifCond .ne 7, 3) := by decide +kernel
theorem dX8_ahead_64 : decode cX8_ahead 64 = .ok (.iload_n 3, 1) := by decide +kernel
theorem dX8_ahead_65 : decode cX8_ahead 65 = .ok (.goto 35, 3) := by decide +kernel
theorem dX8_ahead_68 : decode cX8_ahead 68 = .ok (.iload_n 2, 1) := by decide +kernel
theorem dX8_ahead_69 : decode cX8_ahead 69 = .ok (.iconst 1, 1) := by decide +kernel
theorem dX8_ahead_70 : decode cX8_ahead 70 = .ok (.if_icmp .ne 13, 3) := by decide +kernel
theorem dX8_ahead_73 : decode cX8_ahead 73 = .ok (.aload_n 0, 1) := by decide +kernel
theorem dX8_ahead_74 : decode cX8_ahead 74 = .ok (.sipush 140, 3) := by decide +kernel
theorem dX8_ahead_77 : decode cX8_ahead 77 = .ok (.invokevirtual 226, 3) := by decide +kernel
theorem dX8_ahead_80 : decode cX8_ahead 80 = .ok (.goto 20, 3) := by decide +kernel
theorem dX8_ahead_83 : decode cX8_ahead 83 = .ok (.aload_n 0, 1) := by decide +kernel
theorem dX8_ahead_84 : decode cX8_ahead 84 = .ok (.getfield 7, 3) := by decide +kernel
theorem dX8_ahead_87 : decode cX8_ahead 87 = .ok (.sipush 140, 3) := by decide +kernel
theorem dX8_ahead_90 : decode cX8_ahead 90 = .ok (.iconst 2, 1) := by decide +kernel
theorem dX8_ahead_91 : decode cX8_ahead 91 = .ok (.iload_n 2, 1) := by decide +kernel
theorem dX8_ahead_92 : decode cX8_ahead 92 = .ok (.bipush 10, 2) := by decide +kernel
theorem dX8_ahead_94 : decode cX8_ahead 94 = .ok (.isub, 1) := by decide +kernel
theorem dX8_ahead_95 : decode cX8_ahead 95 = .ok (.imul, 1) := by decide +kernel
theorem dX8_ahead_96 : decode cX8_ahead 96 = .ok (.iadd, 1) := by decide +kernel
theorem dX8_ahead_97 : decode cX8_ahead 97 = .ok (.iconst 1, 1) := by decide +kernel
theorem dX8_ahead_98 : decode cX8_ahead 98 = .ok (.iadd, 1) := by decide +kernel
theorem dX8_ahead_99 : decode cX8_ahead 99 = .ok (.iaload, 1) := by decide +kernel
theorem dX8_ahead_100 : decode cX8_ahead 100 = .ok (.ireturn, 1) := by decide +kernel
theorem mkX8_ahead : mokV qX8_ahead 2 := ⟨⟨⟨⟨by decide, by decide, by decide +kernel⟩, by decide⟩, gd_mem 59 (by decide +kernel) (by decide +kernel), gd_mem 1188 (by decide +kernel) (by decide +kernel)⟩, gd_mem 1186 (by decide +kernel) (by decide +kernel), gd_mem 1187 (by decide +kernel) (by decide +kernel)⟩
abbrev qX8_breaks : mMI := (yX8_breaks, cX8_breaks, 6, (some .int), 7)
theorem dX8_breaks_0 : decode cX8_breaks 0 = .ok (.iload_n 1, 1) := by decide +kernel
theorem dX8_breaks_1 : decode cX8_breaks 1 = .ok (.i2l, 1) := by decide +kernel
theorem dX8_breaks_2 : decode cX8_breaks 2 = .ok (.lconst 0, 1) := by decide +kernel
theorem dX8_breaks_3 : decode cX8_breaks 3 = .ok (.lconst 1, 1) := by decide +kernel
theorem dX8_breaks_4 : decode cX8_breaks 4 = .ok (.invokestatic 67, 3) := by decide +kernel
theorem dX8_breaks_7 : decode cX8_breaks 7 = .ok (.ifCond .ne 5, 3) := by decide +kernel
theorem dX8_breaks_10 : decode cX8_breaks 10 = .ok (.iconst (-1), 1) := by decide +kernel
theorem dX8_breaks_11 : decode cX8_breaks 11 = .ok (.ireturn, 1) := by decide +kernel
theorem dX8_breaks_12 : decode cX8_breaks 12 = .ok (.aload_n 0, 1) := by decide +kernel
theorem dX8_breaks_13 : decode cX8_breaks 13 = .ok (.iconst 0, 1) := by decide +kernel
theorem dX8_breaks_14 : decode cX8_breaks 14 = .ok (.invokevirtual 226, 3) := by decide +kernel
theorem dX8_breaks_17 : decode cX8_breaks 17 = .ok (.istore_n 2, 1) := by decide +kernel
theorem dX8_breaks_18 : decode cX8_breaks 18 = .ok (.aload_n 0, 1) := by decide +kernel
theorem dX8_breaks_19 : decode cX8_breaks 19 = .ok (.iconst 0, 1) := by decide +kernel
theorem dX8_breaks_20 : decode cX8_breaks 20 = .ok (.sipush 140, 3) := by decide +kernel
theorem dX8_breaks_23 : decode cX8_breaks 23 = .ok (.invokevirtual 223, 3) := by decide +kernel
theorem dX8_breaks_26 : decode cX8_breaks 26 = .ok (.iconst 1, 1) := by decide +kernel
theorem dX8_breaks_27 : decode cX8_breaks 27 = .ok (.istore_n 3, 1) := by decide +kernel
theorem dX8_breaks_28 : decode cX8_breaks 28 = .ok (.iload_n 3, 1) := by decide +kernel
theorem dX8_breaks_29 : decode cX8_breaks 29 = .ok (.bipush 60, 2) := by decide +kernel
theorem dX8_breaks_31 : decode cX8_breaks 31 = .ok (.if_icmp .gt 71, 3) := by decide +kernel
theorem dX8_breaks_34 : decode cX8_breaks 34 = .ok (.aload_n 0, 1) := by decide +kernel
theorem dX8_breaks_35 : decode cX8_breaks 35 = .ok (.sipush 140, 3) := by decide +kernel
theorem dX8_breaks_38 : decode cX8_breaks 38 = .ok (.iconst 1, 1) := by decide +kernel
theorem dX8_breaks_39 : decode cX8_breaks 39 = .ok (.invokevirtual 220, 3) := by decide +kernel
theorem dX8_breaks_42 : decode cX8_breaks 42 = .ok (.pop, 1) := by decide +kernel
theorem dX8_breaks_43 : decode cX8_breaks 43 = .ok (.aload_n 0, 1) := by decide +kernel
theorem dX8_breaks_44 : decode cX8_breaks 44 = .ok (.sipush 140, 3) := by decide +kernel
theorem dX8_breaks_47 : decode cX8_breaks 47 = .ok (.invokevirtual 226, 3) := by decide +kernel
theorem dX8_breaks_50 : decode cX8_breaks 50 = .ok (.iload_n 2, 1) := by decide +kernel
theorem dX8_breaks_51 : decode cX8_breaks 51 = .ok (.iconst (-1), 1) := by decide +kernel
theorem dX8_breaks_52 : decode cX8_breaks 52 = .ok (.ixor, 1) := by decide +kernel
theorem dX8_breaks_53 : decode cX8_breaks 53 = .ok (.iand, 1) := by decide +kernel
theorem dX8_breaks_54 : decode cX8_breaks 54 = .ok (.istore 4, 2) := by decide +kernel
theorem dX8_breaks_56 : decode cX8_breaks 56 = .ok (.iconst 0, 1) := by decide +kernel
theorem dX8_breaks_57 : decode cX8_breaks 57 = .ok (.istore 5, 2) := by decide +kernel
theorem dX8_breaks_59 : decode cX8_breaks 59 = .ok (.iload 5, 2) := by decide +kernel
theorem dX8_breaks_61 : decode cX8_breaks 61 = .ok (.aload_n 0, 1) := by decide +kernel
theorem dX8_breaks_62 : decode cX8_breaks 62 = .ok (.getfield 143, 3) := by decide +kernel
theorem dX8_breaks_65 : decode cX8_breaks 65 = .ok (.if_icmp .ge 31, 3) := by decide +kernel
theorem dX8_breaks_68 : decode cX8_breaks 68 = .ok (.iload 4, 2) := by decide +kernel
theorem dX8_breaks_70 : decode cX8_breaks 70 = .ok (.iload 5, 2) := by decide +kernel
theorem dX8_breaks_72 : decode cX8_breaks 72 = .ok (.ishr, 1) := by decide +kernel
theorem dX8_breaks_73 : decode cX8_breaks 73 = .ok (.iconst 1, 1) := by decide +kernel
theorem dX8_breaks_74 : decode cX8_breaks 74 = .ok (.iand, 1) := by decide +kernel
theorem dX8_breaks_75 : decode cX8_breaks 75 = .ok (.iconst 1, 1) := by decide +kernel
theorem dX8_breaks_76 : decode cX8_breaks 76 = .ok (.if_icmp .ne 14, 3) := by decide +kernel
theorem dX8_breaks_79 : decode cX8_breaks 79 = .ok (.iload_n 1, 1) := by decide +kernel
theorem dX8_breaks_80 : decode cX8_breaks 80 = .ok (.ifCond .ne 7, 3) := by decide +kernel
theorem dX8_breaks_83 : decode cX8_breaks 83 = .ok (.iload_n 3, 1) := by decide +kernel
theorem dX8_breaks_84 : decode cX8_breaks 84 = .ok (.goto 5, 3) := by decide +kernel
theorem dX8_breaks_87 : decode cX8_breaks 87 = .ok (.iload 5, 2) := by decide +kernel
theorem dX8_breaks_89 : decode cX8_breaks 89 = .ok (.ireturn, 1) := by decide +kernel
theorem dX8_breaks_90 : decode cX8_breaks 90 = .ok (.iinc 5 1, 3) := by decide +kernel
theorem dX8_breaks_93 : decode cX8_breaks 93 = .ok (.goto (-34), 3) := by decide +kernel
theorem dX8_breaks_96 : decode cX8_breaks 96 = .ok (.iinc 3 1, 3) := by decide +kernel
theorem dX8_breaks_99 : decode cX8_breaks 99 = .ok (.goto (-71), 3) := by decide +kernel
theorem dX8_breaks_102 : decode cX8_breaks 102 = .ok (.bipush (-4), 2) := by decide +kernel
theorem dX8_breaks_104 : decode cX8_breaks 104 = .ok (.ireturn, 1) := by decide +kernel
theorem mkX8_breaks : mokV qX8_breaks 1 := ⟨⟨⟨⟨by decide, by decide, by decide +kernel⟩, by decide⟩, gd_mem 59 (by decide +kernel) (by decide +kernel), gd_mem 1200 (by decide +kernel) (by decide +kernel)⟩, gd_mem 1198 (by decide +kernel) (by decide +kernel), gd_mem 1199 (by decide +kernel) (by decide +kernel)⟩
abbrev qX8_stuck : mMI := (yX8_stuck, cX8_stuck, 3, (some .int), 7)
theorem dX8_stuck_0 : decode cX8_stuck 0 = .ok (.aload_n 0, 1) := by decide +kernel
theorem dX8_stuck_1 : decode cX8_stuck 1 = .ok (.iload_n 1, 1) := by decide +kernel
theorem dX8_stuck_2 : decode cX8_stuck 2 = .ok (.invokevirtual 176, 3) := by decide +kernel
theorem dX8_stuck_5 : decode cX8_stuck 5 = .ok (.ifCond .ne 5, 3) := by decide +kernel
theorem dX8_stuck_8 : decode cX8_stuck 8 = .ok (.iconst (-1), 1) := by decide +kernel
theorem dX8_stuck_9 : decode cX8_stuck 9 = .ok (.ireturn, 1) := by decide +kernel
theorem dX8_stuck_10 : decode cX8_stuck 10 = .ok (.aload_n 0, 1) := by decide +kernel
theorem dX8_stuck_11 : decode cX8_stuck 11 = .ok (.iconst 0, 1) := by decide +kernel
theorem dX8_stuck_12 : decode cX8_stuck 12 = .ok (.sipush 140, 3) := by decide +kernel
theorem dX8_stuck_15 : decode cX8_stuck 15 = .ok (.invokevirtual 223, 3) := by decide +kernel
theorem dX8_stuck_18 : decode cX8_stuck 18 = .ok (.iconst 0, 1) := by decide +kernel
theorem dX8_stuck_19 : decode cX8_stuck 19 = .ok (.istore_n 2, 1) := by decide +kernel
theorem dX8_stuck_20 : decode cX8_stuck 20 = .ok (.iload_n 2, 1) := by decide +kernel
theorem dX8_stuck_21 : decode cX8_stuck 21 = .ok (.bipush 60, 2) := by decide +kernel
theorem dX8_stuck_23 : decode cX8_stuck 23 = .ok (.if_icmp .gt 31, 3) := by decide +kernel
theorem dX8_stuck_26 : decode cX8_stuck 26 = .ok (.aload_n 0, 1) := by decide +kernel
theorem dX8_stuck_27 : decode cX8_stuck 27 = .ok (.sipush 140, 3) := by decide +kernel
theorem dX8_stuck_30 : decode cX8_stuck 30 = .ok (.iload_n 1, 1) := by decide +kernel
theorem dX8_stuck_31 : decode cX8_stuck 31 = .ok (.invokevirtual 211, 3) := by decide +kernel
theorem dX8_stuck_34 : decode cX8_stuck 34 = .ok (.ifCond .ne 5, 3) := by decide +kernel
theorem dX8_stuck_37 : decode cX8_stuck 37 = .ok (.iload_n 2, 1) := by decide +kernel
theorem dX8_stuck_38 : decode cX8_stuck 38 = .ok (.ireturn, 1) := by decide +kernel
theorem dX8_stuck_39 : decode cX8_stuck 39 = .ok (.aload_n 0, 1) := by decide +kernel
theorem dX8_stuck_40 : decode cX8_stuck 40 = .ok (.sipush 140, 3) := by decide +kernel
theorem dX8_stuck_43 : decode cX8_stuck 43 = .ok (.iconst 1, 1) := by decide +kernel
theorem dX8_stuck_44 : decode cX8_stuck 44 = .ok (.invokevirtual 220, 3) := by decide +kernel
theorem dX8_stuck_47 : decode cX8_stuck 47 = .ok (.pop, 1) := by decide +kernel
theorem dX8_stuck_48 : decode cX8_stuck 48 = .ok (.iinc 2 1, 3) := by decide +kernel
theorem dX8_stuck_51 : decode cX8_stuck 51 = .ok (.goto (-31), 3) := by decide +kernel
theorem dX8_stuck_54 : decode cX8_stuck 54 = .ok (.bipush (-4), 2) := by decide +kernel
theorem dX8_stuck_56 : decode cX8_stuck 56 = .ok (.ireturn, 1) := by decide +kernel
theorem mkX8_stuck : mokV qX8_stuck 1 := ⟨⟨⟨⟨by decide, by decide, by decide +kernel⟩, by decide⟩, gd_mem 59 (by decide +kernel) (by decide +kernel), gd_mem 1204 (by decide +kernel) (by decide +kernel)⟩, gd_mem 1202 (by decide +kernel) (by decide +kernel), gd_mem 1203 (by decide +kernel) (by decide +kernel)⟩
abbrev qX8_hold : mMI := (yX8_hold, cX8_hold, 5, (some .int), 7)
theorem dX8_hold_0 : decode cX8_hold 0 = .ok (.iload_n 1, 1) := by decide +kernel
theorem dX8_hold_1 : decode cX8_hold 1 = .ok (.i2l, 1) := by decide +kernel
theorem dX8_hold_2 : decode cX8_hold 2 = .ok (.lconst 0, 1) := by decide +kernel
theorem dX8_hold_3 : decode cX8_hold 3 = .ok (.ldc2_w 185, 3) := by decide +kernel
theorem dX8_hold_6 : decode cX8_hold 6 = .ok (.invokestatic 67, 3) := by decide +kernel
theorem dX8_hold_9 : decode cX8_hold 9 = .ok (.ifCond .ne 5, 3) := by decide +kernel
theorem dX8_hold_12 : decode cX8_hold 12 = .ok (.iconst (-1), 1) := by decide +kernel
theorem dX8_hold_13 : decode cX8_hold 13 = .ok (.ireturn, 1) := by decide +kernel
theorem dX8_hold_14 : decode cX8_hold 14 = .ok (.iconst 1, 1) := by decide +kernel
theorem dX8_hold_15 : decode cX8_hold 15 = .ok (.istore_n 2, 1) := by decide +kernel
theorem dX8_hold_16 : decode cX8_hold 16 = .ok (.iload_n 2, 1) := by decide +kernel
theorem dX8_hold_17 : decode cX8_hold 17 = .ok (.bipush 99, 2) := by decide +kernel
theorem dX8_hold_19 : decode cX8_hold 19 = .ok (.if_icmp .gt 95, 3) := by decide +kernel
theorem dX8_hold_22 : decode cX8_hold 22 = .ok (.aload_n 0, 1) := by decide +kernel
theorem dX8_hold_23 : decode cX8_hold 23 = .ok (.iconst 0, 1) := by decide +kernel
theorem dX8_hold_24 : decode cX8_hold 24 = .ok (.sipush 140, 3) := by decide +kernel
theorem dX8_hold_27 : decode cX8_hold 27 = .ok (.invokevirtual 223, 3) := by decide +kernel
theorem dX8_hold_30 : decode cX8_hold 30 = .ok (.aload_n 0, 1) := by decide +kernel
theorem dX8_hold_31 : decode cX8_hold 31 = .ok (.getfield 7, 3) := by decide +kernel
theorem dX8_hold_34 : decode cX8_hold 34 = .ok (.sipush 173, 3) := by decide +kernel
theorem dX8_hold_37 : decode cX8_hold 37 = .ok (.iload_n 2, 1) := by decide +kernel
theorem dX8_hold_38 : decode cX8_hold 38 = .ok (.bipush 30, 2) := by decide +kernel
theorem dX8_hold_40 : decode cX8_hold 40 = .ok (.isub, 1) := by decide +kernel
theorem dX8_hold_41 : decode cX8_hold 41 = .ok (.iastore, 1) := by decide +kernel
theorem dX8_hold_42 : decode cX8_hold 42 = .ok (.aload_n 0, 1) := by decide +kernel
theorem dX8_hold_43 : decode cX8_hold 43 = .ok (.sipush 140, 3) := by decide +kernel
theorem dX8_hold_46 : decode cX8_hold 46 = .ok (.invokevirtual 226, 3) := by decide +kernel
theorem dX8_hold_49 : decode cX8_hold 49 = .ok (.ifCond .ne 7, 3) := by decide +kernel
theorem dX8_hold_52 : decode cX8_hold 52 = .ok (.iconst 1, 1) := by decide +kernel
theorem dX8_hold_53 : decode cX8_hold 53 = .ok (.goto 4, 3) := by decide +kernel
theorem dX8_hold_56 : decode cX8_hold 56 = .ok (.iconst 0, 1) := by decide +kernel
theorem dX8_hold_57 : decode cX8_hold 57 = .ok (.istore_n 3, 1) := by decide +kernel
theorem dX8_hold_58 : decode cX8_hold 58 = .ok (.iconst 0, 1) := by decide +kernel
theorem dX8_hold_59 : decode cX8_hold 59 = .ok (.istore 4, 2) := by decide +kernel
theorem dX8_hold_61 : decode cX8_hold 61 = .ok (.iload 4, 2) := by decide +kernel
theorem dX8_hold_63 : decode cX8_hold 63 = .ok (.iload_n 1, 1) := by decide +kernel
theorem dX8_hold_64 : decode cX8_hold 64 = .ok (.if_icmp .ge 38, 3) := by decide +kernel
theorem dX8_hold_67 : decode cX8_hold 67 = .ok (.iload_n 3, 1) := by decide +kernel
theorem dX8_hold_68 : decode cX8_hold 68 = .ok (.ifCond .eq 34, 3) := by decide +kernel
theorem dX8_hold_71 : decode cX8_hold 71 = .ok (.aload_n 0, 1) := by decide +kernel
theorem dX8_hold_72 : decode cX8_hold 72 = .ok (.sipush 140, 3) := by decide +kernel
theorem dX8_hold_75 : decode cX8_hold 75 = .ok (.iconst 1, 1) := by decide +kernel
theorem dX8_hold_76 : decode cX8_hold 76 = .ok (.invokevirtual 220, 3) := by decide +kernel
theorem dX8_hold_79 : decode cX8_hold 79 = .ok (.pop, 1) := by decide +kernel
theorem dX8_hold_80 : decode cX8_hold 80 = .ok (.aload_n 0, 1) := by decide +kernel
theorem dX8_hold_81 : decode cX8_hold 81 = .ok (.sipush 140, 3) := by decide +kernel
theorem dX8_hold_84 : decode cX8_hold 84 = .ok (.invokevirtual 226, 3) := by decide +kernel
theorem dX8_hold_87 : decode cX8_hold 87 = .ok (.ifCond .ne 7, 3) := by decide +kernel
theorem dX8_hold_90 : decode cX8_hold 90 = .ok (.iconst 1, 1) := by decide +kernel
theorem dX8_hold_91 : decode cX8_hold 91 = .ok (.goto 4, 3) := by decide +kernel
theorem dX8_hold_94 : decode cX8_hold 94 = .ok (.iconst 0, 1) := by decide +kernel
theorem dX8_hold_95 : decode cX8_hold 95 = .ok (.istore_n 3, 1) := by decide +kernel
theorem dX8_hold_96 : decode cX8_hold 96 = .ok (.iinc 4 1, 3) := by decide +kernel
theorem dX8_hold_99 : decode cX8_hold 99 = .ok (.goto (-38), 3) := by decide +kernel
theorem dX8_hold_102 : decode cX8_hold 102 = .ok (.iload_n 3, 1) := by decide +kernel
theorem dX8_hold_103 : decode cX8_hold 103 = .ok (.ifCond .eq 5, 3) := by decide +kernel
theorem dX8_hold_106 : decode cX8_hold 106 = .ok (.iload_n 2, 1) := by decide +kernel
theorem dX8_hold_107 : decode cX8_hold 107 = .ok (.ireturn, 1) := by decide +kernel
theorem dX8_hold_108 : decode cX8_hold 108 = .ok (.iinc 2 1, 3) := by decide +kernel
theorem dX8_hold_111 : decode cX8_hold 111 = .ok (.goto (-95), 3) := by decide +kernel
theorem dX8_hold_114 : decode cX8_hold 114 = .ok (.bipush (-4), 2) := by decide +kernel
theorem dX8_hold_116 : decode cX8_hold 116 = .ok (.ireturn, 1) := by decide +kernel
theorem mkX8_hold : mokV qX8_hold 1 := ⟨⟨⟨⟨by decide, by decide, by decide +kernel⟩, by decide⟩, gd_mem 59 (by decide +kernel) (by decide +kernel), gd_mem 1216 (by decide +kernel) (by decide +kernel)⟩, gd_mem 1214 (by decide +kernel) (by decide +kernel), gd_mem 1215 (by decide +kernel) (by decide +kernel)⟩
abbrev qX8_odds : mMI := (yX8_odds, cX8_odds, 4, (some .long), 7)
theorem dX8_odds_0 : decode cX8_odds 0 = .ok (.iload_n 1, 1) := by decide +kernel
theorem dX8_odds_1 : decode cX8_odds 1 = .ok (.i2l, 1) := by decide +kernel
theorem dX8_odds_2 : decode cX8_odds 2 = .ok (.lconst 0, 1) := by decide +kernel
theorem dX8_odds_3 : decode cX8_odds 3 = .ok (.ldc2_w 201, 3) := by decide +kernel
theorem dX8_odds_6 : decode cX8_odds 6 = .ok (.invokestatic 67, 3) := by decide +kernel
theorem dX8_odds_9 : decode cX8_odds 9 = .ok (.ifCond .eq 33, 3) := by decide +kernel
theorem dX8_odds_12 : decode cX8_odds 12 = .ok (.aload_n 0, 1) := by decide +kernel
theorem dX8_odds_13 : decode cX8_odds 13 = .ok (.iload_n 2, 1) := by decide +kernel
theorem dX8_odds_14 : decode cX8_odds 14 = .ok (.invokevirtual 176, 3) := by decide +kernel
theorem dX8_odds_17 : decode cX8_odds 17 = .ok (.ifCond .eq 25, 3) := by decide +kernel
theorem dX8_odds_20 : decode cX8_odds 20 = .ok (.iload_n 3, 1) := by decide +kernel
theorem dX8_odds_21 : decode cX8_odds 21 = .ok (.i2l, 1) := by decide +kernel
theorem dX8_odds_22 : decode cX8_odds 22 = .ok (.lconst 0, 1) := by decide +kernel
theorem dX8_odds_23 : decode cX8_odds 23 = .ok (.lconst 1, 1) := by decide +kernel
theorem dX8_odds_24 : decode cX8_odds 24 = .ok (.invokestatic 67, 3) := by decide +kernel
theorem dX8_odds_27 : decode cX8_odds 27 = .ok (.ifCond .eq 15, 3) := by decide +kernel
theorem dX8_odds_30 : decode cX8_odds 30 = .ok (.aload_n 0, 1) := by decide +kernel
theorem dX8_odds_31 : decode cX8_odds 31 = .ok (.iload_n 1, 1) := by decide +kernel
theorem dX8_odds_32 : decode cX8_odds 32 = .ok (.iconst 1, 1) := by decide +kernel
theorem dX8_odds_33 : decode cX8_odds 33 = .ok (.iload_n 2, 1) := by decide +kernel
theorem dX8_odds_34 : decode cX8_odds 34 = .ok (.ishl, 1) := by decide +kernel
theorem dX8_odds_35 : decode cX8_odds 35 = .ok (.iload_n 3, 1) := by decide +kernel
theorem dX8_odds_36 : decode cX8_odds 36 = .ok (.invokevirtual 239, 3) := by decide +kernel
theorem dX8_odds_39 : decode cX8_odds 39 = .ok (.goto 6, 3) := by decide +kernel
theorem dX8_odds_42 : decode cX8_odds 42 = .ok (.ldc2_w 243, 3) := by decide +kernel
theorem dX8_odds_45 : decode cX8_odds 45 = .ok (.lreturn, 1) := by decide +kernel
theorem mkX8_odds : mokV qX8_odds 3 := ⟨⟨⟨⟨by decide, by decide, by decide +kernel⟩, by decide⟩, gd_mem 59 (by decide +kernel) (by decide +kernel), gd_mem 1235 (by decide +kernel) (by decide +kernel)⟩, gd_mem 1233 (by decide +kernel) (by decide +kernel), gd_mem 1234 (by decide +kernel) (by decide +kernel)⟩
abbrev qX8_mean : mMI := (yX8_mean, cX8_mean, 3, (some .long), 7)
theorem dX8_mean_0 : decode cX8_mean 0 = .ok (.iload_n 1, 1) := by decide +kernel
theorem dX8_mean_1 : decode cX8_mean 1 = .ok (.i2l, 1) := by decide +kernel
theorem dX8_mean_2 : decode cX8_mean 2 = .ok (.lconst 0, 1) := by decide +kernel
theorem dX8_mean_3 : decode cX8_mean 3 = .ok (.ldc2_w 201, 3) := by decide +kernel
theorem dX8_mean_6 : decode cX8_mean 6 = .ok (.invokestatic 67, 3) := by decide +kernel
theorem dX8_mean_9 : decode cX8_mean 9 = .ok (.ifCond .eq 24, 3) := by decide +kernel
theorem dX8_mean_12 : decode cX8_mean 12 = .ok (.iload_n 2, 1) := by decide +kernel
theorem dX8_mean_13 : decode cX8_mean 13 = .ok (.i2l, 1) := by decide +kernel
theorem dX8_mean_14 : decode cX8_mean 14 = .ok (.lconst 0, 1) := by decide +kernel
theorem dX8_mean_15 : decode cX8_mean 15 = .ok (.lconst 1, 1) := by decide +kernel
theorem dX8_mean_16 : decode cX8_mean 16 = .ok (.invokestatic 67, 3) := by decide +kernel
theorem dX8_mean_19 : decode cX8_mean 19 = .ok (.ifCond .eq 14, 3) := by decide +kernel
theorem dX8_mean_22 : decode cX8_mean 22 = .ok (.aload_n 0, 1) := by decide +kernel
theorem dX8_mean_23 : decode cX8_mean 23 = .ok (.iload_n 1, 1) := by decide +kernel
theorem dX8_mean_24 : decode cX8_mean 24 = .ok (.bipush 15, 2) := by decide +kernel
theorem dX8_mean_26 : decode cX8_mean 26 = .ok (.iload_n 2, 1) := by decide +kernel
theorem dX8_mean_27 : decode cX8_mean 27 = .ok (.invokevirtual 239, 3) := by decide +kernel
theorem dX8_mean_30 : decode cX8_mean 30 = .ok (.goto 6, 3) := by decide +kernel
theorem dX8_mean_33 : decode cX8_mean 33 = .ok (.ldc2_w 243, 3) := by decide +kernel
theorem dX8_mean_36 : decode cX8_mean 36 = .ok (.lreturn, 1) := by decide +kernel
theorem mkX8_mean : mokV qX8_mean 2 := ⟨⟨⟨⟨by decide, by decide, by decide +kernel⟩, by decide⟩, gd_mem 59 (by decide +kernel) (by decide +kernel), gd_mem 1247 (by decide +kernel) (by decide +kernel)⟩, gd_mem 1245 (by decide +kernel) (by decide +kernel), gd_mem 1246 (by decide +kernel) (by decide +kernel)⟩
abbrev qX8_isAsSeen : mMI := (yX8_isAsSeen, cX8_isAsSeen, 5, (some .boolean), 7)
theorem dX8_isAsSeen_0 : decode cX8_isAsSeen 0 = .ok (.aload_n 0, 1) := by decide +kernel
theorem dX8_isAsSeen_1 : decode cX8_isAsSeen 1 = .ok (.iconst 0, 1) := by decide +kernel
theorem dX8_isAsSeen_2 : decode cX8_isAsSeen 2 = .ok (.sipush 140, 3) := by decide +kernel
theorem dX8_isAsSeen_5 : decode cX8_isAsSeen 5 = .ok (.invokevirtual 223, 3) := by decide +kernel
theorem dX8_isAsSeen_8 : decode cX8_isAsSeen 8 = .ok (.iconst 0, 1) := by decide +kernel
theorem dX8_isAsSeen_9 : decode cX8_isAsSeen 9 = .ok (.istore_n 2, 1) := by decide +kernel
theorem dX8_isAsSeen_10 : decode cX8_isAsSeen 10 = .ok (.iload_n 2, 1) := by decide +kernel
theorem dX8_isAsSeen_11 : decode cX8_isAsSeen 11 = .ok (.aload_n 0, 1) := by decide +kernel
theorem dX8_isAsSeen_12 : decode cX8_isAsSeen 12 = .ok (.getfield 146, 3) := by decide +kernel
theorem dX8_isAsSeen_15 : decode cX8_isAsSeen 15 = .ok (.if_icmp .ge 29, 3) := by decide +kernel
theorem dX8_isAsSeen_18 : decode cX8_isAsSeen 18 = .ok (.aload_n 0, 1) := by decide +kernel
theorem dX8_isAsSeen_19 : decode cX8_isAsSeen 19 = .ok (.getfield 7, 3) := by decide +kernel
theorem dX8_isAsSeen_22 : decode cX8_isAsSeen 22 = .ok (.sipush 160, 3) := by decide +kernel
theorem dX8_isAsSeen_25 : decode cX8_isAsSeen 25 = .ok (.iconst 3, 1) := by decide +kernel
theorem dX8_isAsSeen_26 : decode cX8_isAsSeen 26 = .ok (.iload_n 2, 1) := by decide +kernel
theorem dX8_isAsSeen_27 : decode cX8_isAsSeen 27 = .ok (.imul, 1) := by decide +kernel
theorem dX8_isAsSeen_28 : decode cX8_isAsSeen 28 = .ok (.iadd, 1) := by decide +kernel
theorem dX8_isAsSeen_29 : decode cX8_isAsSeen 29 = .ok (.iconst 2, 1) := by decide +kernel
theorem dX8_isAsSeen_30 : decode cX8_isAsSeen 30 = .ok (.iadd, 1) := by decide +kernel
theorem dX8_isAsSeen_31 : decode cX8_isAsSeen 31 = .ok (.aload_n 0, 1) := by decide +kernel
theorem dX8_isAsSeen_32 : decode cX8_isAsSeen 32 = .ok (.iload_n 1, 1) := by decide +kernel
theorem dX8_isAsSeen_33 : decode cX8_isAsSeen 33 = .ok (.iload_n 2, 1) := by decide +kernel
theorem dX8_isAsSeen_34 : decode cX8_isAsSeen 34 = .ok (.invokevirtual 247, 3) := by decide +kernel
theorem dX8_isAsSeen_37 : decode cX8_isAsSeen 37 = .ok (.iastore, 1) := by decide +kernel
theorem dX8_isAsSeen_38 : decode cX8_isAsSeen 38 = .ok (.iinc 2 1, 3) := by decide +kernel
theorem dX8_isAsSeen_41 : decode cX8_isAsSeen 41 = .ok (.goto (-31), 3) := by decide +kernel
theorem dX8_isAsSeen_44 : decode cX8_isAsSeen 44 = .ok (.aload_n 0, 1) := by decide +kernel
theorem dX8_isAsSeen_45 : decode cX8_isAsSeen 45 = .ok (.sipush 140, 3) := by decide +kernel
theorem dX8_isAsSeen_48 : decode cX8_isAsSeen 48 = .ok (.iconst 1, 1) := by decide +kernel
theorem dX8_isAsSeen_49 : decode cX8_isAsSeen 49 = .ok (.invokevirtual 220, 3) := by decide +kernel
theorem dX8_isAsSeen_52 : decode cX8_isAsSeen 52 = .ok (.pop, 1) := by decide +kernel
theorem dX8_isAsSeen_53 : decode cX8_isAsSeen 53 = .ok (.iconst 1, 1) := by decide +kernel
theorem dX8_isAsSeen_54 : decode cX8_isAsSeen 54 = .ok (.istore_n 2, 1) := by decide +kernel
theorem dX8_isAsSeen_55 : decode cX8_isAsSeen 55 = .ok (.iconst 0, 1) := by decide +kernel
theorem dX8_isAsSeen_56 : decode cX8_isAsSeen 56 = .ok (.istore_n 3, 1) := by decide +kernel
theorem dX8_isAsSeen_57 : decode cX8_isAsSeen 57 = .ok (.iload_n 3, 1) := by decide +kernel
theorem dX8_isAsSeen_58 : decode cX8_isAsSeen 58 = .ok (.aload_n 0, 1) := by decide +kernel
theorem dX8_isAsSeen_59 : decode cX8_isAsSeen 59 = .ok (.getfield 149, 3) := by decide +kernel
theorem dX8_isAsSeen_62 : decode cX8_isAsSeen 62 = .ok (.if_icmp .ge 65, 3) := by decide +kernel
theorem dX8_isAsSeen_65 : decode cX8_isAsSeen 65 = .ok (.iconst 2, 1) := by decide +kernel
theorem dX8_isAsSeen_66 : decode cX8_isAsSeen 66 = .ok (.aload_n 0, 1) := by decide +kernel
theorem dX8_isAsSeen_67 : decode cX8_isAsSeen 67 = .ok (.getfield 49, 3) := by decide +kernel
theorem dX8_isAsSeen_70 : decode cX8_isAsSeen 70 = .ok (.iconst 2, 1) := by decide +kernel
theorem dX8_isAsSeen_71 : decode cX8_isAsSeen 71 = .ok (.iload_n 3, 1) := by decide +kernel
theorem dX8_isAsSeen_72 : decode cX8_isAsSeen 72 = .ok (.imul, 1) := by decide +kernel
theorem dX8_isAsSeen_73 : decode cX8_isAsSeen 73 = .ok (.iaload, 1) := by decide +kernel
theorem dX8_isAsSeen_74 : decode cX8_isAsSeen 74 = .ok (.imul, 1) := by decide +kernel
theorem dX8_isAsSeen_75 : decode cX8_isAsSeen 75 = .ok (.iconst 1, 1) := by decide +kernel
theorem dX8_isAsSeen_76 : decode cX8_isAsSeen 76 = .ok (.iadd, 1) := by decide +kernel
theorem dX8_isAsSeen_77 : decode cX8_isAsSeen 77 = .ok (.istore 4, 2) := by decide +kernel
theorem dX8_isAsSeen_79 : decode cX8_isAsSeen 79 = .ok (.iload_n 2, 1) := by decide +kernel
theorem dX8_isAsSeen_80 : decode cX8_isAsSeen 80 = .ok (.ifCond .eq 39, 3) := by decide +kernel
theorem dX8_isAsSeen_83 : decode cX8_isAsSeen 83 = .ok (.aload_n 0, 1) := by decide +kernel
theorem dX8_isAsSeen_84 : decode cX8_isAsSeen 84 = .ok (.getfield 7, 3) := by decide +kernel
theorem dX8_isAsSeen_87 : decode cX8_isAsSeen 87 = .ok (.sipush 140, 3) := by decide +kernel
theorem dX8_isAsSeen_90 : decode cX8_isAsSeen 90 = .ok (.iload 4, 2) := by decide +kernel
theorem dX8_isAsSeen_92 : decode cX8_isAsSeen 92 = .ok (.iadd, 1) := by decide +kernel
theorem dX8_isAsSeen_93 : decode cX8_isAsSeen 93 = .ok (.iaload, 1) := by decide +kernel
theorem dX8_isAsSeen_94 : decode cX8_isAsSeen 94 = .ok (.aload_n 0, 1) := by decide +kernel
theorem dX8_isAsSeen_95 : decode cX8_isAsSeen 95 = .ok (.getfield 7, 3) := by decide +kernel
theorem dX8_isAsSeen_98 : decode cX8_isAsSeen 98 = .ok (.iload 4, 2) := by decide +kernel
theorem dX8_isAsSeen_100 : decode cX8_isAsSeen 100 = .ok (.iaload, 1) := by decide +kernel
theorem dX8_isAsSeen_101 : decode cX8_isAsSeen 101 = .ok (.isub, 1) := by decide +kernel
theorem dX8_isAsSeen_102 : decode cX8_isAsSeen 102 = .ok (.aload_n 0, 1) := by decide +kernel
theorem dX8_isAsSeen_103 : decode cX8_isAsSeen 103 = .ok (.getfield 49, 3) := by decide +kernel
theorem dX8_isAsSeen_106 : decode cX8_isAsSeen 106 = .ok (.iconst 2, 1) := by decide +kernel
theorem dX8_isAsSeen_107 : decode cX8_isAsSeen 107 = .ok (.iload_n 3, 1) := by decide +kernel
theorem dX8_isAsSeen_108 : decode cX8_isAsSeen 108 = .ok (.imul, 1) := by decide +kernel
theorem dX8_isAsSeen_109 : decode cX8_isAsSeen 109 = .ok (.iconst 1, 1) := by decide +kernel
theorem dX8_isAsSeen_110 : decode cX8_isAsSeen 110 = .ok (.iadd, 1) := by decide +kernel
theorem dX8_isAsSeen_111 : decode cX8_isAsSeen 111 = .ok (.iaload, 1) := by decide +kernel
theorem dX8_isAsSeen_112 : decode cX8_isAsSeen 112 = .ok (.if_icmp .ne 7, 3) := by decide +kernel
theorem dX8_isAsSeen_115 : decode cX8_isAsSeen 115 = .ok (.iconst 1, 1) := by decide +kernel
theorem dX8_isAsSeen_116 : decode cX8_isAsSeen 116 = .ok (.goto 4, 3) := by decide +kernel
theorem dX8_isAsSeen_119 : decode cX8_isAsSeen 119 = .ok (.iconst 0, 1) := by decide +kernel
theorem dX8_isAsSeen_120 : decode cX8_isAsSeen 120 = .ok (.istore_n 2, 1) := by decide +kernel
theorem dX8_isAsSeen_121 : decode cX8_isAsSeen 121 = .ok (.iinc 3 1, 3) := by decide +kernel
theorem dX8_isAsSeen_124 : decode cX8_isAsSeen 124 = .ok (.goto (-67), 3) := by decide +kernel
theorem dX8_isAsSeen_127 : decode cX8_isAsSeen 127 = .ok (.iload_n 2, 1) := by decide +kernel
theorem dX8_isAsSeen_128 : decode cX8_isAsSeen 128 = .ok (.ireturn, 1) := by decide +kernel
theorem mkX8_isAsSeen : mokV qX8_isAsSeen 1 := ⟨⟨⟨⟨by decide, by decide, by decide +kernel⟩, by decide⟩, gd_mem 59 (by decide +kernel) (by decide +kernel), gd_mem 1268 (by decide +kernel) (by decide +kernel)⟩, gd_mem 1267 (by decide +kernel) (by decide +kernel), gd_mem 48 (by decide +kernel) (by decide +kernel)⟩
abbrev qX8_fits : mMI := (yX8_fits, cX8_fits, 3, (some .int), 8)
theorem dX8_fits_0 : decode cX8_fits 0 = .ok (.iconst 0, 1) := by decide +kernel
theorem dX8_fits_1 : decode cX8_fits 1 = .ok (.istore_n 1, 1) := by decide +kernel
theorem dX8_fits_2 : decode cX8_fits 2 = .ok (.iconst 0, 1) := by decide +kernel
theorem dX8_fits_3 : decode cX8_fits 3 = .ok (.istore_n 2, 1) := by decide +kernel
theorem dX8_fits_4 : decode cX8_fits 4 = .ok (.iload_n 2, 1) := by decide +kernel
theorem dX8_fits_5 : decode cX8_fits 5 = .ok (.aload_n 0, 1) := by decide +kernel
theorem dX8_fits_6 : decode cX8_fits 6 = .ok (.invokevirtual 250, 3) := by decide +kernel
theorem dX8_fits_9 : decode cX8_fits 9 = .ok (.if_icmp .ge 25, 3) := by decide +kernel
theorem dX8_fits_12 : decode cX8_fits 12 = .ok (.iload_n 1, 1) := by decide +kernel
theorem dX8_fits_13 : decode cX8_fits 13 = .ok (.aload_n 0, 1) := by decide +kernel
theorem dX8_fits_14 : decode cX8_fits 14 = .ok (.iload_n 2, 1) := by decide +kernel
theorem dX8_fits_15 : decode cX8_fits 15 = .ok (.invokevirtual 253, 3) := by decide +kernel
theorem dX8_fits_18 : decode cX8_fits 18 = .ok (.ifCond .eq 7, 3) := by decide +kernel
theorem dX8_fits_21 : decode cX8_fits 21 = .ok (.iconst 1, 1) := by decide +kernel
theorem dX8_fits_22 : decode cX8_fits 22 = .ok (.goto 4, 3) := by decide +kernel
theorem dX8_fits_25 : decode cX8_fits 25 = .ok (.iconst 0, 1) := by decide +kernel
theorem dX8_fits_26 : decode cX8_fits 26 = .ok (.iadd, 1) := by decide +kernel
theorem dX8_fits_27 : decode cX8_fits 27 = .ok (.istore_n 1, 1) := by decide +kernel
theorem dX8_fits_28 : decode cX8_fits 28 = .ok (.iinc 2 1, 3) := by decide +kernel
theorem dX8_fits_31 : decode cX8_fits 31 = .ok (.goto (-27), 3) := by decide +kernel
theorem dX8_fits_34 : decode cX8_fits 34 = .ok (.iload_n 1, 1) := by decide +kernel
theorem dX8_fits_35 : decode cX8_fits 35 = .ok (.ireturn, 1) := by decide +kernel
theorem mkX8_fits : mokV qX8_fits 0 := ⟨⟨⟨⟨by decide, by decide, by decide +kernel⟩, by decide⟩, gd_mem 59 (by decide +kernel) (by decide +kernel), gd_mem 1260 (by decide +kernel) (by decide +kernel)⟩, gd_mem 1258 (by decide +kernel) (by decide +kernel), gd_mem 1259 (by decide +kernel) (by decide +kernel)⟩
abbrev qX8_floors : mMI := (yX8_floors, cX8_floors, 4, (some .int), 8)
theorem dX8_floors_0 : decode cX8_floors 0 = .ok (.aload_n 0, 1) := by decide +kernel
theorem dX8_floors_1 : decode cX8_floors 1 = .ok (.iload_n 1, 1) := by decide +kernel
theorem dX8_floors_2 : decode cX8_floors 2 = .ok (.invokevirtual 176, 3) := by decide +kernel
theorem dX8_floors_5 : decode cX8_floors 5 = .ok (.ifCond .ne 5, 3) := by decide +kernel
theorem dX8_floors_8 : decode cX8_floors 8 = .ok (.iconst (-1), 1) := by decide +kernel
theorem dX8_floors_9 : decode cX8_floors 9 = .ok (.ireturn, 1) := by decide +kernel
theorem dX8_floors_10 : decode cX8_floors 10 = .ok (.iconst 0, 1) := by decide +kernel
theorem dX8_floors_11 : decode cX8_floors 11 = .ok (.istore_n 2, 1) := by decide +kernel
theorem dX8_floors_12 : decode cX8_floors 12 = .ok (.iconst 0, 1) := by decide +kernel
theorem dX8_floors_13 : decode cX8_floors 13 = .ok (.istore_n 3, 1) := by decide +kernel
theorem dX8_floors_14 : decode cX8_floors 14 = .ok (.iload_n 3, 1) := by decide +kernel
theorem dX8_floors_15 : decode cX8_floors 15 = .ok (.aload_n 0, 1) := by decide +kernel
theorem dX8_floors_16 : decode cX8_floors 16 = .ok (.invokevirtual 250, 3) := by decide +kernel
theorem dX8_floors_19 : decode cX8_floors 19 = .ok (.if_icmp .ge 32, 3) := by decide +kernel
theorem dX8_floors_22 : decode cX8_floors 22 = .ok (.iload_n 2, 1) := by decide +kernel
theorem dX8_floors_23 : decode cX8_floors 23 = .ok (.aload_n 0, 1) := by decide +kernel
theorem dX8_floors_24 : decode cX8_floors 24 = .ok (.iload_n 3, 1) := by decide +kernel
theorem dX8_floors_25 : decode cX8_floors 25 = .ok (.invokevirtual 253, 3) := by decide +kernel
theorem dX8_floors_28 : decode cX8_floors 28 = .ok (.ifCond .eq 14, 3) := by decide +kernel
theorem dX8_floors_31 : decode cX8_floors 31 = .ok (.iconst 1, 1) := by decide +kernel
theorem dX8_floors_32 : decode cX8_floors 32 = .ok (.aload_n 0, 1) := by decide +kernel
theorem dX8_floors_33 : decode cX8_floors 33 = .ok (.iload_n 3, 1) := by decide +kernel
theorem dX8_floors_34 : decode cX8_floors 34 = .ok (.iload_n 1, 1) := by decide +kernel
theorem dX8_floors_35 : decode cX8_floors 35 = .ok (.invokevirtual 247, 3) := by decide +kernel
theorem dX8_floors_38 : decode cX8_floors 38 = .ok (.ishl, 1) := by decide +kernel
theorem dX8_floors_39 : decode cX8_floors 39 = .ok (.goto 4, 3) := by decide +kernel
theorem dX8_floors_42 : decode cX8_floors 42 = .ok (.iconst 0, 1) := by decide +kernel
theorem dX8_floors_43 : decode cX8_floors 43 = .ok (.ior, 1) := by decide +kernel
theorem dX8_floors_44 : decode cX8_floors 44 = .ok (.istore_n 2, 1) := by decide +kernel
theorem dX8_floors_45 : decode cX8_floors 45 = .ok (.iinc 3 1, 3) := by decide +kernel
theorem dX8_floors_48 : decode cX8_floors 48 = .ok (.goto (-34), 3) := by decide +kernel
theorem dX8_floors_51 : decode cX8_floors 51 = .ok (.iload_n 2, 1) := by decide +kernel
theorem dX8_floors_52 : decode cX8_floors 52 = .ok (.ireturn, 1) := by decide +kernel
theorem mkX8_floors : mokV qX8_floors 1 := ⟨⟨⟨⟨by decide, by decide, by decide +kernel⟩, by decide⟩, gd_mem 59 (by decide +kernel) (by decide +kernel), gd_mem 1276 (by decide +kernel) (by decide +kernel)⟩, gd_mem 1274 (by decide +kernel) (by decide +kernel), gd_mem 1275 (by decide +kernel) (by decide +kernel)⟩
theorem lmX8_125 : Cond.methodLink RX8 125 yX8_nameHere ∈ gdL := gd_mem 1026 (by decide +kernel) (by decide +kernel)
theorem lmX8_134 : Cond.methodLink RX8 134 yX8_readMore ∈ gdL := gd_mem 1031 (by decide +kernel) (by decide +kernel)
theorem lfX8_131 : Cond.fieldLink RX8 131 "RankStairsModel" "toldOnce" "I" ∈ gdL := gd_mem 895 (by decide +kernel) (by decide +kernel)
theorem gIX8_131 {q : mMI} {X : mCx} {tgt : mR} {pc : Nat} {lv : List (Nat × Value)} {st : List Value} {μ : mMem} {b : Nat} (hq : q.1.cls = RX8) (hb : kd b = (8, 0)) (hd : decode q.2.1 pc = .ok (.getfield 131, 3)) (h : T q X tgt (pc + 3) lv (.int (μ.1 b 11) :: st) μ) : T q X tgt pc lv (.ref b :: st) μ := T_getI (c := 8) rfl (by decide) rfl (by decide) (by rw [hq]; exact lfX8_131) hb hd h
theorem pIX8_131 {q : mMI} {X : mCx} {tgt : mR} {pc : Nat} {lv : List (Nat × Value)} {st : List Value} {μ : mMem} {b : Nat} {x : Int32} (hq : q.1.cls = RX8) (hn : narrow .int (.int x) = .int x) (hfit : fits .int (.int x) = true) (hb : kd b = (8, 0)) (hd : decode q.2.1 pc = .ok (.putfield 131, 3)) (h : T q X tgt (pc + 3) lv st (si μ b 11 x)) : T q X tgt pc lv (.int x :: .ref b :: st) μ := T_put (c := 8) rfl (by decide) rfl (by decide) (by rw [hq]; exact lfX8_131) (by decide) hn hfit hb hd h
theorem lcX8_129 : Cond.constantLong RX8 129 (6) ∈ gdL := gd_mem 1030 (by decide +kernel) (by decide +kernel)
def jX8_readLine_126 (m : mMem) : mR := bV (fX8_goesOn m) (fun m12 => some (none, m12))
set_option maxRecDepth 100000 in
theorem uX8_readLine_126 (X : mCx) (m : mMem)  : T qX8_readLine X (jX8_readLine_126 m) 126 [(0, .ref 81)] [] m := by
  unfold jX8_readLine_126
  refine T_aload_n 0 rfl rfl dX8_readLine_126 ?_
  refine T_cVV (c := 8) [] [] mkX8_goesOn lmX8_109 rfl rfl (by decide) (Nat.le_of_ble_eq_true rfl) kd_81 dX8_readLine_127 (bsX8_goesOn _  m) (fun m12 => ?_)
  exact T_vret rfl dX8_readLine_130
def jX8_readLine_77 (x1 : Int32) (m : mMem) : mR := lt (si m 81 11 ((m.1 81 11) ||| ((1 : Int32) <<< (x1 &&& 31)))) (fun m9 => bV (fX8_goesOn m9) (fun m10 => if (m10.1 81 16) ≤ (0 : Int32) then bV (fX8_readMore x1 m10) (fun m11 => if (m11.1 81 16) = (0 : Int32) then if (m11.1 81 20) = (3 : Int32) then jX8_readLine_126 m11 else bV (fX8_fails (2 : Int32) m11) (fun m13 => jX8_readLine_126 m13) else jX8_readLine_126 m11) else some (none, m10)))
set_option maxRecDepth 100000 in
theorem uX8_readLine_77 (X : mCx) (x1 : Int32) (m : mMem)  : T qX8_readLine X (jX8_readLine_77 x1 m) 77 [(0, .ref 81), (1, .int x1)] [] m := by
  unfold jX8_readLine_77
  refine T_aload_n 0 rfl rfl dX8_readLine_77 ?_
  refine T_dup rfl dX8_readLine_78 ?_
  refine gIX8_131 rfl kd_81 dX8_readLine_79 ?_
  refine T_iconst (1 : Int32) (by decide) dX8_readLine_82 ?_
  refine T_iload_n 1 rfl rfl dX8_readLine_83 ?_
  refine T_ishl dX8_readLine_84 ?_
  refine T_ior dX8_readLine_85 ?_
  refine pIX8_131 rfl rfl rfl kd_81 dX8_readLine_86 ?_
  refine T_lt (fun m9 => ?_)
  refine T_aload_n 0 rfl rfl dX8_readLine_89 ?_
  refine T_cVV (c := 8) [] [] mkX8_goesOn lmX8_109 rfl rfl (by decide) (Nat.le_of_ble_eq_true rfl) kd_81 dX8_readLine_90 (bsX8_goesOn _  m9) (fun m10 => ?_)
  refine T_aload_n 0 rfl rfl dX8_readLine_93 ?_
  refine gIX8_75 rfl kd_81 dX8_readLine_94 ?_
  refine T_if_le 101 dX8_readLine_97 (by decide) (fun _ => ?_) (fun _ => ?_)
  · refine T_aload_n 0 rfl rfl dX8_readLine_101 ?_
    refine T_iload_n 1 rfl rfl dX8_readLine_102 ?_
    refine T_cVV (c := 8) [.int x1] [] mkX8_readMore lmX8_134 rfl rfl (by decide) (Nat.le_of_ble_eq_true rfl) kd_81 dX8_readLine_103 (bsX8_readMore _ x1 m10) (fun m11 => ?_)
    refine T_aload_n 0 rfl rfl dX8_readLine_106 ?_
    refine gIX8_75 rfl kd_81 dX8_readLine_107 ?_
    refine T_if_ne 126 dX8_readLine_110 (by decide) (fun _ => ?_) (fun _ => ?_)
    · refine T_aload_n 0 rfl rfl dX8_readLine_113 ?_
      refine gIX8_84 rfl kd_81 dX8_readLine_114 ?_
      refine T_iconst (3 : Int32) (by decide) dX8_readLine_117 ?_
      refine T_icmp_eq 126 dX8_readLine_118 (by decide) (fun _ => ?_) (fun _ => ?_)
      · exact T_sub [0] rfl (uX8_readLine_126 X m11 )
      · refine T_aload_n 0 rfl rfl dX8_readLine_121 ?_
        refine T_iconst (2 : Int32) (by decide) dX8_readLine_122 ?_
        refine T_cVV (c := 8) [.int (2 : Int32)] [] mkX8_fails lmX8_105 rfl rfl (by decide) (Nat.le_of_ble_eq_true rfl) kd_81 dX8_readLine_123 (bsX8_fails _ (2 : Int32) m11) (fun m13 => ?_)
        exact T_sub [0] rfl (uX8_readLine_126 X m13 )
    · exact T_sub [0] rfl (uX8_readLine_126 X m11 )
  · exact T_vret rfl dX8_readLine_100
def jX8_readLine_55 (x1 : Int32) (m : mMem) : mR := if x1 < (5 : Int32) then jX8_readLine_77 x1 m else if (((m.1 81 11) >>> (x1 &&& 31)) &&& (1 : Int32)) = (1 : Int32) then bV (fX8_fails (4 : Int32) m) (fun m14 => jX8_readLine_77 x1 m14) else jX8_readLine_77 x1 m
set_option maxRecDepth 100000 in
theorem uX8_readLine_55 (X : mCx) (x1 : Int32) (m : mMem)  : T qX8_readLine X (jX8_readLine_55 x1 m) 55 [(0, .ref 81), (1, .int x1)] [] m := by
  unfold jX8_readLine_55
  refine T_iload_n 1 rfl rfl dX8_readLine_55 ?_
  refine T_iconst (5 : Int32) (by decide) dX8_readLine_56 ?_
  refine T_icmp_lt 77 dX8_readLine_57 (by decide) (fun _ => ?_) (fun _ => ?_)
  · exact T_sub [0, 1] rfl (uX8_readLine_77 X x1 m )
  · refine T_aload_n 0 rfl rfl dX8_readLine_60 ?_
    refine gIX8_131 rfl kd_81 dX8_readLine_61 ?_
    refine T_iload_n 1 rfl rfl dX8_readLine_64 ?_
    refine T_ishr dX8_readLine_65 ?_
    refine T_iconst (1 : Int32) (by decide) dX8_readLine_66 ?_
    refine T_iand dX8_readLine_67 ?_
    refine T_iconst (1 : Int32) (by decide) dX8_readLine_68 ?_
    refine T_icmp_ne 77 dX8_readLine_69 (by decide) (fun _ => ?_) (fun _ => ?_)
    · refine T_aload_n 0 rfl rfl dX8_readLine_72 ?_
      refine T_iconst (4 : Int32) (by decide) dX8_readLine_73 ?_
      refine T_cVV (c := 8) [.int (4 : Int32)] [] mkX8_fails lmX8_105 rfl rfl (by decide) (Nat.le_of_ble_eq_true rfl) kd_81 dX8_readLine_74 (bsX8_fails _ (4 : Int32) m) (fun m14 => ?_)
      exact T_sub [0, 1] rfl (uX8_readLine_77 X x1 m14 )
    · exact T_sub [0, 1] rfl (uX8_readLine_77 X x1 m )
def jX8_readLine_50 (x1 : Int32) (m : mMem) : mR := bV (fX8_fails (5 : Int32) m) (fun m8 => jX8_readLine_55 x1 m8)
set_option maxRecDepth 100000 in
theorem uX8_readLine_50 (X : mCx) (x1 : Int32) (m : mMem)  : T qX8_readLine X (jX8_readLine_50 x1 m) 50 [(0, .ref 81), (1, .int x1)] [] m := by
  unfold jX8_readLine_50
  refine T_aload_n 0 rfl rfl dX8_readLine_50 ?_
  refine T_iconst (5 : Int32) (by decide) dX8_readLine_51 ?_
  refine T_cVV (c := 8) [.int (5 : Int32)] [] mkX8_fails lmX8_105 rfl rfl (by decide) (Nat.le_of_ble_eq_true rfl) kd_81 dX8_readLine_52 (bsX8_fails _ (5 : Int32) m) (fun m8 => ?_)
  exact T_sub [0, 1] rfl (uX8_readLine_55 X x1 m8 )
def jX8_readLine_37 (x1 : Int32) (m : mMem) : mR := if x1 = (4 : Int32) then if (m.1 81 10) = (4 : Int32) then jX8_readLine_50 x1 m else jX8_readLine_55 x1 m else jX8_readLine_55 x1 m
set_option maxRecDepth 100000 in
theorem uX8_readLine_37 (X : mCx) (x1 : Int32) (m : mMem)  : T qX8_readLine X (jX8_readLine_37 x1 m) 37 [(0, .ref 81), (1, .int x1)] [] m := by
  unfold jX8_readLine_37
  refine T_iload_n 1 rfl rfl dX8_readLine_37 ?_
  refine T_iconst (4 : Int32) (by decide) dX8_readLine_38 ?_
  refine T_icmp_ne 55 dX8_readLine_39 (by decide) (fun _ => ?_) (fun _ => ?_)
  · refine T_aload_n 0 rfl rfl dX8_readLine_42 ?_
    refine gIX8_119 rfl kd_81 dX8_readLine_43 ?_
    refine T_iconst (4 : Int32) (by decide) dX8_readLine_46 ?_
    refine T_icmp_ne 55 dX8_readLine_47 (by decide) (fun _ => ?_) (fun _ => ?_)
    · exact T_sub [0, 1] rfl (uX8_readLine_50 X x1 m )
    · exact T_sub [0, 1] rfl (uX8_readLine_55 X x1 m )
  · exact T_sub [0, 1] rfl (uX8_readLine_55 X x1 m )
def fX8_readLine  (m : mMem) : mR := bI (fX8_nameHere m) (fun z2 m1 => bI (fX8_in (z2).toInt64 (0 : Int64) (6 : Int64) m1) (fun z5 m4 => if z5 = (0 : Int32) then bV (fX8_fails (2 : Int32) m4) (fun m7 => some (none, m7)) else if (3 : Int32) < z2 then jX8_readLine_37 z2 m4 else if (m4.1 81 9) = (10 : Int32) then jX8_readLine_50 z2 m4 else jX8_readLine_37 z2 m4))
set_option maxRecDepth 100000 in
theorem bsX8_readLine (l : Launch)  (m : mMem)  : BS l qX8_readLine [.ref 81] m (fX8_readLine  m) := BS_of (by decide) (Nat.le_of_ble_eq_true rfl) (fun X _ => by
    show T qX8_readLine X (fX8_readLine  m) 0 [(0, .ref 81)] [] m
    unfold fX8_readLine
    refine T_aload_n 0 rfl rfl dX8_readLine_0 ?_
    refine T_cVI (c := 8) [] [] mkX8_nameHere lmX8_125 rfl rfl (by decide) (Nat.le_of_ble_eq_true rfl) kd_81 dX8_readLine_1 (bsX8_nameHere _  m) (fun z2 m1 => ?_)
    refine T_istore_n (lv' := [(1, .int z2), (0, .ref 81)]) rfl (Nat.le_of_ble_eq_true rfl) rfl dX8_readLine_4 ?_
    refine T_iload_n 0 rfl rfl dX8_readLine_5 ?_
    refine T_i2l dX8_readLine_6 ?_
    refine T_lconst (0 : Int64) (by decide) dX8_readLine_7 ?_
    refine T_ldc2 lcX8_129 dX8_readLine_8 ?_
    refine T_cSI [.long (z2).toInt64, .long (0 : Int64), .long (6 : Int64)] [] mkX8_in lmX8_67 rfl (by decide) (Nat.le_of_ble_eq_true rfl) dX8_readLine_11 (bsX8_in _ (z2).toInt64 (0 : Int64) (6 : Int64) m1) (fun z5 m4 => ?_)
    refine T_if_ne 23 dX8_readLine_14 (by decide) (fun _ => ?_) (fun _ => ?_)
    · refine T_aload_n 1 rfl rfl dX8_readLine_17 ?_
      refine T_iconst (2 : Int32) (by decide) dX8_readLine_18 ?_
      refine T_cVV (c := 8) [.int (2 : Int32)] [] mkX8_fails lmX8_105 rfl rfl (by decide) (Nat.le_of_ble_eq_true rfl) kd_81 dX8_readLine_19 (bsX8_fails _ (2 : Int32) m4) (fun m7 => ?_)
      exact T_vret rfl dX8_readLine_22
    · refine T_iload_n 0 rfl rfl dX8_readLine_23 ?_
      refine T_iconst (3 : Int32) (by decide) dX8_readLine_24 ?_
      refine T_icmp_gt 37 dX8_readLine_25 (by decide) (fun _ => ?_) (fun _ => ?_)
      · exact T_sub [1, 0] rfl (uX8_readLine_37 X z2 m4 )
      · refine T_aload_n 1 rfl rfl dX8_readLine_28 ?_
        refine gIX8_112 rfl kd_81 dX8_readLine_29 ?_
        refine T_bipush (10 : Int32) (by decide) dX8_readLine_32 ?_
        refine T_icmp_eq 50 dX8_readLine_34 (by decide) (fun _ => ?_) (fun _ => ?_)
        · exact T_sub [1, 0] rfl (uX8_readLine_50 X z2 m4 )
        · exact T_sub [1, 0] rfl (uX8_readLine_37 X z2 m4 ))
theorem lmX8_182 : Cond.methodLink RX8 182 yX8_trodden ∈ gdL := gd_mem 1083 (by decide +kernel) (by decide +kernel)
def fX8_lodger (x1 : Int32) (x2 : Int32) (m : mMem) : mR := bI (fX8_isLodger x1 m) (fun z2 m1 => if z2 = (0 : Int32) then some (some (.int (-1 : Int32)), m1) else if x2 = (0 : Int32) then ga x1 4 (some (some (.int (m1.1 84 (x1).toNatClampNeg)), m1)) else if x2 = (1 : Int32) then ga ((((20 : Int32) + ((3 : Int32) * x1)) + x2) - (1 : Int32)) 210 (some (some (.int (m1.1 82 (((((20 : Int32) + ((3 : Int32) * x1)) + x2) - (1 : Int32))).toNatClampNeg)), m1)) else if x2 = (2 : Int32) then ga ((((20 : Int32) + ((3 : Int32) * x1)) + x2) - (1 : Int32)) 210 (some (some (.int (m1.1 82 (((((20 : Int32) + ((3 : Int32) * x1)) + x2) - (1 : Int32))).toNatClampNeg)), m1)) else if x2 = (3 : Int32) then ga ((((20 : Int32) + ((3 : Int32) * x1)) + x2) - (1 : Int32)) 210 (some (some (.int (m1.1 82 (((((20 : Int32) + ((3 : Int32) * x1)) + x2) - (1 : Int32))).toNatClampNeg)), m1)) else if x2 = (4 : Int32) then bI (fX8_reachOn (0 : Int32) x1 m1) (fun z5 m4 => some (some (.int z5), m4)) else if x2 = (5 : Int32) then bI (fX8_trodden x1 m1) (fun z8 m7 => some (some (.int z8), m7)) else some (some (.int (-1 : Int32)), m1))
set_option maxRecDepth 100000 in
theorem bsX8_lodger (l : Launch) (x1 : Int32) (x2 : Int32) (m : mMem)  : BS l qX8_lodger [.ref 81, .int x1, .int x2] m (fX8_lodger x1 x2 m) := BS_of (by decide) (Nat.le_of_ble_eq_true rfl) (fun X _ => by
    show T qX8_lodger X (fX8_lodger x1 x2 m) 0 [(0, .ref 81), (1, .int x1), (2, .int x2)] [] m
    unfold fX8_lodger
    refine T_aload_n 0 rfl rfl dX8_lodger_0 ?_
    refine T_iload_n 1 rfl rfl dX8_lodger_1 ?_
    refine T_cVI (c := 8) [.int x1] [] mkX8_isLodger lmX8_176 rfl rfl (by decide) (Nat.le_of_ble_eq_true rfl) kd_81 dX8_lodger_2 (bsX8_isLodger _ x1 m) (fun z2 m1 => ?_)
    refine T_if_ne 10 dX8_lodger_5 (by decide) (fun _ => ?_) (fun _ => ?_)
    · refine T_iconst (-1 : Int32) (by decide) dX8_lodger_8 ?_
      exact T_iret rfl dX8_lodger_9
    · refine T_iload_n 2 rfl rfl dX8_lodger_10 ?_
      refine T_ite (fun hc => ?_) (fun hn0 => ?_)
      · refine T_tsIn (0 : Int32) 48 hc dX8_lodger_11 (by decide) (by decide) rfl (by decide) ?_
        refine T_aload_n 0 rfl rfl dX8_lodger_48 ?_
        refine gRX8_16 rfl kd_81 84 rfl dX8_lodger_49 ?_
        refine T_iload_n 1 rfl rfl dX8_lodger_52 ?_
        refine T_iald kd_84 dX8_lodger_53 ?_
        exact T_iret rfl dX8_lodger_54
      · refine T_ite (fun hc => ?_) (fun hn1 => ?_)
        · refine T_tsIn (1 : Int32) 55 hc dX8_lodger_11 (by decide) (by decide) rfl (by decide) ?_
          refine T_aload_n 0 rfl rfl dX8_lodger_55 ?_
          refine gRX8_7 rfl kd_81 82 rfl dX8_lodger_56 ?_
          refine T_bipush (20 : Int32) (by decide) dX8_lodger_59 ?_
          refine T_iconst (3 : Int32) (by decide) dX8_lodger_61 ?_
          refine T_iload_n 1 rfl rfl dX8_lodger_62 ?_
          refine T_imul dX8_lodger_63 ?_
          refine T_iadd dX8_lodger_64 ?_
          refine T_iload_n 2 rfl rfl dX8_lodger_65 ?_
          refine T_iadd dX8_lodger_66 ?_
          refine T_iconst (1 : Int32) (by decide) dX8_lodger_67 ?_
          refine T_isub dX8_lodger_68 ?_
          refine T_iald kd_82 dX8_lodger_69 ?_
          exact T_iret rfl dX8_lodger_70
        · refine T_ite (fun hc => ?_) (fun hn2 => ?_)
          · refine T_tsIn (2 : Int32) 55 hc dX8_lodger_11 (by decide) (by decide) rfl (by decide) ?_
            refine T_aload_n 0 rfl rfl dX8_lodger_55 ?_
            refine gRX8_7 rfl kd_81 82 rfl dX8_lodger_56 ?_
            refine T_bipush (20 : Int32) (by decide) dX8_lodger_59 ?_
            refine T_iconst (3 : Int32) (by decide) dX8_lodger_61 ?_
            refine T_iload_n 1 rfl rfl dX8_lodger_62 ?_
            refine T_imul dX8_lodger_63 ?_
            refine T_iadd dX8_lodger_64 ?_
            refine T_iload_n 2 rfl rfl dX8_lodger_65 ?_
            refine T_iadd dX8_lodger_66 ?_
            refine T_iconst (1 : Int32) (by decide) dX8_lodger_67 ?_
            refine T_isub dX8_lodger_68 ?_
            refine T_iald kd_82 dX8_lodger_69 ?_
            exact T_iret rfl dX8_lodger_70
          · refine T_ite (fun hc => ?_) (fun hn3 => ?_)
            · refine T_tsIn (3 : Int32) 55 hc dX8_lodger_11 (by decide) (by decide) rfl (by decide) ?_
              refine T_aload_n 0 rfl rfl dX8_lodger_55 ?_
              refine gRX8_7 rfl kd_81 82 rfl dX8_lodger_56 ?_
              refine T_bipush (20 : Int32) (by decide) dX8_lodger_59 ?_
              refine T_iconst (3 : Int32) (by decide) dX8_lodger_61 ?_
              refine T_iload_n 1 rfl rfl dX8_lodger_62 ?_
              refine T_imul dX8_lodger_63 ?_
              refine T_iadd dX8_lodger_64 ?_
              refine T_iload_n 2 rfl rfl dX8_lodger_65 ?_
              refine T_iadd dX8_lodger_66 ?_
              refine T_iconst (1 : Int32) (by decide) dX8_lodger_67 ?_
              refine T_isub dX8_lodger_68 ?_
              refine T_iald kd_82 dX8_lodger_69 ?_
              exact T_iret rfl dX8_lodger_70
            · refine T_ite (fun hc => ?_) (fun hn4 => ?_)
              · refine T_tsIn (4 : Int32) 71 hc dX8_lodger_11 (by decide) (by decide) rfl (by decide) ?_
                refine T_aload_n 0 rfl rfl dX8_lodger_71 ?_
                refine T_iconst (0 : Int32) (by decide) dX8_lodger_72 ?_
                refine T_iload_n 1 rfl rfl dX8_lodger_73 ?_
                refine T_cVI (c := 8) [.int (0 : Int32), .int x1] [] mkX8_reachOn lmX8_179 rfl rfl (by decide) (Nat.le_of_ble_eq_true rfl) kd_81 dX8_lodger_74 (bsX8_reachOn _ (0 : Int32) x1 m1) (fun z5 m4 => ?_)
                exact T_iret rfl dX8_lodger_77
              · refine T_ite (fun hc => ?_) (fun hn5 => ?_)
                · refine T_tsIn (5 : Int32) 78 hc dX8_lodger_11 (by decide) (by decide) rfl (by decide) ?_
                  refine T_aload_n 0 rfl rfl dX8_lodger_78 ?_
                  refine T_iload_n 1 rfl rfl dX8_lodger_79 ?_
                  refine T_cVI (c := 8) [.int x1] [] mkX8_trodden lmX8_182 rfl rfl (by decide) (Nat.le_of_ble_eq_true rfl) kd_81 dX8_lodger_80 (bsX8_trodden _ x1 m1) (fun z8 m7 => ?_)
                  exact T_iret rfl dX8_lodger_83
                · refine T_tsOut 84 (by have e0 := neT (k := 0) hn0 (by decide); have e1 := neT (k := 1) hn1 (by decide); have e2 := neT (k := 2) hn2 (by decide); have e3 := neT (k := 3) hn3 (by decide); have e4 := neT (k := 4) hn4 (by decide); have e5 := neT (k := 5) hn5 (by decide); omega) dX8_lodger_11 (by decide) ?_
                  refine T_iconst (-1 : Int32) (by decide) dX8_lodger_84 ?_
                  exact T_iret rfl dX8_lodger_85)
theorem lmX8_197 : Cond.methodLink RX8 197 yX8_layFewest ∈ gdL := gd_mem 1141 (by decide +kernel) (by decide +kernel)
def fX8_hasClimb (x1 : Int32) (x2 : Int32) (m : mMem) : mR := bV (fX8_layFewest x1 x2 m) (fun m1 => ga (0 : Int32) 11 (if (100 : Int32) ≤ (m1.1 91 ((0 : Int32)).toNatClampNeg) then some (some (.int (0 : Int32)), m1) else some (some (.int (1 : Int32)), m1)))
set_option maxRecDepth 100000 in
theorem bsX8_hasClimb (l : Launch) (x1 : Int32) (x2 : Int32) (m : mMem)  : BS l qX8_hasClimb [.ref 81, .int x1, .int x2] m (fX8_hasClimb x1 x2 m) := BS_of (by decide) (Nat.le_of_ble_eq_true rfl) (fun X _ => by
    show T qX8_hasClimb X (fX8_hasClimb x1 x2 m) 0 [(0, .ref 81), (1, .int x1), (2, .int x2)] [] m
    unfold fX8_hasClimb
    refine T_aload_n 0 rfl rfl dX8_hasClimb_0 ?_
    refine T_iload_n 1 rfl rfl dX8_hasClimb_1 ?_
    refine T_iload_n 2 rfl rfl dX8_hasClimb_2 ?_
    refine T_cVV (c := 8) [.int x1, .int x2] [] mkX8_layFewest lmX8_197 rfl rfl (by decide) (Nat.le_of_ble_eq_true rfl) kd_81 dX8_hasClimb_3 (bsX8_layFewest _ x1 x2 m) (fun m1 => ?_)
    refine T_aload_n 0 rfl rfl dX8_hasClimb_6 ?_
    refine gRX8_37 rfl kd_81 91 rfl dX8_hasClimb_7 ?_
    refine T_iconst (0 : Int32) (by decide) dX8_hasClimb_10 ?_
    refine T_iald kd_91 dX8_hasClimb_11 ?_
    refine T_bipush (100 : Int32) (by decide) dX8_hasClimb_12 ?_
    refine T_icmp_ge 21 dX8_hasClimb_14 (by decide) (fun _ => ?_) (fun _ => ?_)
    · refine T_iconst (0 : Int32) (by decide) dX8_hasClimb_21 ?_
      exact T_zretc (by decide) rfl dX8_hasClimb_22
    · refine T_iconst (1 : Int32) (by decide) dX8_hasClimb_17 ?_
      refine T_goto 22 dX8_hasClimb_18 (by decide) ?_
      exact T_zretc (by decide) rfl dX8_hasClimb_22)
theorem lfX8_40 : Cond.fieldLink RX8 40 "RankStairsModel" "trod" "[I" ∈ gdL := gd_mem 909 (by decide +kernel) (by decide +kernel)
theorem gRX8_40 {q : mMI} {X : mCx} {tgt : mR} {pc : Nat} {lv : List (Nat × Value)} {st : List Value} {μ : mMem} {b : Nat} (hq : q.1.cls = RX8) (hb : kd b = (8, 0)) (z : Nat) (hz : rf b 25 = z) (hd : decode q.2.1 pc = .ok (.getfield 40, 3)) (h : T q X tgt (pc + 3) lv (.ref z :: st) μ) : T q X tgt pc lv (.ref b :: st) μ := T_getR (c := 8) rfl (by decide) rfl (by decide) (by rw [hq]; exact lfX8_40) hb z hz hd h
def bX8_climbOn_45 (k33 : Int32 × Int32 × mMem → mR) (x1 : Int32) (x2 : Int32) (x4 : Int32) (x5 : Int32) (k45 : Int32 × mMem → mR) (s : Int32 × mMem) : mR := match s with
  | (x6, m) => bI (fX8_mayTread x1 x2 (x6 - (1 : Int32)) m) (fun z5 m4 => if z5 = (0 : Int32) then li (x6 + (1 : Int32)) (fun y7 => k45 (y7, m4)) else ga x6 11 (if (m4.1 91 (x6).toNatClampNeg) = ((x4 - x5) - (1 : Int32)) then ga x5 10 (lt (si m4 92 (x5).toNatClampNeg (x6 - (1 : Int32))) (fun m8 => li (x5 + (1 : Int32)) (fun y9 => k33 (x6, y9, m8)))) else li (x6 + (1 : Int32)) (fun y10 => k45 (y10, m4))))
set_option maxRecDepth 100000 in
theorem tX8_climbOn_45 (X : mCx) (k33 : Int32 × Int32 × mMem → mR) (x1 : Int32) (x2 : Int32) (x4 : Int32) (x5 : Int32) (hk33 : ∀ s : Int32 × Int32 × mMem, T qX8_climbOn X (k33 s) 33 [(0, .ref 81), (1, .int x1), (2, .int x2), (3, .int s.1), (4, .int x4), (5, .int s.2.1)] [] s.2.2) : ∀ (n : Nat) (s : Int32 × mMem), T qX8_climbOn X (lp (bX8_climbOn_45 k33 x1 x2 x4 x5) n s) 45 [(0, .ref 81), (1, .int x1), (2, .int x2), (4, .int x4), (5, .int x5), (6, .int s.1)] [] s.2 :=
  T_lp (body := bX8_climbOn_45 k33 x1 x2 x4 x5) (lv := fun s => [(0, .ref 81), (1, .int x1), (2, .int x2), (4, .int x4), (5, .int x5), (6, .int s.1)]) (st := fun _ => []) (μ := fun s : Int32 × mMem => s.2) (fun k45 hk45 s => by
    obtain ⟨x6, m⟩ := s
    show T qX8_climbOn X (bX8_climbOn_45 k33 x1 x2 x4 x5 k45 (x6, m)) 45 [(0, .ref 81), (1, .int x1), (2, .int x2), (4, .int x4), (5, .int x5), (6, .int x6)] [] m
    unfold bX8_climbOn_45
    dsimp only
    refine T_aload_n 0 rfl rfl dX8_climbOn_45 ?_
    refine T_iload_n 1 rfl rfl dX8_climbOn_46 ?_
    refine T_iload_n 2 rfl rfl dX8_climbOn_47 ?_
    refine T_iload 5 rfl dX8_climbOn_48 ?_
    refine T_iconst (1 : Int32) (by decide) dX8_climbOn_50 ?_
    refine T_isub dX8_climbOn_51 ?_
    refine T_cVI (c := 8) [.int x1, .int x2, .int (x6 - (1 : Int32))] [] mkX8_mayTread lmX8_168 rfl rfl (by decide) (Nat.le_of_ble_eq_true rfl) kd_81 dX8_climbOn_52 (bsX8_mayTread _ x1 x2 (x6 - (1 : Int32)) m) (fun z5 m4 => ?_)
    refine T_if_eq 75 dX8_climbOn_55 (by decide) (fun _ => ?_) (fun _ => ?_)
    · refine T_iinc (lv' := [(6, .int (x6 + (1 : Int32))), (0, .ref 81), (1, .int x1), (2, .int x2), (4, .int x4), (5, .int x5)]) 5 (1 : Int32) rfl (by decide) (Nat.le_of_ble_eq_true rfl) rfl dX8_climbOn_75 ?_
      refine T_li (fun y7 => ?_)
      refine T_goto 45 dX8_climbOn_78 (by decide) ?_
      exact T_sub [1, 2, 3, 4, 5, 0] rfl (hk45 (y7, m4))
    · refine T_aload_n 0 rfl rfl dX8_climbOn_58 ?_
      refine gRX8_37 rfl kd_81 91 rfl dX8_climbOn_59 ?_
      refine T_iload 5 rfl dX8_climbOn_62 ?_
      refine T_iald kd_91 dX8_climbOn_64 ?_
      refine T_iload 3 rfl dX8_climbOn_65 ?_
      refine T_iload 4 rfl dX8_climbOn_67 ?_
      refine T_isub dX8_climbOn_69 ?_
      refine T_iconst (1 : Int32) (by decide) dX8_climbOn_70 ?_
      refine T_isub dX8_climbOn_71 ?_
      refine T_icmp_eq 81 dX8_climbOn_72 (by decide) (fun _ => ?_) (fun _ => ?_)
      · refine T_aload_n 0 rfl rfl dX8_climbOn_81 ?_
        refine gRX8_40 rfl kd_81 92 rfl dX8_climbOn_82 ?_
        refine T_iload 4 rfl dX8_climbOn_85 ?_
        refine T_iload 5 rfl dX8_climbOn_87 ?_
        refine T_iconst (1 : Int32) (by decide) dX8_climbOn_89 ?_
        refine T_isub dX8_climbOn_90 ?_
        refine T_iast _ rfl kd_92 dX8_climbOn_91 ?_
        refine T_lt (fun m8 => ?_)
        refine T_iload 5 rfl dX8_climbOn_92 ?_
        refine T_istore_n (lv' := [(3, .int x6), (0, .ref 81), (1, .int x1), (2, .int x2), (4, .int x4), (5, .int x5), (6, .int x6)]) rfl (Nat.le_of_ble_eq_true rfl) rfl dX8_climbOn_94 ?_
        refine T_iinc (lv' := [(5, .int (x5 + (1 : Int32))), (3, .int x6), (0, .ref 81), (1, .int x1), (2, .int x2), (4, .int x4), (6, .int x6)]) 5 (1 : Int32) rfl (by decide) (Nat.le_of_ble_eq_true rfl) rfl dX8_climbOn_95 ?_
        refine T_li (fun y9 => ?_)
        refine T_goto 33 dX8_climbOn_98 (by decide) ?_
        exact T_sub [2, 3, 4, 1, 5, 0] rfl (hk33 (x6, y9, m8))
      · refine T_iinc (lv' := [(6, .int (x6 + (1 : Int32))), (0, .ref 81), (1, .int x1), (2, .int x2), (4, .int x4), (5, .int x5)]) 5 (1 : Int32) rfl (by decide) (Nat.le_of_ble_eq_true rfl) rfl dX8_climbOn_75 ?_
        refine T_li (fun y10 => ?_)
        refine T_goto 45 dX8_climbOn_78 (by decide) ?_
        exact T_sub [1, 2, 3, 4, 5, 0] rfl (hk45 (y10, m4)))
def bX8_climbOn_33 (x1 : Int32) (x2 : Int32) (x4 : Int32) (k33 : Int32 × Int32 × mMem → mR) (s : Int32 × Int32 × mMem) : mR := match s with
  | (x3, x5, m) => if x4 ≤ x5 then some (some (.int x4), m) else li (x3 + (1 : Int32)) (fun y3 => lp (bX8_climbOn_45 k33 x1 x2 x4 x5) FU (y3, m))
set_option maxRecDepth 100000 in
theorem tX8_climbOn_33 (X : mCx) (x1 : Int32) (x2 : Int32) (x4 : Int32)  : ∀ (n : Nat) (s : Int32 × Int32 × mMem), T qX8_climbOn X (lp (bX8_climbOn_33 x1 x2 x4) n s) 33 [(0, .ref 81), (1, .int x1), (2, .int x2), (3, .int s.1), (4, .int x4), (5, .int s.2.1)] [] s.2.2 :=
  T_lp (body := bX8_climbOn_33 x1 x2 x4) (lv := fun s => [(0, .ref 81), (1, .int x1), (2, .int x2), (3, .int s.1), (4, .int x4), (5, .int s.2.1)]) (st := fun _ => []) (μ := fun s : Int32 × Int32 × mMem => s.2.2) (fun k33 hk33 s => by
    obtain ⟨x3, x5, m⟩ := s
    show T qX8_climbOn X (bX8_climbOn_33 x1 x2 x4 k33 (x3, x5, m)) 33 [(0, .ref 81), (1, .int x1), (2, .int x2), (3, .int x3), (4, .int x4), (5, .int x5)] [] m
    unfold bX8_climbOn_33
    dsimp only
    refine T_iload 5 rfl dX8_climbOn_33 ?_
    refine T_iload 4 rfl dX8_climbOn_35 ?_
    refine T_icmp_ge 101 dX8_climbOn_37 (by decide) (fun _ => ?_) (fun _ => ?_)
    · refine T_iload 4 rfl dX8_climbOn_101 ?_
      exact T_iret rfl dX8_climbOn_103
    · refine T_iload_n 3 rfl rfl dX8_climbOn_40 ?_
      refine T_iconst (1 : Int32) (by decide) dX8_climbOn_41 ?_
      refine T_iadd dX8_climbOn_42 ?_
      refine T_istore (lv' := [(6, .int (x3 + (1 : Int32))), (0, .ref 81), (1, .int x1), (2, .int x2), (3, .int x3), (4, .int x4), (5, .int x5)]) (Nat.le_of_ble_eq_true rfl) rfl dX8_climbOn_43 ?_
      refine T_li (fun y3 => ?_)
      exact T_sub [1, 2, 3, 5, 6, 0] rfl (tX8_climbOn_45 X k33 x1 x2 x4 x5 hk33 FU (y3, m)))
def fX8_climbOn (x1 : Int32) (x2 : Int32) (m : mMem) : mR := bV (fX8_layFewest x1 x2 m) (fun m1 => ga (0 : Int32) 11 (if (m1.1 91 ((0 : Int32)).toNatClampNeg) < (100 : Int32) then ga (0 : Int32) 11 (li (m1.1 91 ((0 : Int32)).toNatClampNeg) (fun y2 => lp (bX8_climbOn_33 x1 x2 y2) FU ((0 : Int32), (0 : Int32), m1))) else some (some (.int (-4 : Int32)), m1)))
set_option maxRecDepth 100000 in
theorem bsX8_climbOn (l : Launch) (x1 : Int32) (x2 : Int32) (m : mMem)  : BS l qX8_climbOn [.ref 81, .int x1, .int x2] m (fX8_climbOn x1 x2 m) := BS_of (by decide) (Nat.le_of_ble_eq_true rfl) (fun X _ => by
    show T qX8_climbOn X (fX8_climbOn x1 x2 m) 0 [(0, .ref 81), (1, .int x1), (2, .int x2)] [] m
    unfold fX8_climbOn
    refine T_aload_n 0 rfl rfl dX8_climbOn_0 ?_
    refine T_iload_n 1 rfl rfl dX8_climbOn_1 ?_
    refine T_iload_n 2 rfl rfl dX8_climbOn_2 ?_
    refine T_cVV (c := 8) [.int x1, .int x2] [] mkX8_layFewest lmX8_197 rfl rfl (by decide) (Nat.le_of_ble_eq_true rfl) kd_81 dX8_climbOn_3 (bsX8_layFewest _ x1 x2 m) (fun m1 => ?_)
    refine T_aload_n 0 rfl rfl dX8_climbOn_6 ?_
    refine gRX8_37 rfl kd_81 91 rfl dX8_climbOn_7 ?_
    refine T_iconst (0 : Int32) (by decide) dX8_climbOn_10 ?_
    refine T_iald kd_91 dX8_climbOn_11 ?_
    refine T_bipush (100 : Int32) (by decide) dX8_climbOn_12 ?_
    refine T_icmp_lt 20 dX8_climbOn_14 (by decide) (fun _ => ?_) (fun _ => ?_)
    · refine T_iconst (0 : Int32) (by decide) dX8_climbOn_20 ?_
      refine T_istore_n (lv' := [(3, .int (0 : Int32)), (0, .ref 81), (1, .int x1), (2, .int x2)]) rfl (Nat.le_of_ble_eq_true rfl) rfl dX8_climbOn_21 ?_
      refine T_aload_n 1 rfl rfl dX8_climbOn_22 ?_
      refine gRX8_37 rfl kd_81 91 rfl dX8_climbOn_23 ?_
      refine T_iconst (0 : Int32) (by decide) dX8_climbOn_26 ?_
      refine T_iald kd_91 dX8_climbOn_27 ?_
      refine T_istore (lv' := [(4, .int (m1.1 91 ((0 : Int32)).toNatClampNeg)), (3, .int (0 : Int32)), (0, .ref 81), (1, .int x1), (2, .int x2)]) (Nat.le_of_ble_eq_true rfl) rfl dX8_climbOn_28 ?_
      refine T_li (fun y2 => ?_)
      refine T_iconst (0 : Int32) (by decide) dX8_climbOn_30 ?_
      refine T_istore (lv' := [(5, .int (0 : Int32)), (4, .int y2), (3, .int (0 : Int32)), (0, .ref 81), (1, .int x1), (2, .int x2)]) (Nat.le_of_ble_eq_true rfl) rfl dX8_climbOn_31 ?_
      exact T_sub [3, 4, 5, 2, 1, 0] rfl (tX8_climbOn_33 X x1 x2 y2  FU ((0 : Int32), (0 : Int32), m1))
    · refine T_bipush (-4 : Int32) (by decide) dX8_climbOn_17 ?_
      exact T_iret rfl dX8_climbOn_19)
theorem lmX8_137 : Cond.methodLink RX8 137 yX8_readLine ∈ gdL := gd_mem 1022 (by decide +kernel) (by decide +kernel)
def bX8_text_135 (x1 : Int32) (k135 : Int32 × mMem → mR) (s : Int32 × mMem) : mR := match s with
  | (x2, m) => if (35 : Int32) ≤ x2 then lt (si m 81 2 (m.1 81 9)) (fun m10 => lt (si m10 81 4 (m10.1 81 10)) (fun m11 => lt (si m11 81 29 (0 : Int32)) (fun m12 => ga (0 : Int32) 2 (lt (si m12 96 ((0 : Int32)).toNatClampNeg (0 : Int32)) (fun m13 => ga (1 : Int32) 2 (lt (si m13 96 ((1 : Int32)).toNatClampNeg (0 : Int32)) (fun m14 => some (some (.int x1), m14)))))))) else ga x2 35 (ga x2 210 (lt (si m 82 (x2).toNatClampNeg (m.1 85 (x2).toNatClampNeg)) (fun m15 => g0i (10 : Int32) (g0i (10 : Int32) (ga (x2 - x2 / (10 : Int32) * (10 : Int32)) 10 (ga (x2 - x2 / (10 : Int32) * (10 : Int32)) 10 (lt (si m15 83 ((x2 - x2 / (10 : Int32) * (10 : Int32))).toNatClampNeg (m15.1 86 ((x2 - x2 / (10 : Int32) * (10 : Int32))).toNatClampNeg)) (fun m16 => g0i (4 : Int32) (g0i (4 : Int32) (ga (x2 - x2 / (4 : Int32) * (4 : Int32)) 4 (ga (x2 - x2 / (4 : Int32) * (4 : Int32)) 4 (lt (si m16 84 ((x2 - x2 / (4 : Int32) * (4 : Int32))).toNatClampNeg (m16.1 87 ((x2 - x2 / (4 : Int32) * (4 : Int32))).toNatClampNeg)) (fun m17 => li (x2 + (1 : Int32)) (fun y18 => k135 (y18, m17)))))))))))))))
set_option maxRecDepth 100000 in
theorem tX8_text_135 (X : mCx) (x1 : Int32)  : ∀ (n : Nat) (s : Int32 × mMem), T qX8_text X (lp (bX8_text_135 x1) n s) 135 [(0, .ref 81), (1, .int x1), (2, .int s.1)] [] s.2 :=
  T_lp (body := bX8_text_135 x1) (lv := fun s => [(0, .ref 81), (1, .int x1), (2, .int s.1)]) (st := fun _ => []) (μ := fun s : Int32 × mMem => s.2) (fun k135 hk135 s => by
    obtain ⟨x2, m⟩ := s
    show T qX8_text X (bX8_text_135 x1 k135 (x2, m)) 135 [(0, .ref 81), (1, .int x1), (2, .int x2)] [] m
    unfold bX8_text_135
    dsimp only
    refine T_iload_n 2 rfl rfl dX8_text_135 ?_
    refine T_bipush (35 : Int32) (by decide) dX8_text_136 ?_
    refine T_icmp_ge 193 dX8_text_138 (by decide) (fun _ => ?_) (fun _ => ?_)
    · refine T_aload_n 0 rfl rfl dX8_text_193 ?_
      refine T_aload_n 0 rfl rfl dX8_text_194 ?_
      refine gIX8_112 rfl kd_81 dX8_text_195 ?_
      refine pIX8_143 rfl rfl rfl kd_81 dX8_text_198 ?_
      refine T_lt (fun m10 => ?_)
      refine T_aload_n 0 rfl rfl dX8_text_201 ?_
      refine T_aload_n 0 rfl rfl dX8_text_202 ?_
      refine gIX8_119 rfl kd_81 dX8_text_203 ?_
      refine pIX8_146 rfl rfl rfl kd_81 dX8_text_206 ?_
      refine T_lt (fun m11 => ?_)
      refine T_aload_n 0 rfl rfl dX8_text_209 ?_
      refine T_iconst (0 : Int32) (by decide) dX8_text_210 ?_
      refine pIX8_149 rfl rfl rfl kd_81 dX8_text_211 ?_
      refine T_lt (fun m12 => ?_)
      refine T_aload_n 0 rfl rfl dX8_text_214 ?_
      refine gRX8_52 rfl kd_81 96 rfl dX8_text_215 ?_
      refine T_iconst (0 : Int32) (by decide) dX8_text_218 ?_
      refine T_iconst (0 : Int32) (by decide) dX8_text_219 ?_
      refine T_zast (0 : Int32) (by decide) kd_96 dX8_text_220 ?_
      refine T_lt (fun m13 => ?_)
      refine T_aload_n 0 rfl rfl dX8_text_221 ?_
      refine gRX8_52 rfl kd_81 96 rfl dX8_text_222 ?_
      refine T_iconst (1 : Int32) (by decide) dX8_text_225 ?_
      refine T_iconst (0 : Int32) (by decide) dX8_text_226 ?_
      refine T_zast (0 : Int32) (by decide) kd_96 dX8_text_227 ?_
      refine T_lt (fun m14 => ?_)
      refine T_iload_n 1 rfl rfl dX8_text_228 ?_
      exact T_iret rfl dX8_text_229
    · refine T_aload_n 0 rfl rfl dX8_text_141 ?_
      refine gRX8_7 rfl kd_81 82 rfl dX8_text_142 ?_
      refine T_iload_n 2 rfl rfl dX8_text_145 ?_
      refine T_aload_n 0 rfl rfl dX8_text_146 ?_
      refine gRX8_19 rfl kd_81 85 rfl dX8_text_147 ?_
      refine T_iload_n 2 rfl rfl dX8_text_150 ?_
      refine T_iald kd_85 dX8_text_151 ?_
      refine T_iast _ rfl kd_82 dX8_text_152 ?_
      refine T_lt (fun m15 => ?_)
      refine T_aload_n 0 rfl rfl dX8_text_153 ?_
      refine gRX8_13 rfl kd_81 83 rfl dX8_text_154 ?_
      refine T_iload_n 2 rfl rfl dX8_text_157 ?_
      refine T_bipush (10 : Int32) (by decide) dX8_text_158 ?_
      refine T_irem (x := x2) (y := (10 : Int32)) dX8_text_160 ?_
      refine T_aload_n 0 rfl rfl dX8_text_161 ?_
      refine gRX8_22 rfl kd_81 86 rfl dX8_text_162 ?_
      refine T_iload_n 2 rfl rfl dX8_text_165 ?_
      refine T_bipush (10 : Int32) (by decide) dX8_text_166 ?_
      refine T_irem (x := x2) (y := (10 : Int32)) dX8_text_168 ?_
      refine T_iald kd_86 dX8_text_169 ?_
      refine T_iast _ rfl kd_83 dX8_text_170 ?_
      refine T_lt (fun m16 => ?_)
      refine T_aload_n 0 rfl rfl dX8_text_171 ?_
      refine gRX8_16 rfl kd_81 84 rfl dX8_text_172 ?_
      refine T_iload_n 2 rfl rfl dX8_text_175 ?_
      refine T_iconst (4 : Int32) (by decide) dX8_text_176 ?_
      refine T_irem (x := x2) (y := (4 : Int32)) dX8_text_177 ?_
      refine T_aload_n 0 rfl rfl dX8_text_178 ?_
      refine gRX8_25 rfl kd_81 87 rfl dX8_text_179 ?_
      refine T_iload_n 2 rfl rfl dX8_text_182 ?_
      refine T_iconst (4 : Int32) (by decide) dX8_text_183 ?_
      refine T_irem (x := x2) (y := (4 : Int32)) dX8_text_184 ?_
      refine T_iald kd_87 dX8_text_185 ?_
      refine T_iast _ rfl kd_84 dX8_text_186 ?_
      refine T_lt (fun m17 => ?_)
      refine T_iinc (lv' := [(2, .int (x2 + (1 : Int32))), (0, .ref 81), (1, .int x1)]) 2 (1 : Int32) rfl (by decide) (Nat.le_of_ble_eq_true rfl) rfl dX8_text_187 ?_
      refine T_li (fun y18 => ?_)
      refine T_goto 135 dX8_text_190 (by decide) ?_
      exact T_sub [1, 2, 0] rfl (hk135 (y18, m17)))
def jX8_text_105 (x1 : Int32) (m : mMem) : mR := lt (si m 81 14 (0 : Int32)) (fun m8 => lt (si m8 81 15 (m8.1 81 16)) (fun m9 => if (m9.1 81 16) ≤ (0 : Int32) then lp (bX8_text_135 x1) FU ((0 : Int32), m9) else some (some (.int ((-10 : Int32) - (m9.1 81 17))), m9)))
set_option maxRecDepth 100000 in
theorem uX8_text_105 (X : mCx) (x1 : Int32) (m : mMem)  : T qX8_text X (jX8_text_105 x1 m) 105 [(0, .ref 81), (1, .int x1)] [] m := by
  unfold jX8_text_105
  refine T_aload_n 0 rfl rfl dX8_text_105 ?_
  refine T_iconst (0 : Int32) (by decide) dX8_text_106 ?_
  refine pIX8_71 rfl rfl rfl kd_81 dX8_text_107 ?_
  refine T_lt (fun m8 => ?_)
  refine T_aload_n 0 rfl rfl dX8_text_110 ?_
  refine T_aload_n 0 rfl rfl dX8_text_111 ?_
  refine gIX8_75 rfl kd_81 dX8_text_112 ?_
  refine pIX8_140 rfl rfl rfl kd_81 dX8_text_115 ?_
  refine T_lt (fun m9 => ?_)
  refine T_aload_n 0 rfl rfl dX8_text_118 ?_
  refine gIX8_75 rfl kd_81 dX8_text_119 ?_
  refine T_if_le 133 dX8_text_122 (by decide) (fun _ => ?_) (fun _ => ?_)
  · refine T_iconst (0 : Int32) (by decide) dX8_text_133 ?_
    refine T_istore_n (lv' := [(2, .int (0 : Int32)), (0, .ref 81), (1, .int x1)]) rfl (Nat.le_of_ble_eq_true rfl) rfl dX8_text_134 ?_
    exact T_sub [1, 2, 0] rfl (tX8_text_135 X x1  FU ((0 : Int32), m9))
  · refine T_bipush (-10 : Int32) (by decide) dX8_text_125 ?_
    refine T_aload_n 0 rfl rfl dX8_text_127 ?_
    refine gIX8_81 rfl kd_81 dX8_text_128 ?_
    refine T_isub dX8_text_131 ?_
    exact T_iret rfl dX8_text_132
def jX8_text_81 (x1 : Int32) (m : mMem) : mR := if (m.1 81 16) = (0 : Int32) then if (m.1 81 12) < (m.1 81 9) then jX8_text_105 x1 m else bV (fX8_fails (6 : Int32) m) (fun m19 => jX8_text_105 x1 m19) else jX8_text_105 x1 m
set_option maxRecDepth 100000 in
theorem uX8_text_81 (X : mCx) (x1 : Int32) (m : mMem)  : T qX8_text X (jX8_text_81 x1 m) 81 [(0, .ref 81), (1, .int x1)] [] m := by
  unfold jX8_text_81
  refine T_aload_n 0 rfl rfl dX8_text_81 ?_
  refine gIX8_75 rfl kd_81 dX8_text_82 ?_
  refine T_if_ne 105 dX8_text_85 (by decide) (fun _ => ?_) (fun _ => ?_)
  · refine T_aload_n 0 rfl rfl dX8_text_88 ?_
    refine gIX8_122 rfl kd_81 dX8_text_89 ?_
    refine T_aload_n 0 rfl rfl dX8_text_92 ?_
    refine gIX8_112 rfl kd_81 dX8_text_93 ?_
    refine T_icmp_lt 105 dX8_text_96 (by decide) (fun _ => ?_) (fun _ => ?_)
    · exact T_sub [0, 1] rfl (uX8_text_105 X x1 m )
    · refine T_aload_n 0 rfl rfl dX8_text_99 ?_
      refine T_bipush (6 : Int32) (by decide) dX8_text_100 ?_
      refine T_cVV (c := 8) [.int (6 : Int32)] [] mkX8_fails lmX8_105 rfl rfl (by decide) (Nat.le_of_ble_eq_true rfl) kd_81 dX8_text_102 (bsX8_fails _ (6 : Int32) m) (fun m19 => ?_)
      exact T_sub [0, 1] rfl (uX8_text_105 X x1 m19 )
  · exact T_sub [0, 1] rfl (uX8_text_105 X x1 m )
def bX8_text_57  (k57 : Int32 × mMem → mR) (s : Int32 × mMem) : mR := match s with
  | (x1, m) => if (m.1 81 16) = (0 : Int32) then if (m.1 81 20) = (0 : Int32) then jX8_text_81 x1 m else bV (fX8_readLine m) (fun m20 => li (x1 + (1 : Int32)) (fun y21 => k57 (y21, m20))) else jX8_text_81 x1 m
set_option maxRecDepth 100000 in
theorem tX8_text_57 (X : mCx)   : ∀ (n : Nat) (s : Int32 × mMem), T qX8_text X (lp (bX8_text_57 ) n s) 57 [(0, .ref 81), (1, .int s.1)] [] s.2 :=
  T_lp (body := bX8_text_57 ) (lv := fun s => [(0, .ref 81), (1, .int s.1)]) (st := fun _ => []) (μ := fun s : Int32 × mMem => s.2) (fun k57 hk57 s => by
    obtain ⟨x1, m⟩ := s
    show T qX8_text X (bX8_text_57  k57 (x1, m)) 57 [(0, .ref 81), (1, .int x1)] [] m
    unfold bX8_text_57
    dsimp only
    refine T_aload_n 0 rfl rfl dX8_text_57 ?_
    refine gIX8_75 rfl kd_81 dX8_text_58 ?_
    refine T_if_ne 81 dX8_text_61 (by decide) (fun _ => ?_) (fun _ => ?_)
    · refine T_aload_n 0 rfl rfl dX8_text_64 ?_
      refine gIX8_84 rfl kd_81 dX8_text_65 ?_
      refine T_if_eq 81 dX8_text_68 (by decide) (fun _ => ?_) (fun _ => ?_)
      · exact T_sub [0, 1] rfl (uX8_text_81 X x1 m )
      · refine T_aload_n 0 rfl rfl dX8_text_71 ?_
        refine T_cVV (c := 8) [] [] mkX8_readLine lmX8_137 rfl rfl (by decide) (Nat.le_of_ble_eq_true rfl) kd_81 dX8_text_72 (bsX8_readLine _  m) (fun m20 => ?_)
        refine T_iinc (lv' := [(1, .int (x1 + (1 : Int32))), (0, .ref 81)]) 1 (1 : Int32) rfl (by decide) (Nat.le_of_ble_eq_true rfl) rfl dX8_text_75 ?_
        refine T_li (fun y21 => ?_)
        refine T_goto 57 dX8_text_78 (by decide) ?_
        exact T_sub [1, 0] rfl (hk57 (y21, m20))
    · exact T_sub [0, 1] rfl (uX8_text_81 X x1 m ))
def bX8_text_34 (x1 : Int32) (k34 : Int32 × mMem → mR) (s : Int32 × mMem) : mR := match s with
  | (x2, m) => if (35 : Int32) ≤ x2 then bV (fX8_goesOn m) (fun m7 => lp (bX8_text_57 ) FU (x1, m7)) else ga x2 35 (lt (si m 85 (x2).toNatClampNeg (0 : Int32)) (fun m22 => li (x2 + (1 : Int32)) (fun y23 => k34 (y23, m22))))
set_option maxRecDepth 100000 in
theorem tX8_text_34 (X : mCx) (x1 : Int32)  : ∀ (n : Nat) (s : Int32 × mMem), T qX8_text X (lp (bX8_text_34 x1) n s) 34 [(0, .ref 81), (1, .int x1), (2, .int s.1)] [] s.2 :=
  T_lp (body := bX8_text_34 x1) (lv := fun s => [(0, .ref 81), (1, .int x1), (2, .int s.1)]) (st := fun _ => []) (μ := fun s : Int32 × mMem => s.2) (fun k34 hk34 s => by
    obtain ⟨x2, m⟩ := s
    show T qX8_text X (bX8_text_34 x1 k34 (x2, m)) 34 [(0, .ref 81), (1, .int x1), (2, .int x2)] [] m
    unfold bX8_text_34
    dsimp only
    refine T_iload_n 2 rfl rfl dX8_text_34 ?_
    refine T_bipush (35 : Int32) (by decide) dX8_text_35 ?_
    refine T_icmp_ge 53 dX8_text_37 (by decide) (fun _ => ?_) (fun _ => ?_)
    · refine T_aload_n 0 rfl rfl dX8_text_53 ?_
      refine T_cVV (c := 8) [] [] mkX8_goesOn lmX8_109 rfl rfl (by decide) (Nat.le_of_ble_eq_true rfl) kd_81 dX8_text_54 (bsX8_goesOn _  m) (fun m7 => ?_)
      exact T_sub [0, 1] rfl (tX8_text_57 X   FU (x1, m7))
    · refine T_aload_n 0 rfl rfl dX8_text_40 ?_
      refine gRX8_19 rfl kd_81 85 rfl dX8_text_41 ?_
      refine T_iload_n 2 rfl rfl dX8_text_44 ?_
      refine T_iconst (0 : Int32) (by decide) dX8_text_45 ?_
      refine T_iast _ rfl kd_85 dX8_text_46 ?_
      refine T_lt (fun m22 => ?_)
      refine T_iinc (lv' := [(2, .int (x2 + (1 : Int32))), (0, .ref 81), (1, .int x1)]) 2 (1 : Int32) rfl (by decide) (Nat.le_of_ble_eq_true rfl) rfl dX8_text_47 ?_
      refine T_li (fun y23 => ?_)
      refine T_goto 34 dX8_text_50 (by decide) ?_
      exact T_sub [1, 2, 0] rfl (hk34 (y23, m22)))
def fX8_text  (m : mMem) : mR := lt (si m 81 16 (0 : Int32)) (fun m1 => lt (si m1 81 18 (0 : Int32)) (fun m2 => lt (si m2 81 9 (0 : Int32)) (fun m3 => lt (si m3 81 10 (0 : Int32)) (fun m4 => lt (si m4 81 11 (0 : Int32)) (fun m5 => lt (si m5 81 12 (-1 : Int32)) (fun m6 => lp (bX8_text_34 (0 : Int32)) FU ((0 : Int32), m6)))))))
set_option maxRecDepth 100000 in
theorem bsX8_text (l : Launch)  (m : mMem)  : BS l qX8_text [.ref 81] m (fX8_text  m) := BS_of (by decide) (Nat.le_of_ble_eq_true rfl) (fun X _ => by
    show T qX8_text X (fX8_text  m) 0 [(0, .ref 81)] [] m
    unfold fX8_text
    refine T_aload_n 0 rfl rfl dX8_text_0 ?_
    refine T_iconst (0 : Int32) (by decide) dX8_text_1 ?_
    refine pIX8_75 rfl rfl rfl kd_81 dX8_text_2 ?_
    refine T_lt (fun m1 => ?_)
    refine T_aload_n 0 rfl rfl dX8_text_5 ?_
    refine T_iconst (0 : Int32) (by decide) dX8_text_6 ?_
    refine pIX8_87 rfl rfl rfl kd_81 dX8_text_7 ?_
    refine T_lt (fun m2 => ?_)
    refine T_aload_n 0 rfl rfl dX8_text_10 ?_
    refine T_iconst (0 : Int32) (by decide) dX8_text_11 ?_
    refine pIX8_112 rfl rfl rfl kd_81 dX8_text_12 ?_
    refine T_lt (fun m3 => ?_)
    refine T_aload_n 0 rfl rfl dX8_text_15 ?_
    refine T_iconst (0 : Int32) (by decide) dX8_text_16 ?_
    refine pIX8_119 rfl rfl rfl kd_81 dX8_text_17 ?_
    refine T_lt (fun m4 => ?_)
    refine T_aload_n 0 rfl rfl dX8_text_20 ?_
    refine T_iconst (0 : Int32) (by decide) dX8_text_21 ?_
    refine pIX8_131 rfl rfl rfl kd_81 dX8_text_22 ?_
    refine T_lt (fun m5 => ?_)
    refine T_aload_n 0 rfl rfl dX8_text_25 ?_
    refine T_iconst (-1 : Int32) (by decide) dX8_text_26 ?_
    refine pIX8_122 rfl rfl rfl kd_81 dX8_text_27 ?_
    refine T_lt (fun m6 => ?_)
    refine T_iconst (0 : Int32) (by decide) dX8_text_30 ?_
    refine T_istore_n (lv' := [(1, .int (0 : Int32)), (0, .ref 81)]) rfl (Nat.le_of_ble_eq_true rfl) rfl dX8_text_31 ?_
    refine T_iconst (0 : Int32) (by decide) dX8_text_32 ?_
    refine T_istore_n (lv' := [(2, .int (0 : Int32)), (1, .int (0 : Int32)), (0, .ref 81)]) rfl (Nat.le_of_ble_eq_true rfl) rfl dX8_text_33 ?_
    exact T_sub [2, 1, 0] rfl (tX8_text_34 X (0 : Int32)  FU ((0 : Int32), m6)))
theorem lmX8_205 : Cond.methodLink RX8 205 yX8_climbOn ∈ gdL := gd_mem 1137 (by decide +kernel) (by decide +kernel)
theorem lcX8_201 : Cond.constantLong RX8 201 (10) ∈ gdL := gd_mem 1135 (by decide +kernel) (by decide +kernel)
theorem lcX8_203 : Cond.constantLong RX8 203 (19) ∈ gdL := gd_mem 1136 (by decide +kernel) (by decide +kernel)
def jX8_climb_28 (x1 : Int32) (x2 : Int32) (m : mMem) : mR := bI (fX8_climbOn (0 : Int32) x1 m) (fun z5 m4 => if x2 = (0 : Int32) then some (some (.int z5), m4) else if z5 ≤ (x2 - (10 : Int32)) then some (some (.int (-4 : Int32)), m4) else ga (x2 - (10 : Int32)) 10 (some (some (.int (m4.1 92 ((x2 - (10 : Int32))).toNatClampNeg)), m4)))
set_option maxRecDepth 100000 in
theorem uX8_climb_28 (X : mCx) (x1 : Int32) (x2 : Int32) (m : mMem)  : T qX8_climb X (jX8_climb_28 x1 x2 m) 28 [(0, .ref 81), (1, .int x1), (2, .int x2)] [] m := by
  unfold jX8_climb_28
  refine T_aload_n 0 rfl rfl dX8_climb_28 ?_
  refine T_iconst (0 : Int32) (by decide) dX8_climb_29 ?_
  refine T_iload_n 1 rfl rfl dX8_climb_30 ?_
  refine T_cVI (c := 8) [.int (0 : Int32), .int x1] [] mkX8_climbOn lmX8_205 rfl rfl (by decide) (Nat.le_of_ble_eq_true rfl) kd_81 dX8_climb_31 (bsX8_climbOn _ (0 : Int32) x1 m) (fun z5 m4 => ?_)
  refine T_istore_n (lv' := [(3, .int z5), (0, .ref 81), (1, .int x1), (2, .int x2)]) rfl (Nat.le_of_ble_eq_true rfl) rfl dX8_climb_34 ?_
  refine T_iload_n 3 rfl rfl dX8_climb_35 ?_
  refine T_if_ne 43 dX8_climb_36 (by decide) (fun _ => ?_) (fun _ => ?_)
  · refine T_iload_n 0 rfl rfl dX8_climb_39 ?_
    refine T_goto 65 dX8_climb_40 (by decide) ?_
    exact T_iret rfl dX8_climb_65
  · refine T_iload_n 3 rfl rfl dX8_climb_43 ?_
    refine T_bipush (10 : Int32) (by decide) dX8_climb_44 ?_
    refine T_isub dX8_climb_46 ?_
    refine T_iload_n 0 rfl rfl dX8_climb_47 ?_
    refine T_icmp_ge 63 dX8_climb_48 (by decide) (fun _ => ?_) (fun _ => ?_)
    · refine T_bipush (-4 : Int32) (by decide) dX8_climb_63 ?_
      exact T_iret rfl dX8_climb_65
    · refine T_aload_n 1 rfl rfl dX8_climb_51 ?_
      refine gRX8_40 rfl kd_81 92 rfl dX8_climb_52 ?_
      refine T_iload_n 3 rfl rfl dX8_climb_55 ?_
      refine T_bipush (10 : Int32) (by decide) dX8_climb_56 ?_
      refine T_isub dX8_climb_58 ?_
      refine T_iald kd_92 dX8_climb_59 ?_
      refine T_goto 65 dX8_climb_60 (by decide) ?_
      exact T_iret rfl dX8_climb_65
def fX8_climb (x1 : Int32) (x2 : Int32) (m : mMem) : mR := bI (fX8_isLodger x1 m) (fun z2 m1 => if z2 = (0 : Int32) then some (some (.int (-1 : Int32)), m1) else if x2 = (0 : Int32) then jX8_climb_28 x1 x2 m1 else bI (fX8_in (x2).toInt64 (10 : Int64) (19 : Int64) m1) (fun z8 m7 => if z8 = (0 : Int32) then some (some (.int (-1 : Int32)), m7) else jX8_climb_28 x1 x2 m7))
set_option maxRecDepth 100000 in
theorem bsX8_climb (l : Launch) (x1 : Int32) (x2 : Int32) (m : mMem)  : BS l qX8_climb [.ref 81, .int x1, .int x2] m (fX8_climb x1 x2 m) := BS_of (by decide) (Nat.le_of_ble_eq_true rfl) (fun X _ => by
    show T qX8_climb X (fX8_climb x1 x2 m) 0 [(0, .ref 81), (1, .int x1), (2, .int x2)] [] m
    unfold fX8_climb
    refine T_aload_n 0 rfl rfl dX8_climb_0 ?_
    refine T_iload_n 1 rfl rfl dX8_climb_1 ?_
    refine T_cVI (c := 8) [.int x1] [] mkX8_isLodger lmX8_176 rfl rfl (by decide) (Nat.le_of_ble_eq_true rfl) kd_81 dX8_climb_2 (bsX8_isLodger _ x1 m) (fun z2 m1 => ?_)
    refine T_if_eq 26 dX8_climb_5 (by decide) (fun _ => ?_) (fun _ => ?_)
    · refine T_iconst (-1 : Int32) (by decide) dX8_climb_26 ?_
      exact T_iret rfl dX8_climb_27
    · refine T_iload_n 2 rfl rfl dX8_climb_8 ?_
      refine T_if_eq 28 dX8_climb_9 (by decide) (fun _ => ?_) (fun _ => ?_)
      · exact T_sub [0, 1, 2] rfl (uX8_climb_28 X x1 x2 m1 )
      · refine T_iload_n 2 rfl rfl dX8_climb_12 ?_
        refine T_i2l dX8_climb_13 ?_
        refine T_ldc2 lcX8_201 dX8_climb_14 ?_
        refine T_ldc2 lcX8_203 dX8_climb_17 ?_
        refine T_cSI [.long (x2).toInt64, .long (10 : Int64), .long (19 : Int64)] [] mkX8_in lmX8_67 rfl (by decide) (Nat.le_of_ble_eq_true rfl) dX8_climb_20 (bsX8_in _ (x2).toInt64 (10 : Int64) (19 : Int64) m1) (fun z8 m7 => ?_)
        refine T_if_ne 28 dX8_climb_23 (by decide) (fun _ => ?_) (fun _ => ?_)
        · refine T_iconst (-1 : Int32) (by decide) dX8_climb_26 ?_
          exact T_iret rfl dX8_climb_27
        · exact T_sub [0, 1, 2] rfl (uX8_climb_28 X x1 x2 m7 ))
theorem lmX8_208 : Cond.methodLink RX8 208 yX8_wornOver ∈ gdL := gd_mem 1153 (by decide +kernel) (by decide +kernel)
theorem lmX8_211 : Cond.methodLink RX8 211 yX8_hasClimb ∈ gdL := gd_mem 1157 (by decide +kernel) (by decide +kernel)
def bX8_smooth_26 (x1 : Int32) (x2 : Int32) (k26 : Int32 × Int32 × mMem → mR) (s : Int32 × Int32 × mMem) : mR := match s with
  | (x3, x4, m) => if (99 : Int32) < x4 then lt (si m 81 5 (0 : Int32)) (fun m7 => some (some (.int x3), m7)) else if x3 = (-4 : Int32) then bI (fX8_wornOver x4 m) (fun z9 m8 => lt (si m8 81 5 z9) (fun m11 => bI (fX8_hasClimb (0 : Int32) x1 m11) (fun z13 m12 => if z13 = (0 : Int32) then li (x4 + (1 : Int32)) (fun y15 => k26 ((-4 : Int32), y15, m12)) else if x2 = (0 : Int32) then li (x4 + (1 : Int32)) (fun y16 => k26 (x4, y16, m12)) else ga (0 : Int32) 11 (li (m12.1 91 ((0 : Int32)).toNatClampNeg) (fun y17 => li (x4 + (1 : Int32)) (fun y18 => k26 (y17, y18, m12))))))) else lt (si m 81 5 (0 : Int32)) (fun m19 => some (some (.int x3), m19))
set_option maxRecDepth 100000 in
theorem tX8_smooth_26 (X : mCx) (x1 : Int32) (x2 : Int32)  : ∀ (n : Nat) (s : Int32 × Int32 × mMem), T qX8_smooth X (lp (bX8_smooth_26 x1 x2) n s) 26 [(0, .ref 81), (1, .int x1), (2, .int x2), (3, .int s.1), (4, .int s.2.1)] [] s.2.2 :=
  T_lp (body := bX8_smooth_26 x1 x2) (lv := fun s => [(0, .ref 81), (1, .int x1), (2, .int x2), (3, .int s.1), (4, .int s.2.1)]) (st := fun _ => []) (μ := fun s : Int32 × Int32 × mMem => s.2.2) (fun k26 hk26 s => by
    obtain ⟨x3, x4, m⟩ := s
    show T qX8_smooth X (bX8_smooth_26 x1 x2 k26 (x3, x4, m)) 26 [(0, .ref 81), (1, .int x1), (2, .int x2), (3, .int x3), (4, .int x4)] [] m
    unfold bX8_smooth_26
    dsimp only
    refine T_iload 4 rfl dX8_smooth_26 ?_
    refine T_bipush (99 : Int32) (by decide) dX8_smooth_28 ?_
    refine T_icmp_gt 89 dX8_smooth_30 (by decide) (fun _ => ?_) (fun _ => ?_)
    · refine T_aload_n 0 rfl rfl dX8_smooth_89 ?_
      refine T_iconst (0 : Int32) (by decide) dX8_smooth_90 ?_
      refine pIX8_155 rfl rfl rfl kd_81 dX8_smooth_91 ?_
      refine T_lt (fun m7 => ?_)
      refine T_iload_n 3 rfl rfl dX8_smooth_94 ?_
      exact T_iret rfl dX8_smooth_95
    · refine T_iload_n 3 rfl rfl dX8_smooth_33 ?_
      refine T_bipush (-4 : Int32) (by decide) dX8_smooth_34 ?_
      refine T_icmp_ne 89 dX8_smooth_36 (by decide) (fun _ => ?_) (fun _ => ?_)
      · refine T_aload_n 0 rfl rfl dX8_smooth_39 ?_
        refine T_aload_n 0 rfl rfl dX8_smooth_40 ?_
        refine T_iload 4 rfl dX8_smooth_41 ?_
        refine T_cVI (c := 8) [.int x4] [.ref 81] mkX8_wornOver lmX8_208 rfl rfl (by decide) (Nat.le_of_ble_eq_true rfl) kd_81 dX8_smooth_43 (bsX8_wornOver _ x4 m) (fun z9 m8 => ?_)
        refine pIX8_155 rfl rfl rfl kd_81 dX8_smooth_46 ?_
        refine T_lt (fun m11 => ?_)
        refine T_aload_n 0 rfl rfl dX8_smooth_49 ?_
        refine T_iconst (0 : Int32) (by decide) dX8_smooth_50 ?_
        refine T_iload_n 1 rfl rfl dX8_smooth_51 ?_
        refine T_cVI (c := 8) [.int (0 : Int32), .int x1] [] mkX8_hasClimb lmX8_211 rfl rfl (by decide) (Nat.le_of_ble_eq_true rfl) kd_81 dX8_smooth_52 (bsX8_hasClimb _ (0 : Int32) x1 m11) (fun z13 m12 => ?_)
        refine T_istore (lv' := [(5, .int z13), (0, .ref 81), (1, .int x1), (2, .int x2), (3, .int x3), (4, .int x4)]) (Nat.le_of_ble_eq_true rfl) rfl dX8_smooth_55 ?_
        refine T_iload 0 rfl dX8_smooth_57 ?_
        refine T_if_eq 80 dX8_smooth_59 (by decide) (fun _ => ?_) (fun _ => ?_)
        · refine T_bipush (-4 : Int32) (by decide) dX8_smooth_80 ?_
          refine T_istore_n (lv' := [(3, .int (-4 : Int32)), (5, .int z13), (0, .ref 81), (1, .int x1), (2, .int x2), (4, .int x4)]) rfl (Nat.le_of_ble_eq_true rfl) rfl dX8_smooth_82 ?_
          refine T_iinc (lv' := [(4, .int (x4 + (1 : Int32))), (3, .int (-4 : Int32)), (5, .int z13), (0, .ref 81), (1, .int x1), (2, .int x2)]) 5 (1 : Int32) rfl (by decide) (Nat.le_of_ble_eq_true rfl) rfl dX8_smooth_83 ?_
          refine T_li (fun y15 => ?_)
          refine T_goto 26 dX8_smooth_86 (by decide) ?_
          exact T_sub [3, 4, 5, 1, 0] rfl (hk26 ((-4 : Int32), y15, m12))
        · refine T_iload_n 3 rfl rfl dX8_smooth_62 ?_
          refine T_if_ne 71 dX8_smooth_63 (by decide) (fun _ => ?_) (fun _ => ?_)
          · refine T_iload 5 rfl dX8_smooth_66 ?_
            refine T_goto 82 dX8_smooth_68 (by decide) ?_
            refine T_istore_n (lv' := [(3, .int x4), (5, .int z13), (0, .ref 81), (1, .int x1), (2, .int x2), (4, .int x4)]) rfl (Nat.le_of_ble_eq_true rfl) rfl dX8_smooth_82 ?_
            refine T_iinc (lv' := [(4, .int (x4 + (1 : Int32))), (3, .int x4), (5, .int z13), (0, .ref 81), (1, .int x1), (2, .int x2)]) 5 (1 : Int32) rfl (by decide) (Nat.le_of_ble_eq_true rfl) rfl dX8_smooth_83 ?_
            refine T_li (fun y16 => ?_)
            refine T_goto 26 dX8_smooth_86 (by decide) ?_
            exact T_sub [3, 4, 5, 1, 0] rfl (hk26 (x4, y16, m12))
          · refine T_aload_n 1 rfl rfl dX8_smooth_71 ?_
            refine gRX8_37 rfl kd_81 91 rfl dX8_smooth_72 ?_
            refine T_iconst (0 : Int32) (by decide) dX8_smooth_75 ?_
            refine T_iald kd_91 dX8_smooth_76 ?_
            refine T_goto 82 dX8_smooth_77 (by decide) ?_
            refine T_istore_n (lv' := [(3, .int (m12.1 91 ((0 : Int32)).toNatClampNeg)), (5, .int z13), (0, .ref 81), (1, .int x1), (2, .int x2), (4, .int x4)]) rfl (Nat.le_of_ble_eq_true rfl) rfl dX8_smooth_82 ?_
            refine T_li (fun y17 => ?_)
            refine T_iinc (lv' := [(4, .int (x4 + (1 : Int32))), (3, .int y17), (5, .int z13), (0, .ref 81), (1, .int x1), (2, .int x2)]) 5 (1 : Int32) rfl (by decide) (Nat.le_of_ble_eq_true rfl) rfl dX8_smooth_83 ?_
            refine T_li (fun y18 => ?_)
            refine T_goto 26 dX8_smooth_86 (by decide) ?_
            exact T_sub [3, 4, 5, 1, 0] rfl (hk26 (y17, y18, m12))
      · refine T_aload_n 0 rfl rfl dX8_smooth_89 ?_
        refine T_iconst (0 : Int32) (by decide) dX8_smooth_90 ?_
        refine pIX8_155 rfl rfl rfl kd_81 dX8_smooth_91 ?_
        refine T_lt (fun m19 => ?_)
        refine T_iload_n 3 rfl rfl dX8_smooth_94 ?_
        exact T_iret rfl dX8_smooth_95)
def fX8_smooth (x1 : Int32) (x2 : Int32) (m : mMem) : mR := bI (fX8_isLodger x1 m) (fun z2 m1 => if z2 = (0 : Int32) then some (some (.int (-1 : Int32)), m1) else bI (fX8_in (x2).toInt64 (0 : Int64) (1 : Int64) m1) (fun z5 m4 => if z5 = (0 : Int32) then some (some (.int (-1 : Int32)), m4) else lp (bX8_smooth_26 x1 x2) FU ((-4 : Int32), (0 : Int32), m4)))
set_option maxRecDepth 100000 in
theorem bsX8_smooth (l : Launch) (x1 : Int32) (x2 : Int32) (m : mMem)  : BS l qX8_smooth [.ref 81, .int x1, .int x2] m (fX8_smooth x1 x2 m) := BS_of (by decide) (Nat.le_of_ble_eq_true rfl) (fun X _ => by
    show T qX8_smooth X (fX8_smooth x1 x2 m) 0 [(0, .ref 81), (1, .int x1), (2, .int x2)] [] m
    unfold fX8_smooth
    refine T_aload_n 0 rfl rfl dX8_smooth_0 ?_
    refine T_iload_n 1 rfl rfl dX8_smooth_1 ?_
    refine T_cVI (c := 8) [.int x1] [] mkX8_isLodger lmX8_176 rfl rfl (by decide) (Nat.le_of_ble_eq_true rfl) kd_81 dX8_smooth_2 (bsX8_isLodger _ x1 m) (fun z2 m1 => ?_)
    refine T_if_eq 18 dX8_smooth_5 (by decide) (fun _ => ?_) (fun _ => ?_)
    · refine T_iconst (-1 : Int32) (by decide) dX8_smooth_18 ?_
      exact T_iret rfl dX8_smooth_19
    · refine T_iload_n 2 rfl rfl dX8_smooth_8 ?_
      refine T_i2l dX8_smooth_9 ?_
      refine T_lconst (0 : Int64) (by decide) dX8_smooth_10 ?_
      refine T_lconst (1 : Int64) (by decide) dX8_smooth_11 ?_
      refine T_cSI [.long (x2).toInt64, .long (0 : Int64), .long (1 : Int64)] [] mkX8_in lmX8_67 rfl (by decide) (Nat.le_of_ble_eq_true rfl) dX8_smooth_12 (bsX8_in _ (x2).toInt64 (0 : Int64) (1 : Int64) m1) (fun z5 m4 => ?_)
      refine T_if_ne 20 dX8_smooth_15 (by decide) (fun _ => ?_) (fun _ => ?_)
      · refine T_iconst (-1 : Int32) (by decide) dX8_smooth_18 ?_
        exact T_iret rfl dX8_smooth_19
      · refine T_bipush (-4 : Int32) (by decide) dX8_smooth_20 ?_
        refine T_istore_n (lv' := [(3, .int (-4 : Int32)), (0, .ref 81), (1, .int x1), (2, .int x2)]) rfl (Nat.le_of_ble_eq_true rfl) rfl dX8_smooth_22 ?_
        refine T_iconst (0 : Int32) (by decide) dX8_smooth_23 ?_
        refine T_istore (lv' := [(4, .int (0 : Int32)), (3, .int (-4 : Int32)), (0, .ref 81), (1, .int x1), (2, .int x2)]) (Nat.le_of_ble_eq_true rfl) rfl dX8_smooth_24 ?_
        exact T_sub [2, 3, 4, 1, 0] rfl (tX8_smooth_26 X x1 x2  FU ((-4 : Int32), (0 : Int32), m4)))
def bX8_homesOn_4 (x1 : Int32) (k4 : Int32 × Int32 × mMem → mR) (s : Int32 × Int32 × mMem) : mR := match s with
  | (x2, x3, m) => if (m.1 81 4) ≤ x3 then some (some (.int x2), m) else bI (fX8_hasClimb x1 x3 m) (fun z2 m1 => if z2 = (0 : Int32) then li (x2 ||| (0 : Int32)) (fun y4 => li (x3 + (1 : Int32)) (fun y5 => k4 (y4, y5, m1))) else li (x2 ||| ((1 : Int32) <<< (x3 &&& 31))) (fun y6 => li (x3 + (1 : Int32)) (fun y7 => k4 (y6, y7, m1))))
set_option maxRecDepth 100000 in
theorem tX8_homesOn_4 (X : mCx) (x1 : Int32)  : ∀ (n : Nat) (s : Int32 × Int32 × mMem), T qX8_homesOn X (lp (bX8_homesOn_4 x1) n s) 4 [(0, .ref 81), (1, .int x1), (2, .int s.1), (3, .int s.2.1)] [] s.2.2 :=
  T_lp (body := bX8_homesOn_4 x1) (lv := fun s => [(0, .ref 81), (1, .int x1), (2, .int s.1), (3, .int s.2.1)]) (st := fun _ => []) (μ := fun s : Int32 × Int32 × mMem => s.2.2) (fun k4 hk4 s => by
    obtain ⟨x2, x3, m⟩ := s
    show T qX8_homesOn X (bX8_homesOn_4 x1 k4 (x2, x3, m)) 4 [(0, .ref 81), (1, .int x1), (2, .int x2), (3, .int x3)] [] m
    unfold bX8_homesOn_4
    dsimp only
    refine T_iload_n 3 rfl rfl dX8_homesOn_4 ?_
    refine T_aload_n 0 rfl rfl dX8_homesOn_5 ?_
    refine gIX8_146 rfl kd_81 dX8_homesOn_6 ?_
    refine T_icmp_ge 37 dX8_homesOn_9 (by decide) (fun _ => ?_) (fun _ => ?_)
    · refine T_iload_n 2 rfl rfl dX8_homesOn_37 ?_
      exact T_iret rfl dX8_homesOn_38
    · refine T_iload_n 2 rfl rfl dX8_homesOn_12 ?_
      refine T_aload_n 0 rfl rfl dX8_homesOn_13 ?_
      refine T_iload_n 1 rfl rfl dX8_homesOn_14 ?_
      refine T_iload_n 3 rfl rfl dX8_homesOn_15 ?_
      refine T_cVI (c := 8) [.int x1, .int x3] [.int x2] mkX8_hasClimb lmX8_211 rfl rfl (by decide) (Nat.le_of_ble_eq_true rfl) kd_81 dX8_homesOn_16 (bsX8_hasClimb _ x1 x3 m) (fun z2 m1 => ?_)
      refine T_if_eq 28 dX8_homesOn_19 (by decide) (fun _ => ?_) (fun _ => ?_)
      · refine T_iconst (0 : Int32) (by decide) dX8_homesOn_28 ?_
        refine T_ior dX8_homesOn_29 ?_
        refine T_istore_n (lv' := [(2, .int (x2 ||| (0 : Int32))), (0, .ref 81), (1, .int x1), (3, .int x3)]) rfl (Nat.le_of_ble_eq_true rfl) rfl dX8_homesOn_30 ?_
        refine T_li (fun y4 => ?_)
        refine T_iinc (lv' := [(3, .int (x3 + (1 : Int32))), (2, .int y4), (0, .ref 81), (1, .int x1)]) 3 (1 : Int32) rfl (by decide) (Nat.le_of_ble_eq_true rfl) rfl dX8_homesOn_31 ?_
        refine T_li (fun y5 => ?_)
        refine T_goto 4 dX8_homesOn_34 (by decide) ?_
        exact T_sub [2, 3, 1, 0] rfl (hk4 (y4, y5, m1))
      · refine T_iconst (1 : Int32) (by decide) dX8_homesOn_22 ?_
        refine T_iload_n 3 rfl rfl dX8_homesOn_23 ?_
        refine T_ishl dX8_homesOn_24 ?_
        refine T_goto 29 dX8_homesOn_25 (by decide) ?_
        refine T_ior dX8_homesOn_29 ?_
        refine T_istore_n (lv' := [(2, .int (x2 ||| ((1 : Int32) <<< (x3 &&& 31)))), (0, .ref 81), (1, .int x1), (3, .int x3)]) rfl (Nat.le_of_ble_eq_true rfl) rfl dX8_homesOn_30 ?_
        refine T_li (fun y6 => ?_)
        refine T_iinc (lv' := [(3, .int (x3 + (1 : Int32))), (2, .int y6), (0, .ref 81), (1, .int x1)]) 3 (1 : Int32) rfl (by decide) (Nat.le_of_ble_eq_true rfl) rfl dX8_homesOn_31 ?_
        refine T_li (fun y7 => ?_)
        refine T_goto 4 dX8_homesOn_34 (by decide) ?_
        exact T_sub [2, 3, 1, 0] rfl (hk4 (y6, y7, m1)))
def fX8_homesOn (x1 : Int32) (m : mMem) : mR := lp (bX8_homesOn_4 x1) FU ((0 : Int32), (0 : Int32), m)
set_option maxRecDepth 100000 in
theorem bsX8_homesOn (l : Launch) (x1 : Int32) (m : mMem)  : BS l qX8_homesOn [.ref 81, .int x1] m (fX8_homesOn x1 m) := BS_of (by decide) (Nat.le_of_ble_eq_true rfl) (fun X _ => by
    show T qX8_homesOn X (fX8_homesOn x1 m) 0 [(0, .ref 81), (1, .int x1)] [] m
    unfold fX8_homesOn
    refine T_iconst (0 : Int32) (by decide) dX8_homesOn_0 ?_
    refine T_istore_n (lv' := [(2, .int (0 : Int32)), (0, .ref 81), (1, .int x1)]) rfl (Nat.le_of_ble_eq_true rfl) rfl dX8_homesOn_1 ?_
    refine T_iconst (0 : Int32) (by decide) dX8_homesOn_2 ?_
    refine T_istore_n (lv' := [(3, .int (0 : Int32)), (2, .int (0 : Int32)), (0, .ref 81), (1, .int x1)]) rfl (Nat.le_of_ble_eq_true rfl) rfl dX8_homesOn_3 ?_
    exact T_sub [2, 3, 1, 0] rfl (tX8_homesOn_4 X x1  FU ((0 : Int32), (0 : Int32), m)))
def jX8_goes_74 (k10 : Int32 × mMem → mR) (x1 : Int32) (x2 : Int32) (x3 : Int32) (x4 : Int32) (x5 : Int32) (xs0 : Int32) (m : mMem) : mR := ga x5 210 (if ((m.1 82 (x5).toNatClampNeg) + xs0) ≤ (99 : Int32) then ga x5 210 (ga x5 210 (lt (si m 82 (x5).toNatClampNeg ((m.1 82 (x5).toNatClampNeg) + xs0)) (fun m6 => li (x4 + (1 : Int32)) (fun y7 => k10 (y7, m6))))) else ga x5 210 (lt (si m 82 (x5).toNatClampNeg (99 : Int32)) (fun m8 => li (x4 + (1 : Int32)) (fun y9 => k10 (y9, m8)))))
set_option maxRecDepth 100000 in
theorem uX8_goes_74 (X : mCx) (k10 : Int32 × mMem → mR) (x1 : Int32) (x2 : Int32) (x3 : Int32) (x4 : Int32) (x5 : Int32) (xs0 : Int32) (m : mMem) (hk10 : ∀ s : Int32 × mMem, T qX8_goes X (k10 s) 10 [(0, .ref 81), (1, .int x1), (2, .int x2), (3, .int x3), (4, .int s.1)] [] s.2) : T qX8_goes X (jX8_goes_74 k10 x1 x2 x3 x4 x5 xs0 m) 74 [(0, .ref 81), (1, .int x1), (2, .int x2), (3, .int x3), (4, .int x4), (5, .int x5)] [.int xs0] m := by
  unfold jX8_goes_74
  refine T_istore (lv' := [(7, .int xs0), (0, .ref 81), (1, .int x1), (2, .int x2), (3, .int x3), (4, .int x4), (5, .int x5)]) (Nat.le_of_ble_eq_true rfl) rfl dX8_goes_74 ?_
  refine T_aload_n 1 rfl rfl dX8_goes_76 ?_
  refine gRX8_7 rfl kd_81 82 rfl dX8_goes_77 ?_
  refine T_iload 6 rfl dX8_goes_80 ?_
  refine T_aload_n 1 rfl rfl dX8_goes_82 ?_
  refine gRX8_7 rfl kd_81 82 rfl dX8_goes_83 ?_
  refine T_iload 6 rfl dX8_goes_86 ?_
  refine T_iald kd_82 dX8_goes_88 ?_
  refine T_iload 0 rfl dX8_goes_89 ?_
  refine T_iadd dX8_goes_91 ?_
  refine T_bipush (99 : Int32) (by decide) dX8_goes_92 ?_
  refine T_icmp_le 102 dX8_goes_94 (by decide) (fun _ => ?_) (fun _ => ?_)
  · refine T_aload_n 1 rfl rfl dX8_goes_102 ?_
    refine gRX8_7 rfl kd_81 82 rfl dX8_goes_103 ?_
    refine T_iload 6 rfl dX8_goes_106 ?_
    refine T_iald kd_82 dX8_goes_108 ?_
    refine T_iload 0 rfl dX8_goes_109 ?_
    refine T_iadd dX8_goes_111 ?_
    refine T_iast _ rfl kd_82 dX8_goes_112 ?_
    refine T_lt (fun m6 => ?_)
    refine T_iinc (lv' := [(4, .int (x4 + (1 : Int32))), (7, .int xs0), (0, .ref 81), (1, .int x1), (2, .int x2), (3, .int x3), (5, .int x5)]) 5 (1 : Int32) rfl (by decide) (Nat.le_of_ble_eq_true rfl) rfl dX8_goes_113 ?_
    refine T_li (fun y7 => ?_)
    refine T_goto 10 dX8_goes_116 (by decide) ?_
    exact T_sub [2, 3, 4, 5, 0] rfl (hk10 (y7, m6))
  · refine T_bipush (99 : Int32) (by decide) dX8_goes_97 ?_
    refine T_goto 112 dX8_goes_99 (by decide) ?_
    refine T_iast _ rfl kd_82 dX8_goes_112 ?_
    refine T_lt (fun m8 => ?_)
    refine T_iinc (lv' := [(4, .int (x4 + (1 : Int32))), (7, .int xs0), (0, .ref 81), (1, .int x1), (2, .int x2), (3, .int x3), (5, .int x5)]) 5 (1 : Int32) rfl (by decide) (Nat.le_of_ble_eq_true rfl) rfl dX8_goes_113 ?_
    refine T_li (fun y9 => ?_)
    refine T_goto 10 dX8_goes_116 (by decide) ?_
    exact T_sub [2, 3, 4, 5, 0] rfl (hk10 (y9, m8))
def jX8_goes_73 (k10 : Int32 × mMem → mR) (x1 : Int32) (x2 : Int32) (x3 : Int32) (x4 : Int32) (x5 : Int32) (xs0 : Int32) (xs1 : Int32) (m : mMem) : mR := jX8_goes_74 k10 x1 x2 x3 x4 x5 (xs1 + xs0) m
set_option maxRecDepth 100000 in
theorem uX8_goes_73 (X : mCx) (k10 : Int32 × mMem → mR) (x1 : Int32) (x2 : Int32) (x3 : Int32) (x4 : Int32) (x5 : Int32) (xs0 : Int32) (xs1 : Int32) (m : mMem) (hk10 : ∀ s : Int32 × mMem, T qX8_goes X (k10 s) 10 [(0, .ref 81), (1, .int x1), (2, .int x2), (3, .int x3), (4, .int s.1)] [] s.2) : T qX8_goes X (jX8_goes_73 k10 x1 x2 x3 x4 x5 xs0 xs1 m) 73 [(0, .ref 81), (1, .int x1), (2, .int x2), (3, .int x3), (4, .int x4), (5, .int x5)] [.int xs0, .int xs1] m := by
  unfold jX8_goes_73
  refine T_iadd dX8_goes_73 ?_
  exact T_sub [0, 1, 2, 3, 4, 5] rfl (uX8_goes_74 X k10 x1 x2 x3 x4 x5 (xs1 + xs0) m hk10)
def bX8_goes_10 (x1 : Int32) (x2 : Int32) (x3 : Int32) (k10 : Int32 × mMem → mR) (s : Int32 × mMem) : mR := match s with
  | (x4, m) => if x3 ≤ x4 then if x3 = (-4 : Int32) then some (some (.int (0 : Int32)), m) else some (some (.int (1 : Int32)), m) else ga x4 10 (li ((x1 + ((2 : Int32) * (m.1 92 (x4).toNatClampNeg))) + (1 : Int32)) (fun y4 => ga x4 10 (ga (m.1 92 (x4).toNatClampNeg) 10 (li (m.1 83 ((m.1 92 (x4).toNatClampNeg)).toNatClampNeg) (fun y5 => if y5 = (3 : Int32) then jX8_goes_74 k10 x1 x2 x3 x4 y4 (0 : Int32) m else bI (fX8_isLoaded x1 x2 m) (fun z11 m10 => if z11 = (0 : Int32) then jX8_goes_73 k10 x1 x2 x3 x4 y4 (0 : Int32) ((2 : Int32) - y5) m10 else jX8_goes_73 k10 x1 x2 x3 x4 y4 (1 : Int32) ((2 : Int32) - y5) m10))))))
set_option maxRecDepth 100000 in
theorem tX8_goes_10 (X : mCx) (x1 : Int32) (x2 : Int32) (x3 : Int32)  : ∀ (n : Nat) (s : Int32 × mMem), T qX8_goes X (lp (bX8_goes_10 x1 x2 x3) n s) 10 [(0, .ref 81), (1, .int x1), (2, .int x2), (3, .int x3), (4, .int s.1)] [] s.2 :=
  T_lp (body := bX8_goes_10 x1 x2 x3) (lv := fun s => [(0, .ref 81), (1, .int x1), (2, .int x2), (3, .int x3), (4, .int s.1)]) (st := fun _ => []) (μ := fun s : Int32 × mMem => s.2) (fun k10 hk10 s => by
    obtain ⟨x4, m⟩ := s
    show T qX8_goes X (bX8_goes_10 x1 x2 x3 k10 (x4, m)) 10 [(0, .ref 81), (1, .int x1), (2, .int x2), (3, .int x3), (4, .int x4)] [] m
    unfold bX8_goes_10
    dsimp only
    refine T_iload 4 rfl dX8_goes_10 ?_
    refine T_iload_n 3 rfl rfl dX8_goes_12 ?_
    refine T_icmp_ge 119 dX8_goes_13 (by decide) (fun _ => ?_) (fun _ => ?_)
    · refine T_iload_n 3 rfl rfl dX8_goes_119 ?_
      refine T_bipush (-4 : Int32) (by decide) dX8_goes_120 ?_
      refine T_icmp_eq 129 dX8_goes_122 (by decide) (fun _ => ?_) (fun _ => ?_)
      · refine T_iconst (0 : Int32) (by decide) dX8_goes_129 ?_
        exact T_zretc (by decide) rfl dX8_goes_130
      · refine T_iconst (1 : Int32) (by decide) dX8_goes_125 ?_
        refine T_goto 130 dX8_goes_126 (by decide) ?_
        exact T_zretc (by decide) rfl dX8_goes_130
    · refine T_iload_n 1 rfl rfl dX8_goes_16 ?_
      refine T_iconst (2 : Int32) (by decide) dX8_goes_17 ?_
      refine T_aload_n 0 rfl rfl dX8_goes_18 ?_
      refine gRX8_40 rfl kd_81 92 rfl dX8_goes_19 ?_
      refine T_iload 4 rfl dX8_goes_22 ?_
      refine T_iald kd_92 dX8_goes_24 ?_
      refine T_imul dX8_goes_25 ?_
      refine T_iadd dX8_goes_26 ?_
      refine T_iconst (1 : Int32) (by decide) dX8_goes_27 ?_
      refine T_iadd dX8_goes_28 ?_
      refine T_istore (lv' := [(5, .int ((x1 + ((2 : Int32) * (m.1 92 (x4).toNatClampNeg))) + (1 : Int32))), (0, .ref 81), (1, .int x1), (2, .int x2), (3, .int x3), (4, .int x4)]) (Nat.le_of_ble_eq_true rfl) rfl dX8_goes_29 ?_
      refine T_li (fun y4 => ?_)
      refine T_aload_n 1 rfl rfl dX8_goes_31 ?_
      refine gRX8_13 rfl kd_81 83 rfl dX8_goes_32 ?_
      refine T_aload_n 1 rfl rfl dX8_goes_35 ?_
      refine gRX8_40 rfl kd_81 92 rfl dX8_goes_36 ?_
      refine T_iload 5 rfl dX8_goes_39 ?_
      refine T_iald kd_92 dX8_goes_41 ?_
      refine T_iald kd_83 dX8_goes_42 ?_
      refine T_istore (lv' := [(6, .int (m.1 83 ((m.1 92 (x4).toNatClampNeg)).toNatClampNeg)), (5, .int y4), (0, .ref 81), (1, .int x1), (2, .int x2), (3, .int x3), (4, .int x4)]) (Nat.le_of_ble_eq_true rfl) rfl dX8_goes_43 ?_
      refine T_li (fun y5 => ?_)
      refine T_iload 0 rfl dX8_goes_45 ?_
      refine T_iconst (3 : Int32) (by decide) dX8_goes_47 ?_
      refine T_icmp_ne 55 dX8_goes_48 (by decide) (fun _ => ?_) (fun _ => ?_)
      · refine T_iconst (0 : Int32) (by decide) dX8_goes_51 ?_
        refine T_goto 74 dX8_goes_52 (by decide) ?_
        exact T_sub [2, 3, 4, 5, 6, 1] rfl (uX8_goes_74 X k10 x1 x2 x3 x4 y4 (0 : Int32) m hk10)
      · refine T_iconst (2 : Int32) (by decide) dX8_goes_55 ?_
        refine T_iload 0 rfl dX8_goes_56 ?_
        refine T_isub dX8_goes_58 ?_
        refine T_aload_n 2 rfl rfl dX8_goes_59 ?_
        refine T_iload_n 3 rfl rfl dX8_goes_60 ?_
        refine T_iload_n 4 rfl rfl dX8_goes_61 ?_
        refine T_cVI (c := 8) [.int x1, .int x2] [.int ((2 : Int32) - y5)] mkX8_isLoaded lmX8_165 rfl rfl (by decide) (Nat.le_of_ble_eq_true rfl) kd_81 dX8_goes_62 (bsX8_isLoaded _ x1 x2 m) (fun z11 m10 => ?_)
        refine T_if_eq 72 dX8_goes_65 (by decide) (fun _ => ?_) (fun _ => ?_)
        · refine T_iconst (0 : Int32) (by decide) dX8_goes_72 ?_
          exact T_sub [2, 3, 4, 5, 6, 1] rfl (uX8_goes_73 X k10 x1 x2 x3 x4 y4 (0 : Int32) ((2 : Int32) - y5) m10 hk10)
        · refine T_iconst (1 : Int32) (by decide) dX8_goes_68 ?_
          refine T_goto 73 dX8_goes_69 (by decide) ?_
          exact T_sub [2, 3, 4, 5, 6, 1] rfl (uX8_goes_73 X k10 x1 x2 x3 x4 y4 (1 : Int32) ((2 : Int32) - y5) m10 hk10))
def fX8_goes (x1 : Int32) (x2 : Int32) (m : mMem) : mR := bI (fX8_climbOn x1 x2 m) (fun z2 m1 => lp (bX8_goes_10 x1 x2 z2) FU ((0 : Int32), m1))
set_option maxRecDepth 100000 in
theorem bsX8_goes (l : Launch) (x1 : Int32) (x2 : Int32) (m : mMem)  : BS l qX8_goes [.ref 81, .int x1, .int x2] m (fX8_goes x1 x2 m) := BS_of (by decide) (Nat.le_of_ble_eq_true rfl) (fun X _ => by
    show T qX8_goes X (fX8_goes x1 x2 m) 0 [(0, .ref 81), (1, .int x1), (2, .int x2)] [] m
    unfold fX8_goes
    refine T_aload_n 0 rfl rfl dX8_goes_0 ?_
    refine T_iload_n 1 rfl rfl dX8_goes_1 ?_
    refine T_iload_n 2 rfl rfl dX8_goes_2 ?_
    refine T_cVI (c := 8) [.int x1, .int x2] [] mkX8_climbOn lmX8_205 rfl rfl (by decide) (Nat.le_of_ble_eq_true rfl) kd_81 dX8_goes_3 (bsX8_climbOn _ x1 x2 m) (fun z2 m1 => ?_)
    refine T_istore_n (lv' := [(3, .int z2), (0, .ref 81), (1, .int x1), (2, .int x2)]) rfl (Nat.le_of_ble_eq_true rfl) rfl dX8_goes_6 ?_
    refine T_iconst (0 : Int32) (by decide) dX8_goes_7 ?_
    refine T_istore (lv' := [(4, .int (0 : Int32)), (3, .int z2), (0, .ref 81), (1, .int x1), (2, .int x2)]) (Nat.le_of_ble_eq_true rfl) rfl dX8_goes_8 ?_
    exact T_sub [2, 3, 4, 1, 0] rfl (tX8_goes_10 X x1 x2 z2  FU ((0 : Int32), m1)))
def bX8_gap_20 (x1 : Int32) (k20 : Int32 × mMem → mR) (s : Int32 × mMem) : mR := match s with
  | (x2, m) => if (4 : Int32) ≤ x2 then some (some (.int (-4 : Int32)), m) else ga (207 : Int32) 210 (lt (si m 82 ((207 : Int32)).toNatClampNeg (x2 - (1 : Int32))) (fun m5 => bI (fX8_hasClimb (175 : Int32) x1 m5) (fun z7 m6 => if z7 = (0 : Int32) then li (x2 + (1 : Int32)) (fun y9 => k20 (y9, m6)) else some (some (.int x2), m6))))
set_option maxRecDepth 100000 in
theorem tX8_gap_20 (X : mCx) (x1 : Int32)  : ∀ (n : Nat) (s : Int32 × mMem), T qX8_gap X (lp (bX8_gap_20 x1) n s) 20 [(0, .ref 81), (1, .int x1), (2, .int s.1)] [] s.2 :=
  T_lp (body := bX8_gap_20 x1) (lv := fun s => [(0, .ref 81), (1, .int x1), (2, .int s.1)]) (st := fun _ => []) (μ := fun s : Int32 × mMem => s.2) (fun k20 hk20 s => by
    obtain ⟨x2, m⟩ := s
    show T qX8_gap X (bX8_gap_20 x1 k20 (x2, m)) 20 [(0, .ref 81), (1, .int x1), (2, .int x2)] [] m
    unfold bX8_gap_20
    dsimp only
    refine T_iload_n 2 rfl rfl dX8_gap_20 ?_
    refine T_iconst (4 : Int32) (by decide) dX8_gap_21 ?_
    refine T_icmp_ge 55 dX8_gap_22 (by decide) (fun _ => ?_) (fun _ => ?_)
    · refine T_bipush (-4 : Int32) (by decide) dX8_gap_55 ?_
      exact T_iret rfl dX8_gap_57
    · refine T_aload_n 0 rfl rfl dX8_gap_25 ?_
      refine gRX8_7 rfl kd_81 82 rfl dX8_gap_26 ?_
      refine T_sipush (207 : Int32) (by decide) dX8_gap_29 ?_
      refine T_iload_n 2 rfl rfl dX8_gap_32 ?_
      refine T_iconst (1 : Int32) (by decide) dX8_gap_33 ?_
      refine T_isub dX8_gap_34 ?_
      refine T_iast _ rfl kd_82 dX8_gap_35 ?_
      refine T_lt (fun m5 => ?_)
      refine T_aload_n 0 rfl rfl dX8_gap_36 ?_
      refine T_sipush (175 : Int32) (by decide) dX8_gap_37 ?_
      refine T_iload_n 1 rfl rfl dX8_gap_40 ?_
      refine T_cVI (c := 8) [.int (175 : Int32), .int x1] [] mkX8_hasClimb lmX8_211 rfl rfl (by decide) (Nat.le_of_ble_eq_true rfl) kd_81 dX8_gap_41 (bsX8_hasClimb _ (175 : Int32) x1 m5) (fun z7 m6 => ?_)
      refine T_if_eq 49 dX8_gap_44 (by decide) (fun _ => ?_) (fun _ => ?_)
      · refine T_iinc (lv' := [(2, .int (x2 + (1 : Int32))), (0, .ref 81), (1, .int x1)]) 2 (1 : Int32) rfl (by decide) (Nat.le_of_ble_eq_true rfl) rfl dX8_gap_49 ?_
        refine T_li (fun y9 => ?_)
        refine T_goto 20 dX8_gap_52 (by decide) ?_
        exact T_sub [1, 2, 0] rfl (hk20 (y9, m6))
      · refine T_iload_n 2 rfl rfl dX8_gap_47 ?_
        exact T_iret rfl dX8_gap_48)
def fX8_gap (x1 : Int32) (m : mMem) : mR := bI (fX8_isLodger x1 m) (fun z2 m1 => if z2 = (0 : Int32) then some (some (.int (-1 : Int32)), m1) else bV (fX8_copies (0 : Int32) (175 : Int32) m1) (fun m4 => lp (bX8_gap_20 x1) FU ((0 : Int32), m4)))
set_option maxRecDepth 100000 in
theorem bsX8_gap (l : Launch) (x1 : Int32) (m : mMem)  : BS l qX8_gap [.ref 81, .int x1] m (fX8_gap x1 m) := BS_of (by decide) (Nat.le_of_ble_eq_true rfl) (fun X _ => by
    show T qX8_gap X (fX8_gap x1 m) 0 [(0, .ref 81), (1, .int x1)] [] m
    unfold fX8_gap
    refine T_aload_n 0 rfl rfl dX8_gap_0 ?_
    refine T_iload_n 1 rfl rfl dX8_gap_1 ?_
    refine T_cVI (c := 8) [.int x1] [] mkX8_isLodger lmX8_176 rfl rfl (by decide) (Nat.le_of_ble_eq_true rfl) kd_81 dX8_gap_2 (bsX8_isLodger _ x1 m) (fun z2 m1 => ?_)
    refine T_if_ne 10 dX8_gap_5 (by decide) (fun _ => ?_) (fun _ => ?_)
    · refine T_iconst (-1 : Int32) (by decide) dX8_gap_8 ?_
      exact T_iret rfl dX8_gap_9
    · refine T_aload_n 0 rfl rfl dX8_gap_10 ?_
      refine T_iconst (0 : Int32) (by decide) dX8_gap_11 ?_
      refine T_sipush (175 : Int32) (by decide) dX8_gap_12 ?_
      refine T_cVV (c := 8) [.int (0 : Int32), .int (175 : Int32)] [] mkX8_copies lmX8_223 rfl rfl (by decide) (Nat.le_of_ble_eq_true rfl) kd_81 dX8_gap_15 (bsX8_copies _ (0 : Int32) (175 : Int32) m1) (fun m4 => ?_)
      refine T_iconst (0 : Int32) (by decide) dX8_gap_18 ?_
      refine T_istore_n (lv' := [(2, .int (0 : Int32)), (0, .ref 81), (1, .int x1)]) rfl (Nat.le_of_ble_eq_true rfl) rfl dX8_gap_19 ?_
      exact T_sub [1, 2, 0] rfl (tX8_gap_20 X x1  FU ((0 : Int32), m4)))
def bX8_legs_23 (x1 : Int32) (x2 : Int32) (k23 : Int32 × Int32 × mMem → mR) (s : Int32 × Int32 × mMem) : mR := match s with
  | (x3, x4, m) => if x4 ≤ (0 : Int32) then ga x1 4 (lt (si m 84 (x1).toNatClampNeg x2) (fun m5 => some (some (.int x3), m5))) else ga x1 4 (lt (si m 84 (x1).toNatClampNeg x4) (fun m6 => bI (fX8_hasClimb (0 : Int32) x1 m6) (fun z8 m7 => if z8 = (0 : Int32) then li (x4 + (-1 : Int32)) (fun y10 => k23 (x3, y10, m7)) else li (x4 + (-1 : Int32)) (fun y11 => k23 (x4, y11, m7)))))
set_option maxRecDepth 100000 in
theorem tX8_legs_23 (X : mCx) (x1 : Int32) (x2 : Int32)  : ∀ (n : Nat) (s : Int32 × Int32 × mMem), T qX8_legs X (lp (bX8_legs_23 x1 x2) n s) 23 [(0, .ref 81), (1, .int x1), (2, .int x2), (3, .int s.1), (4, .int s.2.1)] [] s.2.2 :=
  T_lp (body := bX8_legs_23 x1 x2) (lv := fun s => [(0, .ref 81), (1, .int x1), (2, .int x2), (3, .int s.1), (4, .int s.2.1)]) (st := fun _ => []) (μ := fun s : Int32 × Int32 × mMem => s.2.2) (fun k23 hk23 s => by
    obtain ⟨x3, x4, m⟩ := s
    show T qX8_legs X (bX8_legs_23 x1 x2 k23 (x3, x4, m)) 23 [(0, .ref 81), (1, .int x1), (2, .int x2), (3, .int x3), (4, .int x4)] [] m
    unfold bX8_legs_23
    dsimp only
    refine T_iload 4 rfl dX8_legs_23 ?_
    refine T_if_le 58 dX8_legs_25 (by decide) (fun _ => ?_) (fun _ => ?_)
    · refine T_aload_n 0 rfl rfl dX8_legs_58 ?_
      refine gRX8_16 rfl kd_81 84 rfl dX8_legs_59 ?_
      refine T_iload_n 1 rfl rfl dX8_legs_62 ?_
      refine T_iload_n 2 rfl rfl dX8_legs_63 ?_
      refine T_iast _ rfl kd_84 dX8_legs_64 ?_
      refine T_lt (fun m5 => ?_)
      refine T_iload_n 3 rfl rfl dX8_legs_65 ?_
      exact T_iret rfl dX8_legs_66
    · refine T_aload_n 0 rfl rfl dX8_legs_28 ?_
      refine gRX8_16 rfl kd_81 84 rfl dX8_legs_29 ?_
      refine T_iload_n 1 rfl rfl dX8_legs_32 ?_
      refine T_iload 4 rfl dX8_legs_33 ?_
      refine T_iast _ rfl kd_84 dX8_legs_35 ?_
      refine T_lt (fun m6 => ?_)
      refine T_aload_n 0 rfl rfl dX8_legs_36 ?_
      refine T_iconst (0 : Int32) (by decide) dX8_legs_37 ?_
      refine T_iload_n 1 rfl rfl dX8_legs_38 ?_
      refine T_cVI (c := 8) [.int (0 : Int32), .int x1] [] mkX8_hasClimb lmX8_211 rfl rfl (by decide) (Nat.le_of_ble_eq_true rfl) kd_81 dX8_legs_39 (bsX8_hasClimb _ (0 : Int32) x1 m6) (fun z8 m7 => ?_)
      refine T_if_eq 50 dX8_legs_42 (by decide) (fun _ => ?_) (fun _ => ?_)
      · refine T_iload_n 3 rfl rfl dX8_legs_50 ?_
        refine T_istore_n (lv' := [(3, .int x3), (0, .ref 81), (1, .int x1), (2, .int x2), (4, .int x4)]) rfl (Nat.le_of_ble_eq_true rfl) rfl dX8_legs_51 ?_
        refine T_iinc (lv' := [(4, .int (x4 + (-1 : Int32))), (3, .int x3), (0, .ref 81), (1, .int x1), (2, .int x2)]) 4 (-1 : Int32) rfl (by decide) (Nat.le_of_ble_eq_true rfl) rfl dX8_legs_52 ?_
        refine T_li (fun y10 => ?_)
        refine T_goto 23 dX8_legs_55 (by decide) ?_
        exact T_sub [2, 3, 4, 1, 0] rfl (hk23 (x3, y10, m7))
      · refine T_iload 4 rfl dX8_legs_45 ?_
        refine T_goto 51 dX8_legs_47 (by decide) ?_
        refine T_istore_n (lv' := [(3, .int x4), (0, .ref 81), (1, .int x1), (2, .int x2), (4, .int x4)]) rfl (Nat.le_of_ble_eq_true rfl) rfl dX8_legs_51 ?_
        refine T_iinc (lv' := [(4, .int (x4 + (-1 : Int32))), (3, .int x4), (0, .ref 81), (1, .int x1), (2, .int x2)]) 4 (-1 : Int32) rfl (by decide) (Nat.le_of_ble_eq_true rfl) rfl dX8_legs_52 ?_
        refine T_li (fun y11 => ?_)
        refine T_goto 23 dX8_legs_55 (by decide) ?_
        exact T_sub [2, 3, 4, 1, 0] rfl (hk23 (x4, y11, m7)))
def fX8_legs (x1 : Int32) (m : mMem) : mR := bI (fX8_isLodger x1 m) (fun z2 m1 => if z2 = (0 : Int32) then some (some (.int (-1 : Int32)), m1) else ga x1 4 (li (m1.1 84 (x1).toNatClampNeg) (fun y4 => lp (bX8_legs_23 x1 y4) FU ((-4 : Int32), (4 : Int32), m1))))
set_option maxRecDepth 100000 in
theorem bsX8_legs (l : Launch) (x1 : Int32) (m : mMem)  : BS l qX8_legs [.ref 81, .int x1] m (fX8_legs x1 m) := BS_of (by decide) (Nat.le_of_ble_eq_true rfl) (fun X _ => by
    show T qX8_legs X (fX8_legs x1 m) 0 [(0, .ref 81), (1, .int x1)] [] m
    unfold fX8_legs
    refine T_aload_n 0 rfl rfl dX8_legs_0 ?_
    refine T_iload_n 1 rfl rfl dX8_legs_1 ?_
    refine T_cVI (c := 8) [.int x1] [] mkX8_isLodger lmX8_176 rfl rfl (by decide) (Nat.le_of_ble_eq_true rfl) kd_81 dX8_legs_2 (bsX8_isLodger _ x1 m) (fun z2 m1 => ?_)
    refine T_if_ne 10 dX8_legs_5 (by decide) (fun _ => ?_) (fun _ => ?_)
    · refine T_iconst (-1 : Int32) (by decide) dX8_legs_8 ?_
      exact T_iret rfl dX8_legs_9
    · refine T_aload_n 0 rfl rfl dX8_legs_10 ?_
      refine gRX8_16 rfl kd_81 84 rfl dX8_legs_11 ?_
      refine T_iload_n 1 rfl rfl dX8_legs_14 ?_
      refine T_iald kd_84 dX8_legs_15 ?_
      refine T_istore_n (lv' := [(2, .int (m1.1 84 (x1).toNatClampNeg)), (0, .ref 81), (1, .int x1)]) rfl (Nat.le_of_ble_eq_true rfl) rfl dX8_legs_16 ?_
      refine T_li (fun y4 => ?_)
      refine T_bipush (-4 : Int32) (by decide) dX8_legs_17 ?_
      refine T_istore_n (lv' := [(3, .int (-4 : Int32)), (2, .int y4), (0, .ref 81), (1, .int x1)]) rfl (Nat.le_of_ble_eq_true rfl) rfl dX8_legs_19 ?_
      refine T_iconst (4 : Int32) (by decide) dX8_legs_20 ?_
      refine T_istore (lv' := [(4, .int (4 : Int32)), (3, .int (-4 : Int32)), (2, .int y4), (0, .ref 81), (1, .int x1)]) (Nat.le_of_ble_eq_true rfl) rfl dX8_legs_21 ?_
      exact T_sub [3, 4, 2, 1, 0] rfl (tX8_legs_23 X x1 y4  FU ((-4 : Int32), (4 : Int32), m1)))
theorem lmX8_232 : Cond.methodLink RX8 232 yX8_laysFloors ∈ gdL := gd_mem 1228 (by decide +kernel) (by decide +kernel)
def jX8_lodge_208 (k72 : Int32 × Int32 × Int32 × Int32 × mMem → mR) (x1 : Int32) (x2 : Int32) (x4 : Int32) (x5 : Int32) (x6 : Int32) (x8 : Int32) (x9 : Int32) (xs0 : Int32) (m : mMem) : mR := if x9 = (0 : Int32) then li (x6 + (1 : Int32)) (fun y15 => k72 (xs0, x4, x5, y15, m)) else li (x6 + (1 : Int32)) (fun y16 => k72 (xs0, x8, x5, y16, m))
set_option maxRecDepth 100000 in
theorem uX8_lodge_208 (X : mCx) (k72 : Int32 × Int32 × Int32 × Int32 × mMem → mR) (x1 : Int32) (x2 : Int32) (x4 : Int32) (x5 : Int32) (x6 : Int32) (x8 : Int32) (x9 : Int32) (xs0 : Int32) (m : mMem) (hk72 : ∀ s : Int32 × Int32 × Int32 × Int32 × mMem, T qX8_lodge X (k72 s) 72 [(0, .ref 81), (1, .int x1), (2, .int x2), (3, .int s.1), (4, .int s.2.1), (5, .int s.2.2.1), (6, .int s.2.2.2.1)] [] s.2.2.2.2) : T qX8_lodge X (jX8_lodge_208 k72 x1 x2 x4 x5 x6 x8 x9 xs0 m) 208 [(0, .ref 81), (1, .int x1), (2, .int x2), (4, .int x4), (5, .int x5), (6, .int x6), (8, .int x8), (9, .int x9)] [.int xs0] m := by
  unfold jX8_lodge_208
  refine T_istore_n (lv' := [(3, .int xs0), (0, .ref 81), (1, .int x1), (2, .int x2), (4, .int x4), (5, .int x5), (6, .int x6), (8, .int x8), (9, .int x9)]) rfl (Nat.le_of_ble_eq_true rfl) rfl dX8_lodge_208 ?_
  refine T_iload 8 rfl dX8_lodge_209 ?_
  refine T_if_eq 219 dX8_lodge_211 (by decide) (fun _ => ?_) (fun _ => ?_)
  · refine T_iload 4 rfl dX8_lodge_219 ?_
    refine T_istore (lv' := [(4, .int x4), (3, .int xs0), (0, .ref 81), (1, .int x1), (2, .int x2), (5, .int x5), (6, .int x6), (8, .int x8), (9, .int x9)]) (Nat.le_of_ble_eq_true rfl) rfl dX8_lodge_221 ?_
    refine T_iinc (lv' := [(6, .int (x6 + (1 : Int32))), (4, .int x4), (3, .int xs0), (0, .ref 81), (1, .int x1), (2, .int x2), (5, .int x5), (8, .int x8), (9, .int x9)]) 6 (1 : Int32) rfl (by decide) (Nat.le_of_ble_eq_true rfl) rfl dX8_lodge_223 ?_
    refine T_li (fun y15 => ?_)
    refine T_goto 72 dX8_lodge_226 (by decide) ?_
    exact T_sub [3, 4, 5, 2, 1, 6, 0] rfl (hk72 (xs0, x4, x5, y15, m))
  · refine T_iload 7 rfl dX8_lodge_214 ?_
    refine T_goto 221 dX8_lodge_216 (by decide) ?_
    refine T_istore (lv' := [(4, .int x8), (3, .int xs0), (0, .ref 81), (1, .int x1), (2, .int x2), (5, .int x5), (6, .int x6), (8, .int x8), (9, .int x9)]) (Nat.le_of_ble_eq_true rfl) rfl dX8_lodge_221 ?_
    refine T_iinc (lv' := [(6, .int (x6 + (1 : Int32))), (4, .int x8), (3, .int xs0), (0, .ref 81), (1, .int x1), (2, .int x2), (5, .int x5), (8, .int x8), (9, .int x9)]) 6 (1 : Int32) rfl (by decide) (Nat.le_of_ble_eq_true rfl) rfl dX8_lodge_223 ?_
    refine T_li (fun y16 => ?_)
    refine T_goto 72 dX8_lodge_226 (by decide) ?_
    exact T_sub [3, 4, 5, 2, 1, 6, 0] rfl (hk72 (xs0, x8, x5, y16, m))
def jX8_lodge_195 (k72 : Int32 × Int32 × Int32 × Int32 × mMem → mR) (x1 : Int32) (x2 : Int32) (x3 : Int32) (x4 : Int32) (x6 : Int32) (x7 : Int32) (x8 : Int32) (x9 : Int32) (xs0 : Int32) (m : mMem) : mR := if x9 = (0 : Int32) then jX8_lodge_208 k72 x1 x2 x4 xs0 x6 x8 x9 x3 m else jX8_lodge_208 k72 x1 x2 x4 xs0 x6 x8 x9 x7 m
set_option maxRecDepth 100000 in
theorem uX8_lodge_195 (X : mCx) (k72 : Int32 × Int32 × Int32 × Int32 × mMem → mR) (x1 : Int32) (x2 : Int32) (x3 : Int32) (x4 : Int32) (x6 : Int32) (x7 : Int32) (x8 : Int32) (x9 : Int32) (xs0 : Int32) (m : mMem) (hk72 : ∀ s : Int32 × Int32 × Int32 × Int32 × mMem, T qX8_lodge X (k72 s) 72 [(0, .ref 81), (1, .int x1), (2, .int x2), (3, .int s.1), (4, .int s.2.1), (5, .int s.2.2.1), (6, .int s.2.2.2.1)] [] s.2.2.2.2) : T qX8_lodge X (jX8_lodge_195 k72 x1 x2 x3 x4 x6 x7 x8 x9 xs0 m) 195 [(0, .ref 81), (1, .int x1), (2, .int x2), (3, .int x3), (4, .int x4), (6, .int x6), (7, .int x7), (8, .int x8), (9, .int x9)] [.int xs0] m := by
  unfold jX8_lodge_195
  refine T_istore (lv' := [(5, .int xs0), (0, .ref 81), (1, .int x1), (2, .int x2), (3, .int x3), (4, .int x4), (6, .int x6), (7, .int x7), (8, .int x8), (9, .int x9)]) (Nat.le_of_ble_eq_true rfl) rfl dX8_lodge_195 ?_
  refine T_iload 9 rfl dX8_lodge_197 ?_
  refine T_if_eq 207 dX8_lodge_199 (by decide) (fun _ => ?_) (fun _ => ?_)
  · refine T_iload_n 4 rfl rfl dX8_lodge_207 ?_
    exact T_sub [1, 2, 3, 5, 0, 6, 8, 9] rfl (uX8_lodge_208 X k72 x1 x2 x4 xs0 x6 x8 x9 x3 m hk72)
  · refine T_iload 7 rfl dX8_lodge_202 ?_
    refine T_goto 208 dX8_lodge_204 (by decide) ?_
    exact T_sub [1, 2, 3, 5, 0, 6, 8, 9] rfl (uX8_lodge_208 X k72 x1 x2 x4 xs0 x6 x8 x9 x7 m hk72)
def jX8_lodge_181 (k72 : Int32 × Int32 × Int32 × Int32 × mMem → mR) (x1 : Int32) (x2 : Int32) (x3 : Int32) (x4 : Int32) (x5 : Int32) (x6 : Int32) (x7 : Int32) (x8 : Int32) (xs0 : Int32) (m : mMem) : mR := if xs0 = (0 : Int32) then jX8_lodge_195 k72 x1 x2 x3 x4 x6 x7 x8 xs0 x5 m else jX8_lodge_195 k72 x1 x2 x3 x4 x6 x7 x8 xs0 x6 m
set_option maxRecDepth 100000 in
theorem uX8_lodge_181 (X : mCx) (k72 : Int32 × Int32 × Int32 × Int32 × mMem → mR) (x1 : Int32) (x2 : Int32) (x3 : Int32) (x4 : Int32) (x5 : Int32) (x6 : Int32) (x7 : Int32) (x8 : Int32) (xs0 : Int32) (m : mMem) (hk72 : ∀ s : Int32 × Int32 × Int32 × Int32 × mMem, T qX8_lodge X (k72 s) 72 [(0, .ref 81), (1, .int x1), (2, .int x2), (3, .int s.1), (4, .int s.2.1), (5, .int s.2.2.1), (6, .int s.2.2.2.1)] [] s.2.2.2.2) : T qX8_lodge X (jX8_lodge_181 k72 x1 x2 x3 x4 x5 x6 x7 x8 xs0 m) 181 [(0, .ref 81), (1, .int x1), (2, .int x2), (3, .int x3), (4, .int x4), (5, .int x5), (6, .int x6), (7, .int x7), (8, .int x8)] [.int xs0] m := by
  unfold jX8_lodge_181
  refine T_istore (lv' := [(9, .int xs0), (0, .ref 81), (1, .int x1), (2, .int x2), (3, .int x3), (4, .int x4), (5, .int x5), (6, .int x6), (7, .int x7), (8, .int x8)]) (Nat.le_of_ble_eq_true rfl) rfl dX8_lodge_181 ?_
  refine T_iload 0 rfl dX8_lodge_183 ?_
  refine T_if_eq 193 dX8_lodge_185 (by decide) (fun _ => ?_) (fun _ => ?_)
  · refine T_iload 6 rfl dX8_lodge_193 ?_
    exact T_sub [1, 2, 3, 4, 5, 7, 8, 9, 0] rfl (uX8_lodge_195 X k72 x1 x2 x3 x4 x6 x7 x8 xs0 x5 m hk72)
  · refine T_iload 7 rfl dX8_lodge_188 ?_
    refine T_goto 195 dX8_lodge_190 (by decide) ?_
    exact T_sub [1, 2, 3, 4, 5, 7, 8, 9, 0] rfl (uX8_lodge_195 X k72 x1 x2 x3 x4 x6 x7 x8 xs0 x6 m hk72)
def jX8_lodge_176 (k72 : Int32 × Int32 × Int32 × Int32 × mMem → mR) (x1 : Int32) (x2 : Int32) (x3 : Int32) (x4 : Int32) (x5 : Int32) (x6 : Int32) (x7 : Int32) (x8 : Int32) (m : mMem) : mR := jX8_lodge_181 k72 x1 x2 x3 x4 x5 x6 x7 x8 (1 : Int32) m
set_option maxRecDepth 100000 in
theorem uX8_lodge_176 (X : mCx) (k72 : Int32 × Int32 × Int32 × Int32 × mMem → mR) (x1 : Int32) (x2 : Int32) (x3 : Int32) (x4 : Int32) (x5 : Int32) (x6 : Int32) (x7 : Int32) (x8 : Int32) (m : mMem) (hk72 : ∀ s : Int32 × Int32 × Int32 × Int32 × mMem, T qX8_lodge X (k72 s) 72 [(0, .ref 81), (1, .int x1), (2, .int x2), (3, .int s.1), (4, .int s.2.1), (5, .int s.2.2.1), (6, .int s.2.2.2.1)] [] s.2.2.2.2) : T qX8_lodge X (jX8_lodge_176 k72 x1 x2 x3 x4 x5 x6 x7 x8 m) 176 [(0, .ref 81), (1, .int x1), (2, .int x2), (3, .int x3), (4, .int x4), (5, .int x5), (6, .int x6), (7, .int x7), (8, .int x8)] [] m := by
  unfold jX8_lodge_176
  refine T_iconst (1 : Int32) (by decide) dX8_lodge_176 ?_
  refine T_goto 181 dX8_lodge_177 (by decide) ?_
  exact T_sub [0, 1, 2, 3, 4, 5, 6, 7, 8] rfl (uX8_lodge_181 X k72 x1 x2 x3 x4 x5 x6 x7 x8 (1 : Int32) m hk72)
def jX8_lodge_180 (k72 : Int32 × Int32 × Int32 × Int32 × mMem → mR) (x1 : Int32) (x2 : Int32) (x3 : Int32) (x4 : Int32) (x5 : Int32) (x6 : Int32) (x7 : Int32) (x8 : Int32) (m : mMem) : mR := jX8_lodge_181 k72 x1 x2 x3 x4 x5 x6 x7 x8 (0 : Int32) m
set_option maxRecDepth 100000 in
theorem uX8_lodge_180 (X : mCx) (k72 : Int32 × Int32 × Int32 × Int32 × mMem → mR) (x1 : Int32) (x2 : Int32) (x3 : Int32) (x4 : Int32) (x5 : Int32) (x6 : Int32) (x7 : Int32) (x8 : Int32) (m : mMem) (hk72 : ∀ s : Int32 × Int32 × Int32 × Int32 × mMem, T qX8_lodge X (k72 s) 72 [(0, .ref 81), (1, .int x1), (2, .int x2), (3, .int s.1), (4, .int s.2.1), (5, .int s.2.2.1), (6, .int s.2.2.2.1)] [] s.2.2.2.2) : T qX8_lodge X (jX8_lodge_180 k72 x1 x2 x3 x4 x5 x6 x7 x8 m) 180 [(0, .ref 81), (1, .int x1), (2, .int x2), (3, .int x3), (4, .int x4), (5, .int x5), (6, .int x6), (7, .int x7), (8, .int x8)] [] m := by
  unfold jX8_lodge_180
  refine T_iconst (0 : Int32) (by decide) dX8_lodge_180 ?_
  exact T_sub [0, 1, 2, 3, 4, 5, 6, 7, 8] rfl (uX8_lodge_181 X k72 x1 x2 x3 x4 x5 x6 x7 x8 (0 : Int32) m hk72)
def jX8_lodge_128 (k72 : Int32 × Int32 × Int32 × Int32 × mMem → mR) (k96 : Int32 × Int32 × Int32 × mMem → mR) (x1 : Int32) (x2 : Int32) (x3 : Int32) (x4 : Int32) (x5 : Int32) (x6 : Int32) (x8 : Int32) (x9 : Int32) (x10 : Int32) (xs0 : Int32) (xs1 : Int32) (m : mMem) : mR := li (xs1 + xs0) (fun y20 => if x10 = (0 : Int32) then li (x8 + (0 : Int32)) (fun y21 => li (x9 + (1 : Int32)) (fun y22 => k96 (y20, y21, y22, m))) else ga (0 : Int32) 11 (li (x8 + (m.1 91 ((0 : Int32)).toNatClampNeg)) (fun y23 => li (x9 + (1 : Int32)) (fun y24 => k96 (y20, y23, y24, m)))))
set_option maxRecDepth 100000 in
theorem uX8_lodge_128 (X : mCx) (k72 : Int32 × Int32 × Int32 × Int32 × mMem → mR) (k96 : Int32 × Int32 × Int32 × mMem → mR) (x1 : Int32) (x2 : Int32) (x3 : Int32) (x4 : Int32) (x5 : Int32) (x6 : Int32) (x8 : Int32) (x9 : Int32) (x10 : Int32) (xs0 : Int32) (xs1 : Int32) (m : mMem) (hk72 : ∀ s : Int32 × Int32 × Int32 × Int32 × mMem, T qX8_lodge X (k72 s) 72 [(0, .ref 81), (1, .int x1), (2, .int x2), (3, .int s.1), (4, .int s.2.1), (5, .int s.2.2.1), (6, .int s.2.2.2.1)] [] s.2.2.2.2) (hk96 : ∀ s : Int32 × Int32 × Int32 × mMem, T qX8_lodge X (k96 s) 96 [(0, .ref 81), (1, .int x1), (2, .int x2), (3, .int x3), (4, .int x4), (5, .int x5), (6, .int x6), (7, .int s.1), (8, .int s.2.1), (9, .int s.2.2.1)] [] s.2.2.2) : T qX8_lodge X (jX8_lodge_128 k72 k96 x1 x2 x3 x4 x5 x6 x8 x9 x10 xs0 xs1 m) 128 [(0, .ref 81), (1, .int x1), (2, .int x2), (3, .int x3), (4, .int x4), (5, .int x5), (6, .int x6), (8, .int x8), (9, .int x9), (10, .int x10)] [.int xs0, .int xs1] m := by
  unfold jX8_lodge_128
  refine T_iadd dX8_lodge_128 ?_
  refine T_istore (lv' := [(7, .int (xs1 + xs0)), (0, .ref 81), (1, .int x1), (2, .int x2), (3, .int x3), (4, .int x4), (5, .int x5), (6, .int x6), (8, .int x8), (9, .int x9), (10, .int x10)]) (Nat.le_of_ble_eq_true rfl) rfl dX8_lodge_129 ?_
  refine T_li (fun y20 => ?_)
  refine T_iload 8 rfl dX8_lodge_131 ?_
  refine T_iload 10 rfl dX8_lodge_133 ?_
  refine T_if_eq 147 dX8_lodge_135 (by decide) (fun _ => ?_) (fun _ => ?_)
  · refine T_iconst (0 : Int32) (by decide) dX8_lodge_147 ?_
    refine T_iadd dX8_lodge_148 ?_
    refine T_istore (lv' := [(8, .int (x8 + (0 : Int32))), (7, .int y20), (0, .ref 81), (1, .int x1), (2, .int x2), (3, .int x3), (4, .int x4), (5, .int x5), (6, .int x6), (9, .int x9), (10, .int x10)]) (Nat.le_of_ble_eq_true rfl) rfl dX8_lodge_149 ?_
    refine T_li (fun y21 => ?_)
    refine T_iinc (lv' := [(9, .int (x9 + (1 : Int32))), (8, .int y21), (7, .int y20), (0, .ref 81), (1, .int x1), (2, .int x2), (3, .int x3), (4, .int x4), (5, .int x5), (6, .int x6), (10, .int x10)]) 9 (1 : Int32) rfl (by decide) (Nat.le_of_ble_eq_true rfl) rfl dX8_lodge_151 ?_
    refine T_li (fun y22 => ?_)
    refine T_goto 96 dX8_lodge_154 (by decide) ?_
    exact T_sub [3, 4, 5, 6, 7, 8, 9, 2, 1, 0] rfl (hk96 (y20, y21, y22, m))
  · refine T_aload_n 1 rfl rfl dX8_lodge_138 ?_
    refine gRX8_37 rfl kd_81 91 rfl dX8_lodge_139 ?_
    refine T_iconst (0 : Int32) (by decide) dX8_lodge_142 ?_
    refine T_iald kd_91 dX8_lodge_143 ?_
    refine T_goto 148 dX8_lodge_144 (by decide) ?_
    refine T_iadd dX8_lodge_148 ?_
    refine T_istore (lv' := [(8, .int (x8 + (m.1 91 ((0 : Int32)).toNatClampNeg))), (7, .int y20), (0, .ref 81), (1, .int x1), (2, .int x2), (3, .int x3), (4, .int x4), (5, .int x5), (6, .int x6), (9, .int x9), (10, .int x10)]) (Nat.le_of_ble_eq_true rfl) rfl dX8_lodge_149 ?_
    refine T_li (fun y23 => ?_)
    refine T_iinc (lv' := [(9, .int (x9 + (1 : Int32))), (8, .int y23), (7, .int y20), (0, .ref 81), (1, .int x1), (2, .int x2), (3, .int x3), (4, .int x4), (5, .int x5), (6, .int x6), (10, .int x10)]) 9 (1 : Int32) rfl (by decide) (Nat.le_of_ble_eq_true rfl) rfl dX8_lodge_151 ?_
    refine T_li (fun y24 => ?_)
    refine T_goto 96 dX8_lodge_154 (by decide) ?_
    exact T_sub [3, 4, 5, 6, 7, 8, 9, 2, 1, 0] rfl (hk96 (y20, y23, y24, m))
def bX8_lodge_96 (k72 : Int32 × Int32 × Int32 × Int32 × mMem → mR) (x1 : Int32) (x2 : Int32) (x3 : Int32) (x4 : Int32) (x5 : Int32) (x6 : Int32) (k96 : Int32 × Int32 × Int32 × mMem → mR) (s : Int32 × Int32 × Int32 × mMem) : mR := match s with
  | (x7, x8, x9, m) => if (m.1 81 4) ≤ x9 then if x3 < x7 then jX8_lodge_176 k72 x1 x2 x3 x4 x5 x6 x7 x8 m else if x7 = x3 then if x4 ≤ x8 then jX8_lodge_180 k72 x1 x2 x3 x4 x5 x6 x7 x8 m else jX8_lodge_176 k72 x1 x2 x3 x4 x5 x6 x7 x8 m else jX8_lodge_180 k72 x1 x2 x3 x4 x5 x6 x7 x8 m else bI (fX8_hasClimb (175 : Int32) x9 m) (fun z18 m17 => if z18 = (0 : Int32) then jX8_lodge_128 k72 k96 x1 x2 x3 x4 x5 x6 x8 x9 z18 (0 : Int32) x7 m17 else jX8_lodge_128 k72 k96 x1 x2 x3 x4 x5 x6 x8 x9 z18 (1 : Int32) x7 m17)
set_option maxRecDepth 100000 in
theorem tX8_lodge_96 (X : mCx) (k72 : Int32 × Int32 × Int32 × Int32 × mMem → mR) (x1 : Int32) (x2 : Int32) (x3 : Int32) (x4 : Int32) (x5 : Int32) (x6 : Int32) (hk72 : ∀ s : Int32 × Int32 × Int32 × Int32 × mMem, T qX8_lodge X (k72 s) 72 [(0, .ref 81), (1, .int x1), (2, .int x2), (3, .int s.1), (4, .int s.2.1), (5, .int s.2.2.1), (6, .int s.2.2.2.1)] [] s.2.2.2.2) : ∀ (n : Nat) (s : Int32 × Int32 × Int32 × mMem), T qX8_lodge X (lp (bX8_lodge_96 k72 x1 x2 x3 x4 x5 x6) n s) 96 [(0, .ref 81), (1, .int x1), (2, .int x2), (3, .int x3), (4, .int x4), (5, .int x5), (6, .int x6), (7, .int s.1), (8, .int s.2.1), (9, .int s.2.2.1)] [] s.2.2.2 :=
  T_lp (body := bX8_lodge_96 k72 x1 x2 x3 x4 x5 x6) (lv := fun s => [(0, .ref 81), (1, .int x1), (2, .int x2), (3, .int x3), (4, .int x4), (5, .int x5), (6, .int x6), (7, .int s.1), (8, .int s.2.1), (9, .int s.2.2.1)]) (st := fun _ => []) (μ := fun s : Int32 × Int32 × Int32 × mMem => s.2.2.2) (fun k96 hk96 s => by
    obtain ⟨x7, x8, x9, m⟩ := s
    show T qX8_lodge X (bX8_lodge_96 k72 x1 x2 x3 x4 x5 x6 k96 (x7, x8, x9, m)) 96 [(0, .ref 81), (1, .int x1), (2, .int x2), (3, .int x3), (4, .int x4), (5, .int x5), (6, .int x6), (7, .int x7), (8, .int x8), (9, .int x9)] [] m
    unfold bX8_lodge_96
    dsimp only
    refine T_iload 9 rfl dX8_lodge_96 ?_
    refine T_aload_n 0 rfl rfl dX8_lodge_98 ?_
    refine gIX8_146 rfl kd_81 dX8_lodge_99 ?_
    refine T_icmp_ge 157 dX8_lodge_102 (by decide) (fun _ => ?_) (fun _ => ?_)
    · refine T_iload 7 rfl dX8_lodge_157 ?_
      refine T_iload_n 3 rfl rfl dX8_lodge_159 ?_
      refine T_icmp_gt 176 dX8_lodge_160 (by decide) (fun _ => ?_) (fun _ => ?_)
      · exact T_sub [0, 1, 2, 3, 4, 5, 6, 7, 8] rfl (uX8_lodge_176 X k72 x1 x2 x3 x4 x5 x6 x7 x8 m hk72)
      · refine T_iload 7 rfl dX8_lodge_163 ?_
        refine T_iload_n 3 rfl rfl dX8_lodge_165 ?_
        refine T_icmp_ne 180 dX8_lodge_166 (by decide) (fun _ => ?_) (fun _ => ?_)
        · refine T_iload 8 rfl dX8_lodge_169 ?_
          refine T_iload 4 rfl dX8_lodge_171 ?_
          refine T_icmp_ge 180 dX8_lodge_173 (by decide) (fun _ => ?_) (fun _ => ?_)
          · exact T_sub [0, 1, 2, 3, 4, 5, 6, 7, 8] rfl (uX8_lodge_180 X k72 x1 x2 x3 x4 x5 x6 x7 x8 m hk72)
          · exact T_sub [0, 1, 2, 3, 4, 5, 6, 7, 8] rfl (uX8_lodge_176 X k72 x1 x2 x3 x4 x5 x6 x7 x8 m hk72)
        · exact T_sub [0, 1, 2, 3, 4, 5, 6, 7, 8] rfl (uX8_lodge_180 X k72 x1 x2 x3 x4 x5 x6 x7 x8 m hk72)
    · refine T_aload_n 0 rfl rfl dX8_lodge_105 ?_
      refine T_sipush (175 : Int32) (by decide) dX8_lodge_106 ?_
      refine T_iload 9 rfl dX8_lodge_109 ?_
      refine T_cVI (c := 8) [.int (175 : Int32), .int x9] [] mkX8_hasClimb lmX8_211 rfl rfl (by decide) (Nat.le_of_ble_eq_true rfl) kd_81 dX8_lodge_111 (bsX8_hasClimb _ (175 : Int32) x9 m) (fun z18 m17 => ?_)
      refine T_istore (lv' := [(10, .int z18), (0, .ref 81), (1, .int x1), (2, .int x2), (3, .int x3), (4, .int x4), (5, .int x5), (6, .int x6), (7, .int x7), (8, .int x8), (9, .int x9)]) (Nat.le_of_ble_eq_true rfl) rfl dX8_lodge_114 ?_
      refine T_iload 8 rfl dX8_lodge_116 ?_
      refine T_iload 0 rfl dX8_lodge_118 ?_
      refine T_if_eq 127 dX8_lodge_120 (by decide) (fun _ => ?_) (fun _ => ?_)
      · refine T_iconst (0 : Int32) (by decide) dX8_lodge_127 ?_
        exact T_sub [1, 2, 3, 4, 5, 6, 7, 9, 10, 0] rfl (uX8_lodge_128 X k72 k96 x1 x2 x3 x4 x5 x6 x8 x9 z18 (0 : Int32) x7 m17 hk72 hk96)
      · refine T_iconst (1 : Int32) (by decide) dX8_lodge_123 ?_
        refine T_goto 128 dX8_lodge_124 (by decide) ?_
        exact T_sub [1, 2, 3, 4, 5, 6, 7, 9, 10, 0] rfl (uX8_lodge_128 X k72 k96 x1 x2 x3 x4 x5 x6 x8 x9 z18 (1 : Int32) x7 m17 hk72 hk96))
def bX8_lodge_72 (x1 : Int32) (x2 : Int32) (k72 : Int32 × Int32 × Int32 × Int32 × mMem → mR) (s : Int32 × Int32 × Int32 × Int32 × mMem) : mR := match s with
  | (x3, x4, x5, x6, m) => if x2 ≤ x6 then bI (fX8_laysFloors x5 m) (fun z9 m8 => if x1 = (0 : Int32) then some (some (.int x3), m8) else if x1 = (1 : Int32) then some (some (.int x4), m8) else ga (((195 : Int32) + ((3 : Int32) * (x1 - (10 : Int32)))) + (2 : Int32)) 210 (some (some (.int (m8.1 82 ((((195 : Int32) + ((3 : Int32) * (x1 - (10 : Int32)))) + (2 : Int32))).toNatClampNeg)), m8))) else bI (fX8_laysFloors x6 m) (fun z12 m11 => if z12 = (0 : Int32) then li (x6 + (1 : Int32)) (fun y14 => k72 (x3, x4, x5, y14, m11)) else lp (bX8_lodge_96 k72 x1 x2 x3 x4 x5 x6) FU ((0 : Int32), (0 : Int32), (0 : Int32), m11))
set_option maxRecDepth 100000 in
theorem tX8_lodge_72 (X : mCx) (x1 : Int32) (x2 : Int32)  : ∀ (n : Nat) (s : Int32 × Int32 × Int32 × Int32 × mMem), T qX8_lodge X (lp (bX8_lodge_72 x1 x2) n s) 72 [(0, .ref 81), (1, .int x1), (2, .int x2), (3, .int s.1), (4, .int s.2.1), (5, .int s.2.2.1), (6, .int s.2.2.2.1)] [] s.2.2.2.2 :=
  T_lp (body := bX8_lodge_72 x1 x2) (lv := fun s => [(0, .ref 81), (1, .int x1), (2, .int x2), (3, .int s.1), (4, .int s.2.1), (5, .int s.2.2.1), (6, .int s.2.2.2.1)]) (st := fun _ => []) (μ := fun s : Int32 × Int32 × Int32 × Int32 × mMem => s.2.2.2.2) (fun k72 hk72 s => by
    obtain ⟨x3, x4, x5, x6, m⟩ := s
    show T qX8_lodge X (bX8_lodge_72 x1 x2 k72 (x3, x4, x5, x6, m)) 72 [(0, .ref 81), (1, .int x1), (2, .int x2), (3, .int x3), (4, .int x4), (5, .int x5), (6, .int x6)] [] m
    unfold bX8_lodge_72
    dsimp only
    refine T_iload 6 rfl dX8_lodge_72 ?_
    refine T_iload_n 2 rfl rfl dX8_lodge_74 ?_
    refine T_icmp_ge 229 dX8_lodge_75 (by decide) (fun _ => ?_) (fun _ => ?_)
    · refine T_aload_n 0 rfl rfl dX8_lodge_229 ?_
      refine T_iload 5 rfl dX8_lodge_230 ?_
      refine T_cVI (c := 8) [.int x5] [] mkX8_laysFloors lmX8_232 rfl rfl (by decide) (Nat.le_of_ble_eq_true rfl) kd_81 dX8_lodge_232 (bsX8_laysFloors _ x5 m) (fun z9 m8 => ?_)
      refine T_pop rfl dX8_lodge_235 ?_
      refine T_iload_n 1 rfl rfl dX8_lodge_236 ?_
      refine T_if_ne 244 dX8_lodge_237 (by decide) (fun _ => ?_) (fun _ => ?_)
      · refine T_iload_n 3 rfl rfl dX8_lodge_240 ?_
        refine T_goto 271 dX8_lodge_241 (by decide) ?_
        exact T_iret rfl dX8_lodge_271
      · refine T_iload_n 1 rfl rfl dX8_lodge_244 ?_
        refine T_iconst (1 : Int32) (by decide) dX8_lodge_245 ?_
        refine T_icmp_ne 254 dX8_lodge_246 (by decide) (fun _ => ?_) (fun _ => ?_)
        · refine T_iload 4 rfl dX8_lodge_249 ?_
          refine T_goto 271 dX8_lodge_251 (by decide) ?_
          exact T_iret rfl dX8_lodge_271
        · refine T_aload_n 0 rfl rfl dX8_lodge_254 ?_
          refine gRX8_7 rfl kd_81 82 rfl dX8_lodge_255 ?_
          refine T_sipush (195 : Int32) (by decide) dX8_lodge_258 ?_
          refine T_iconst (3 : Int32) (by decide) dX8_lodge_261 ?_
          refine T_iload_n 1 rfl rfl dX8_lodge_262 ?_
          refine T_bipush (10 : Int32) (by decide) dX8_lodge_263 ?_
          refine T_isub dX8_lodge_265 ?_
          refine T_imul dX8_lodge_266 ?_
          refine T_iadd dX8_lodge_267 ?_
          refine T_iconst (2 : Int32) (by decide) dX8_lodge_268 ?_
          refine T_iadd dX8_lodge_269 ?_
          refine T_iald kd_82 dX8_lodge_270 ?_
          exact T_iret rfl dX8_lodge_271
    · refine T_aload_n 0 rfl rfl dX8_lodge_78 ?_
      refine T_iload 6 rfl dX8_lodge_79 ?_
      refine T_cVI (c := 8) [.int x6] [] mkX8_laysFloors lmX8_232 rfl rfl (by decide) (Nat.le_of_ble_eq_true rfl) kd_81 dX8_lodge_81 (bsX8_laysFloors _ x6 m) (fun z12 m11 => ?_)
      refine T_if_eq 223 dX8_lodge_84 (by decide) (fun _ => ?_) (fun _ => ?_)
      · refine T_iinc (lv' := [(6, .int (x6 + (1 : Int32))), (0, .ref 81), (1, .int x1), (2, .int x2), (3, .int x3), (4, .int x4), (5, .int x5)]) 6 (1 : Int32) rfl (by decide) (Nat.le_of_ble_eq_true rfl) rfl dX8_lodge_223 ?_
        refine T_li (fun y14 => ?_)
        refine T_goto 72 dX8_lodge_226 (by decide) ?_
        exact T_sub [1, 2, 3, 4, 5, 6, 0] rfl (hk72 (x3, x4, x5, y14, m11))
      · refine T_iconst (0 : Int32) (by decide) dX8_lodge_87 ?_
        refine T_istore (lv' := [(7, .int (0 : Int32)), (0, .ref 81), (1, .int x1), (2, .int x2), (3, .int x3), (4, .int x4), (5, .int x5), (6, .int x6)]) (Nat.le_of_ble_eq_true rfl) rfl dX8_lodge_88 ?_
        refine T_iconst (0 : Int32) (by decide) dX8_lodge_90 ?_
        refine T_istore (lv' := [(8, .int (0 : Int32)), (7, .int (0 : Int32)), (0, .ref 81), (1, .int x1), (2, .int x2), (3, .int x3), (4, .int x4), (5, .int x5), (6, .int x6)]) (Nat.le_of_ble_eq_true rfl) rfl dX8_lodge_91 ?_
        refine T_iconst (0 : Int32) (by decide) dX8_lodge_93 ?_
        refine T_istore (lv' := [(9, .int (0 : Int32)), (8, .int (0 : Int32)), (7, .int (0 : Int32)), (0, .ref 81), (1, .int x1), (2, .int x2), (3, .int x3), (4, .int x4), (5, .int x5), (6, .int x6)]) (Nat.le_of_ble_eq_true rfl) rfl dX8_lodge_94 ?_
        exact T_sub [3, 4, 5, 6, 7, 8, 9, 2, 1, 0] rfl (tX8_lodge_96 X k72 x1 x2 x3 x4 x5 x6 hk72 FU ((0 : Int32), (0 : Int32), (0 : Int32), m11)))
def bX8_lodge_35 (x1 : Int32) (k35 : Int32 × Int32 × mMem → mR) (s : Int32 × Int32 × mMem) : mR := match s with
  | (x2, x3, m) => if (m.1 81 4) ≤ x3 then bV (fX8_copies (0 : Int32) (175 : Int32) m) (fun m7 => lp (bX8_lodge_72 x1 x2) FU ((-1 : Int32), (0 : Int32), (0 : Int32), (0 : Int32), m7)) else li (x2 * (4 : Int32)) (fun y25 => li (x3 + (1 : Int32)) (fun y26 => k35 (y25, y26, m)))
set_option maxRecDepth 100000 in
theorem tX8_lodge_35 (X : mCx) (x1 : Int32)  : ∀ (n : Nat) (s : Int32 × Int32 × mMem), T qX8_lodge X (lp (bX8_lodge_35 x1) n s) 35 [(0, .ref 81), (1, .int x1), (2, .int s.1), (3, .int s.2.1)] [] s.2.2 :=
  T_lp (body := bX8_lodge_35 x1) (lv := fun s => [(0, .ref 81), (1, .int x1), (2, .int s.1), (3, .int s.2.1)]) (st := fun _ => []) (μ := fun s : Int32 × Int32 × mMem => s.2.2) (fun k35 hk35 s => by
    obtain ⟨x2, x3, m⟩ := s
    show T qX8_lodge X (bX8_lodge_35 x1 k35 (x2, x3, m)) 35 [(0, .ref 81), (1, .int x1), (2, .int x2), (3, .int x3)] [] m
    unfold bX8_lodge_35
    dsimp only
    refine T_iload_n 3 rfl rfl dX8_lodge_35 ?_
    refine T_aload_n 0 rfl rfl dX8_lodge_36 ?_
    refine gIX8_146 rfl kd_81 dX8_lodge_37 ?_
    refine T_icmp_ge 53 dX8_lodge_40 (by decide) (fun _ => ?_) (fun _ => ?_)
    · refine T_iconst (-1 : Int32) (by decide) dX8_lodge_53 ?_
      refine T_istore_n (lv' := [(3, .int (-1 : Int32)), (0, .ref 81), (1, .int x1), (2, .int x2)]) rfl (Nat.le_of_ble_eq_true rfl) rfl dX8_lodge_54 ?_
      refine T_iconst (0 : Int32) (by decide) dX8_lodge_55 ?_
      refine T_istore (lv' := [(4, .int (0 : Int32)), (3, .int (-1 : Int32)), (0, .ref 81), (1, .int x1), (2, .int x2)]) (Nat.le_of_ble_eq_true rfl) rfl dX8_lodge_56 ?_
      refine T_iconst (0 : Int32) (by decide) dX8_lodge_58 ?_
      refine T_istore (lv' := [(5, .int (0 : Int32)), (4, .int (0 : Int32)), (3, .int (-1 : Int32)), (0, .ref 81), (1, .int x1), (2, .int x2)]) (Nat.le_of_ble_eq_true rfl) rfl dX8_lodge_59 ?_
      refine T_aload_n 3 rfl rfl dX8_lodge_61 ?_
      refine T_iconst (0 : Int32) (by decide) dX8_lodge_62 ?_
      refine T_sipush (175 : Int32) (by decide) dX8_lodge_63 ?_
      refine T_cVV (c := 8) [.int (0 : Int32), .int (175 : Int32)] [] mkX8_copies lmX8_223 rfl rfl (by decide) (Nat.le_of_ble_eq_true rfl) kd_81 dX8_lodge_66 (bsX8_copies _ (0 : Int32) (175 : Int32) m) (fun m7 => ?_)
      refine T_iconst (0 : Int32) (by decide) dX8_lodge_69 ?_
      refine T_istore (lv' := [(6, .int (0 : Int32)), (5, .int (0 : Int32)), (4, .int (0 : Int32)), (3, .int (-1 : Int32)), (0, .ref 81), (1, .int x1), (2, .int x2)]) (Nat.le_of_ble_eq_true rfl) rfl dX8_lodge_70 ?_
      exact T_sub [4, 5, 6, 3, 2, 1, 0] rfl (tX8_lodge_72 X x1 x2  FU ((-1 : Int32), (0 : Int32), (0 : Int32), (0 : Int32), m7))
    · refine T_iload_n 2 rfl rfl dX8_lodge_43 ?_
      refine T_iconst (4 : Int32) (by decide) dX8_lodge_44 ?_
      refine T_imul dX8_lodge_45 ?_
      refine T_istore_n (lv' := [(2, .int (x2 * (4 : Int32))), (0, .ref 81), (1, .int x1), (3, .int x3)]) rfl (Nat.le_of_ble_eq_true rfl) rfl dX8_lodge_46 ?_
      refine T_li (fun y25 => ?_)
      refine T_iinc (lv' := [(3, .int (x3 + (1 : Int32))), (2, .int y25), (0, .ref 81), (1, .int x1)]) 3 (1 : Int32) rfl (by decide) (Nat.le_of_ble_eq_true rfl) rfl dX8_lodge_47 ?_
      refine T_li (fun y26 => ?_)
      refine T_goto 35 dX8_lodge_50 (by decide) ?_
      exact T_sub [2, 3, 1, 0] rfl (hk35 (y25, y26, m)))
def jX8_lodge_31 (x1 : Int32) (m : mMem) : mR := lp (bX8_lodge_35 x1) FU ((1 : Int32), (0 : Int32), m)
set_option maxRecDepth 100000 in
theorem uX8_lodge_31 (X : mCx) (x1 : Int32) (m : mMem)  : T qX8_lodge X (jX8_lodge_31 x1 m) 31 [(0, .ref 81), (1, .int x1)] [] m := by
  unfold jX8_lodge_31
  refine T_iconst (1 : Int32) (by decide) dX8_lodge_31 ?_
  refine T_istore_n (lv' := [(2, .int (1 : Int32)), (0, .ref 81), (1, .int x1)]) rfl (Nat.le_of_ble_eq_true rfl) rfl dX8_lodge_32 ?_
  refine T_iconst (0 : Int32) (by decide) dX8_lodge_33 ?_
  refine T_istore_n (lv' := [(3, .int (0 : Int32)), (2, .int (1 : Int32)), (0, .ref 81), (1, .int x1)]) rfl (Nat.le_of_ble_eq_true rfl) rfl dX8_lodge_34 ?_
  exact T_sub [2, 3, 1, 0] rfl (tX8_lodge_35 X x1  FU ((1 : Int32), (0 : Int32), m))
def fX8_lodge (x1 : Int32) (m : mMem) : mR := bI (fX8_in (x1).toInt64 (0 : Int64) (1 : Int64) m) (fun z2 m1 => if z2 = (0 : Int32) then bI (fX8_in (x1).toInt64 (10 : Int64) (((9 : Int32) + (m1.1 81 4))).toInt64 m1) (fun z5 m4 => if z5 = (0 : Int32) then some (some (.int (-1 : Int32)), m4) else jX8_lodge_31 x1 m4) else jX8_lodge_31 x1 m1)
set_option maxRecDepth 100000 in
theorem bsX8_lodge (l : Launch) (x1 : Int32) (m : mMem)  : BS l qX8_lodge [.ref 81, .int x1] m (fX8_lodge x1 m) := BS_of (by decide) (Nat.le_of_ble_eq_true rfl) (fun X _ => by
    show T qX8_lodge X (fX8_lodge x1 m) 0 [(0, .ref 81), (1, .int x1)] [] m
    unfold fX8_lodge
    refine T_iload_n 1 rfl rfl dX8_lodge_0 ?_
    refine T_i2l dX8_lodge_1 ?_
    refine T_lconst (0 : Int64) (by decide) dX8_lodge_2 ?_
    refine T_lconst (1 : Int64) (by decide) dX8_lodge_3 ?_
    refine T_cSI [.long (x1).toInt64, .long (0 : Int64), .long (1 : Int64)] [] mkX8_in lmX8_67 rfl (by decide) (Nat.le_of_ble_eq_true rfl) dX8_lodge_4 (bsX8_in _ (x1).toInt64 (0 : Int64) (1 : Int64) m) (fun z2 m1 => ?_)
    refine T_if_ne 31 dX8_lodge_7 (by decide) (fun _ => ?_) (fun _ => ?_)
    · refine T_iload_n 1 rfl rfl dX8_lodge_10 ?_
      refine T_i2l dX8_lodge_11 ?_
      refine T_ldc2 lcX8_201 dX8_lodge_12 ?_
      refine T_bipush (9 : Int32) (by decide) dX8_lodge_15 ?_
      refine T_aload_n 0 rfl rfl dX8_lodge_17 ?_
      refine gIX8_146 rfl kd_81 dX8_lodge_18 ?_
      refine T_iadd dX8_lodge_21 ?_
      refine T_i2l dX8_lodge_22 ?_
      refine T_cSI [.long (x1).toInt64, .long (10 : Int64), .long (((9 : Int32) + (m1.1 81 4))).toInt64] [] mkX8_in lmX8_67 rfl (by decide) (Nat.le_of_ble_eq_true rfl) dX8_lodge_23 (bsX8_in _ (x1).toInt64 (10 : Int64) (((9 : Int32) + (m1.1 81 4))).toInt64 m1) (fun z5 m4 => ?_)
      refine T_if_ne 31 dX8_lodge_26 (by decide) (fun _ => ?_) (fun _ => ?_)
      · refine T_iconst (-1 : Int32) (by decide) dX8_lodge_29 ?_
        exact T_iret rfl dX8_lodge_30
      · exact T_sub [0, 1] rfl (uX8_lodge_31 X x1 m4 )
    · exact T_sub [0, 1] rfl (uX8_lodge_31 X x1 m1 ))
theorem lmX8_214 : Cond.methodLink RX8 214 yX8_homesOn ∈ gdL := gd_mem 1165 (by decide +kernel) (by decide +kernel)
def fX8_homes  (m : mMem) : mR := bI (fX8_homesOn (0 : Int32) m) (fun z2 m1 => some (some (.int z2), m1))
set_option maxRecDepth 100000 in
theorem bsX8_homes (l : Launch)  (m : mMem)  : BS l qX8_homes [.ref 81] m (fX8_homes  m) := BS_of (by decide) (Nat.le_of_ble_eq_true rfl) (fun X _ => by
    show T qX8_homes X (fX8_homes  m) 0 [(0, .ref 81)] [] m
    unfold fX8_homes
    refine T_aload_n 0 rfl rfl dX8_homes_0 ?_
    refine T_iconst (0 : Int32) (by decide) dX8_homes_1 ?_
    refine T_cVI (c := 8) [.int (0 : Int32)] [] mkX8_homesOn lmX8_214 rfl rfl (by decide) (Nat.le_of_ble_eq_true rfl) kd_81 dX8_homes_2 (bsX8_homesOn _ (0 : Int32) m) (fun z2 m1 => ?_)
    exact T_iret rfl dX8_homes_5)
def fX8_must (x1 : Int32) (m : mMem) : mR := bI (fX8_isStep x1 m) (fun z2 m1 => if z2 = (0 : Int32) then some (some (.int (-1 : Int32)), m1) else bI (fX8_homesOn (0 : Int32) m1) (fun z5 m4 => lt (si m4 81 5 ((1 : Int32) <<< (x1 &&& 31))) (fun m7 => bI (fX8_homesOn (0 : Int32) m7) (fun z9 m8 => lt (si m8 81 5 (0 : Int32)) (fun m11 => some (some (.int (z5 &&& (z9 ^^^ (-1 : Int32)))), m11))))))
set_option maxRecDepth 100000 in
theorem bsX8_must (l : Launch) (x1 : Int32) (m : mMem)  : BS l qX8_must [.ref 81, .int x1] m (fX8_must x1 m) := BS_of (by decide) (Nat.le_of_ble_eq_true rfl) (fun X _ => by
    show T qX8_must X (fX8_must x1 m) 0 [(0, .ref 81), (1, .int x1)] [] m
    unfold fX8_must
    refine T_aload_n 0 rfl rfl dX8_must_0 ?_
    refine T_iload_n 1 rfl rfl dX8_must_1 ?_
    refine T_cVI (c := 8) [.int x1] [] mkX8_isStep lmX8_172 rfl rfl (by decide) (Nat.le_of_ble_eq_true rfl) kd_81 dX8_must_2 (bsX8_isStep _ x1 m) (fun z2 m1 => ?_)
    refine T_if_ne 10 dX8_must_5 (by decide) (fun _ => ?_) (fun _ => ?_)
    · refine T_iconst (-1 : Int32) (by decide) dX8_must_8 ?_
      exact T_iret rfl dX8_must_9
    · refine T_aload_n 0 rfl rfl dX8_must_10 ?_
      refine T_iconst (0 : Int32) (by decide) dX8_must_11 ?_
      refine T_cVI (c := 8) [.int (0 : Int32)] [] mkX8_homesOn lmX8_214 rfl rfl (by decide) (Nat.le_of_ble_eq_true rfl) kd_81 dX8_must_12 (bsX8_homesOn _ (0 : Int32) m1) (fun z5 m4 => ?_)
      refine T_istore_n (lv' := [(2, .int z5), (0, .ref 81), (1, .int x1)]) rfl (Nat.le_of_ble_eq_true rfl) rfl dX8_must_15 ?_
      refine T_aload_n 1 rfl rfl dX8_must_16 ?_
      refine T_iconst (1 : Int32) (by decide) dX8_must_17 ?_
      refine T_iload_n 2 rfl rfl dX8_must_18 ?_
      refine T_ishl dX8_must_19 ?_
      refine pIX8_155 rfl rfl rfl kd_81 dX8_must_20 ?_
      refine T_lt (fun m7 => ?_)
      refine T_aload_n 1 rfl rfl dX8_must_23 ?_
      refine T_iconst (0 : Int32) (by decide) dX8_must_24 ?_
      refine T_cVI (c := 8) [.int (0 : Int32)] [] mkX8_homesOn lmX8_214 rfl rfl (by decide) (Nat.le_of_ble_eq_true rfl) kd_81 dX8_must_25 (bsX8_homesOn _ (0 : Int32) m7) (fun z9 m8 => ?_)
      refine T_istore_n (lv' := [(3, .int z9), (2, .int z5), (0, .ref 81), (1, .int x1)]) rfl (Nat.le_of_ble_eq_true rfl) rfl dX8_must_28 ?_
      refine T_aload_n 2 rfl rfl dX8_must_29 ?_
      refine T_iconst (0 : Int32) (by decide) dX8_must_30 ?_
      refine pIX8_155 rfl rfl rfl kd_81 dX8_must_31 ?_
      refine T_lt (fun m11 => ?_)
      refine T_iload_n 1 rfl rfl dX8_must_34 ?_
      refine T_iload_n 0 rfl rfl dX8_must_35 ?_
      refine T_iconst (-1 : Int32) (by decide) dX8_must_36 ?_
      refine T_ixor dX8_must_37 ?_
      refine T_iand dX8_must_38 ?_
      exact T_iret rfl dX8_must_39)
theorem lmX8_217 : Cond.methodLink RX8 217 yX8_goes ∈ gdL := gd_mem 1181 (by decide +kernel) (by decide +kernel)
def bX8_daysOn_14 (k5 : Int32 × Int32 × mMem → mR) (x1 : Int32) (x2 : Int32) (x4 : Int32) (k14 : Int32 × Int32 × mMem → mR) (s : Int32 × Int32 × mMem) : mR := match s with
  | (x3, x5, m) => if (m.1 81 4) ≤ x5 then ga (x1 + (34 : Int32)) 210 (ga (x1 + (34 : Int32)) 210 (lt (si m 82 ((x1 + (34 : Int32))).toNatClampNeg ((m.1 82 ((x1 + (34 : Int32))).toNatClampNeg) + (1 : Int32))) (fun m1 => li (x4 + (1 : Int32)) (fun y2 => k5 (x3, y2, m1))))) else bI (fX8_goes x1 x5 m) (fun z4 m3 => if z4 = (0 : Int32) then li (x3 + (0 : Int32)) (fun y6 => li (x5 + (1 : Int32)) (fun y7 => k14 (y6, y7, m3))) else li (x3 + (1 : Int32)) (fun y8 => li (x5 + (1 : Int32)) (fun y9 => k14 (y8, y9, m3))))
set_option maxRecDepth 100000 in
theorem tX8_daysOn_14 (X : mCx) (k5 : Int32 × Int32 × mMem → mR) (x1 : Int32) (x2 : Int32) (x4 : Int32) (hk5 : ∀ s : Int32 × Int32 × mMem, T qX8_daysOn X (k5 s) 5 [(0, .ref 81), (1, .int x1), (2, .int x2), (3, .int s.1), (4, .int s.2.1)] [] s.2.2) : ∀ (n : Nat) (s : Int32 × Int32 × mMem), T qX8_daysOn X (lp (bX8_daysOn_14 k5 x1 x2 x4) n s) 14 [(0, .ref 81), (1, .int x1), (2, .int x2), (3, .int s.1), (4, .int x4), (5, .int s.2.1)] [] s.2.2 :=
  T_lp (body := bX8_daysOn_14 k5 x1 x2 x4) (lv := fun s => [(0, .ref 81), (1, .int x1), (2, .int x2), (3, .int s.1), (4, .int x4), (5, .int s.2.1)]) (st := fun _ => []) (μ := fun s : Int32 × Int32 × mMem => s.2.2) (fun k14 hk14 s => by
    obtain ⟨x3, x5, m⟩ := s
    show T qX8_daysOn X (bX8_daysOn_14 k5 x1 x2 x4 k14 (x3, x5, m)) 14 [(0, .ref 81), (1, .int x1), (2, .int x2), (3, .int x3), (4, .int x4), (5, .int x5)] [] m
    unfold bX8_daysOn_14
    dsimp only
    refine T_iload 5 rfl dX8_daysOn_14 ?_
    refine T_aload_n 0 rfl rfl dX8_daysOn_16 ?_
    refine gIX8_146 rfl kd_81 dX8_daysOn_17 ?_
    refine T_icmp_ge 47 dX8_daysOn_20 (by decide) (fun _ => ?_) (fun _ => ?_)
    · refine T_aload_n 0 rfl rfl dX8_daysOn_47 ?_
      refine gRX8_7 rfl kd_81 82 rfl dX8_daysOn_48 ?_
      refine T_iload_n 1 rfl rfl dX8_daysOn_51 ?_
      refine T_bipush (34 : Int32) (by decide) dX8_daysOn_52 ?_
      refine T_iadd dX8_daysOn_54 ?_
      refine T_dup2 rfl rfl dX8_daysOn_55 ?_
      refine T_iald kd_82 dX8_daysOn_56 ?_
      refine T_iconst (1 : Int32) (by decide) dX8_daysOn_57 ?_
      refine T_iadd dX8_daysOn_58 ?_
      refine T_iast _ rfl kd_82 dX8_daysOn_59 ?_
      refine T_lt (fun m1 => ?_)
      refine T_iinc (lv' := [(4, .int (x4 + (1 : Int32))), (0, .ref 81), (1, .int x1), (2, .int x2), (3, .int x3), (5, .int x5)]) 4 (1 : Int32) rfl (by decide) (Nat.le_of_ble_eq_true rfl) rfl dX8_daysOn_60 ?_
      refine T_li (fun y2 => ?_)
      refine T_goto 5 dX8_daysOn_63 (by decide) ?_
      exact T_sub [1, 2, 3, 4, 0] rfl (hk5 (x3, y2, m1))
    · refine T_iload_n 3 rfl rfl dX8_daysOn_23 ?_
      refine T_aload_n 0 rfl rfl dX8_daysOn_24 ?_
      refine T_iload_n 1 rfl rfl dX8_daysOn_25 ?_
      refine T_iload 5 rfl dX8_daysOn_26 ?_
      refine T_cVI (c := 8) [.int x1, .int x5] [.int x3] mkX8_goes lmX8_217 rfl rfl (by decide) (Nat.le_of_ble_eq_true rfl) kd_81 dX8_daysOn_28 (bsX8_goes _ x1 x5 m) (fun z4 m3 => ?_)
      refine T_if_eq 38 dX8_daysOn_31 (by decide) (fun _ => ?_) (fun _ => ?_)
      · refine T_iconst (0 : Int32) (by decide) dX8_daysOn_38 ?_
        refine T_iadd dX8_daysOn_39 ?_
        refine T_istore_n (lv' := [(3, .int (x3 + (0 : Int32))), (0, .ref 81), (1, .int x1), (2, .int x2), (4, .int x4), (5, .int x5)]) rfl (Nat.le_of_ble_eq_true rfl) rfl dX8_daysOn_40 ?_
        refine T_li (fun y6 => ?_)
        refine T_iinc (lv' := [(5, .int (x5 + (1 : Int32))), (3, .int y6), (0, .ref 81), (1, .int x1), (2, .int x2), (4, .int x4)]) 5 (1 : Int32) rfl (by decide) (Nat.le_of_ble_eq_true rfl) rfl dX8_daysOn_41 ?_
        refine T_li (fun y7 => ?_)
        refine T_goto 14 dX8_daysOn_44 (by decide) ?_
        exact T_sub [2, 3, 4, 1, 5, 0] rfl (hk14 (y6, y7, m3))
      · refine T_iconst (1 : Int32) (by decide) dX8_daysOn_34 ?_
        refine T_goto 39 dX8_daysOn_35 (by decide) ?_
        refine T_iadd dX8_daysOn_39 ?_
        refine T_istore_n (lv' := [(3, .int (x3 + (1 : Int32))), (0, .ref 81), (1, .int x1), (2, .int x2), (4, .int x4), (5, .int x5)]) rfl (Nat.le_of_ble_eq_true rfl) rfl dX8_daysOn_40 ?_
        refine T_li (fun y8 => ?_)
        refine T_iinc (lv' := [(5, .int (x5 + (1 : Int32))), (3, .int y8), (0, .ref 81), (1, .int x1), (2, .int x2), (4, .int x4)]) 5 (1 : Int32) rfl (by decide) (Nat.le_of_ble_eq_true rfl) rfl dX8_daysOn_41 ?_
        refine T_li (fun y9 => ?_)
        refine T_goto 14 dX8_daysOn_44 (by decide) ?_
        exact T_sub [2, 3, 4, 1, 5, 0] rfl (hk14 (y8, y9, m3)))
def bX8_daysOn_5 (x1 : Int32) (x2 : Int32) (k5 : Int32 × Int32 × mMem → mR) (s : Int32 × Int32 × mMem) : mR := match s with
  | (x3, x4, m) => if x2 ≤ x4 then some (some (.int x3), m) else lp (bX8_daysOn_14 k5 x1 x2 x4) FU (x3, (0 : Int32), m)
set_option maxRecDepth 100000 in
theorem tX8_daysOn_5 (X : mCx) (x1 : Int32) (x2 : Int32)  : ∀ (n : Nat) (s : Int32 × Int32 × mMem), T qX8_daysOn X (lp (bX8_daysOn_5 x1 x2) n s) 5 [(0, .ref 81), (1, .int x1), (2, .int x2), (3, .int s.1), (4, .int s.2.1)] [] s.2.2 :=
  T_lp (body := bX8_daysOn_5 x1 x2) (lv := fun s => [(0, .ref 81), (1, .int x1), (2, .int x2), (3, .int s.1), (4, .int s.2.1)]) (st := fun _ => []) (μ := fun s : Int32 × Int32 × mMem => s.2.2) (fun k5 hk5 s => by
    obtain ⟨x3, x4, m⟩ := s
    show T qX8_daysOn X (bX8_daysOn_5 x1 x2 k5 (x3, x4, m)) 5 [(0, .ref 81), (1, .int x1), (2, .int x2), (3, .int x3), (4, .int x4)] [] m
    unfold bX8_daysOn_5
    dsimp only
    refine T_iload 4 rfl dX8_daysOn_5 ?_
    refine T_iload_n 2 rfl rfl dX8_daysOn_7 ?_
    refine T_icmp_ge 66 dX8_daysOn_8 (by decide) (fun _ => ?_) (fun _ => ?_)
    · refine T_iload_n 3 rfl rfl dX8_daysOn_66 ?_
      exact T_iret rfl dX8_daysOn_67
    · refine T_iconst (0 : Int32) (by decide) dX8_daysOn_11 ?_
      refine T_istore (lv' := [(5, .int (0 : Int32)), (0, .ref 81), (1, .int x1), (2, .int x2), (3, .int x3), (4, .int x4)]) (Nat.le_of_ble_eq_true rfl) rfl dX8_daysOn_12 ?_
      exact T_sub [1, 2, 3, 4, 5, 0] rfl (tX8_daysOn_14 X k5 x1 x2 x4 hk5 FU (x3, (0 : Int32), m)))
def fX8_daysOn (x1 : Int32) (x2 : Int32) (m : mMem) : mR := lp (bX8_daysOn_5 x1 x2) FU ((0 : Int32), (0 : Int32), m)
set_option maxRecDepth 100000 in
theorem bsX8_daysOn (l : Launch) (x1 : Int32) (x2 : Int32) (m : mMem)  : BS l qX8_daysOn [.ref 81, .int x1, .int x2] m (fX8_daysOn x1 x2 m) := BS_of (by decide) (Nat.le_of_ble_eq_true rfl) (fun X _ => by
    show T qX8_daysOn X (fX8_daysOn x1 x2 m) 0 [(0, .ref 81), (1, .int x1), (2, .int x2)] [] m
    unfold fX8_daysOn
    refine T_iconst (0 : Int32) (by decide) dX8_daysOn_0 ?_
    refine T_istore_n (lv' := [(3, .int (0 : Int32)), (0, .ref 81), (1, .int x1), (2, .int x2)]) rfl (Nat.le_of_ble_eq_true rfl) rfl dX8_daysOn_1 ?_
    refine T_iconst (0 : Int32) (by decide) dX8_daysOn_2 ?_
    refine T_istore (lv' := [(4, .int (0 : Int32)), (3, .int (0 : Int32)), (0, .ref 81), (1, .int x1), (2, .int x2)]) (Nat.le_of_ble_eq_true rfl) rfl dX8_daysOn_3 ?_
    exact T_sub [2, 3, 4, 1, 0] rfl (tX8_daysOn_5 X x1 x2  FU ((0 : Int32), (0 : Int32), m)))
theorem lmX8_229 : Cond.methodLink RX8 229 yX8_bitsOf ∈ gdL := gd_mem 1221 (by decide +kernel) (by decide +kernel)
def jX8_best_98 (k27 : Int32 × Int32 × Int32 × mMem → mR) (x1 : Int32) (x2 : Int32) (x4 : Int32) (x5 : Int32) (xs0 : Int32) (m : mMem) : mR := if x5 ≤ x2 then li (x4 + (1 : Int32)) (fun y19 => k27 (x2, xs0, y19, m)) else li (x4 + (1 : Int32)) (fun y20 => k27 (x5, xs0, y20, m))
set_option maxRecDepth 100000 in
theorem uX8_best_98 (X : mCx) (k27 : Int32 × Int32 × Int32 × mMem → mR) (x1 : Int32) (x2 : Int32) (x4 : Int32) (x5 : Int32) (xs0 : Int32) (m : mMem) (hk27 : ∀ s : Int32 × Int32 × Int32 × mMem, T qX8_best X (k27 s) 27 [(0, .ref 81), (1, .int x1), (2, .int s.1), (3, .int s.2.1), (4, .int s.2.2.1)] [] s.2.2.2) : T qX8_best X (jX8_best_98 k27 x1 x2 x4 x5 xs0 m) 98 [(0, .ref 81), (1, .int x1), (2, .int x2), (4, .int x4), (5, .int x5)] [.int xs0] m := by
  unfold jX8_best_98
  refine T_istore_n (lv' := [(3, .int xs0), (0, .ref 81), (1, .int x1), (2, .int x2), (4, .int x4), (5, .int x5)]) rfl (Nat.le_of_ble_eq_true rfl) rfl dX8_best_98 ?_
  refine T_iload 5 rfl dX8_best_99 ?_
  refine T_iload_n 3 rfl rfl dX8_best_101 ?_
  refine T_icmp_le 110 dX8_best_102 (by decide) (fun _ => ?_) (fun _ => ?_)
  · refine T_iload_n 3 rfl rfl dX8_best_110 ?_
    refine T_istore_n (lv' := [(2, .int x2), (3, .int xs0), (0, .ref 81), (1, .int x1), (4, .int x4), (5, .int x5)]) rfl (Nat.le_of_ble_eq_true rfl) rfl dX8_best_111 ?_
    refine T_iinc (lv' := [(4, .int (x4 + (1 : Int32))), (2, .int x2), (3, .int xs0), (0, .ref 81), (1, .int x1), (5, .int x5)]) 4 (1 : Int32) rfl (by decide) (Nat.le_of_ble_eq_true rfl) rfl dX8_best_112 ?_
    refine T_li (fun y19 => ?_)
    refine T_goto 27 dX8_best_115 (by decide) ?_
    exact T_sub [3, 4, 1, 2, 0] rfl (hk27 (x2, xs0, y19, m))
  · refine T_iload 5 rfl dX8_best_105 ?_
    refine T_goto 111 dX8_best_107 (by decide) ?_
    refine T_istore_n (lv' := [(2, .int x5), (3, .int xs0), (0, .ref 81), (1, .int x1), (4, .int x4), (5, .int x5)]) rfl (Nat.le_of_ble_eq_true rfl) rfl dX8_best_111 ?_
    refine T_iinc (lv' := [(4, .int (x4 + (1 : Int32))), (2, .int x5), (3, .int xs0), (0, .ref 81), (1, .int x1), (5, .int x5)]) 4 (1 : Int32) rfl (by decide) (Nat.le_of_ble_eq_true rfl) rfl dX8_best_112 ?_
    refine T_li (fun y20 => ?_)
    refine T_goto 27 dX8_best_115 (by decide) ?_
    exact T_sub [3, 4, 1, 2, 0] rfl (hk27 (x5, xs0, y20, m))
def bX8_best_27 (x1 : Int32) (k27 : Int32 × Int32 × Int32 × mMem → mR) (s : Int32 × Int32 × Int32 × mMem) : mR := match s with
  | (x2, x3, x4, m) => if (m.1 81 2) ≤ x4 then if x3 = (-4 : Int32) then some (some (.int x3), m) else if x1 = (0 : Int32) then some (some (.int x3), m) else some (some (.int x2), m) else bV (fX8_copies (0 : Int32) (175 : Int32) m) (fun m10 => ga ((175 : Int32) + ((2 : Int32) * x4)) 210 (lt (si m10 82 (((175 : Int32) + ((2 : Int32) * x4))).toNatClampNeg (0 : Int32)) (fun m11 => ga (((175 : Int32) + ((2 : Int32) * x4)) + (1 : Int32)) 210 (lt (si m11 82 ((((175 : Int32) + ((2 : Int32) * x4)) + (1 : Int32))).toNatClampNeg (0 : Int32)) (fun m12 => bI (fX8_homesOn (175 : Int32) m12) (fun z14 m13 => bI (fX8_bitsOf z14 m13) (fun z17 m16 => if z17 ≤ x2 then jX8_best_98 k27 x1 x2 x4 z17 x3 m16 else jX8_best_98 k27 x1 x2 x4 z17 x4 m16)))))))
set_option maxRecDepth 100000 in
theorem tX8_best_27 (X : mCx) (x1 : Int32)  : ∀ (n : Nat) (s : Int32 × Int32 × Int32 × mMem), T qX8_best X (lp (bX8_best_27 x1) n s) 27 [(0, .ref 81), (1, .int x1), (2, .int s.1), (3, .int s.2.1), (4, .int s.2.2.1)] [] s.2.2.2 :=
  T_lp (body := bX8_best_27 x1) (lv := fun s => [(0, .ref 81), (1, .int x1), (2, .int s.1), (3, .int s.2.1), (4, .int s.2.2.1)]) (st := fun _ => []) (μ := fun s : Int32 × Int32 × Int32 × mMem => s.2.2.2) (fun k27 hk27 s => by
    obtain ⟨x2, x3, x4, m⟩ := s
    show T qX8_best X (bX8_best_27 x1 k27 (x2, x3, x4, m)) 27 [(0, .ref 81), (1, .int x1), (2, .int x2), (3, .int x3), (4, .int x4)] [] m
    unfold bX8_best_27
    dsimp only
    refine T_iload 4 rfl dX8_best_27 ?_
    refine T_aload_n 0 rfl rfl dX8_best_29 ?_
    refine gIX8_143 rfl kd_81 dX8_best_30 ?_
    refine T_icmp_ge 118 dX8_best_33 (by decide) (fun _ => ?_) (fun _ => ?_)
    · refine T_iload_n 3 rfl rfl dX8_best_118 ?_
      refine T_bipush (-4 : Int32) (by decide) dX8_best_119 ?_
      refine T_icmp_eq 128 dX8_best_121 (by decide) (fun _ => ?_) (fun _ => ?_)
      · refine T_iload_n 3 rfl rfl dX8_best_128 ?_
        refine T_goto 133 dX8_best_129 (by decide) ?_
        exact T_iret rfl dX8_best_133
      · refine T_iload_n 1 rfl rfl dX8_best_124 ?_
        refine T_if_ne 132 dX8_best_125 (by decide) (fun _ => ?_) (fun _ => ?_)
        · refine T_iload_n 3 rfl rfl dX8_best_128 ?_
          refine T_goto 133 dX8_best_129 (by decide) ?_
          exact T_iret rfl dX8_best_133
        · refine T_iload_n 2 rfl rfl dX8_best_132 ?_
          exact T_iret rfl dX8_best_133
    · refine T_aload_n 0 rfl rfl dX8_best_36 ?_
      refine T_iconst (0 : Int32) (by decide) dX8_best_37 ?_
      refine T_sipush (175 : Int32) (by decide) dX8_best_38 ?_
      refine T_cVV (c := 8) [.int (0 : Int32), .int (175 : Int32)] [] mkX8_copies lmX8_223 rfl rfl (by decide) (Nat.le_of_ble_eq_true rfl) kd_81 dX8_best_41 (bsX8_copies _ (0 : Int32) (175 : Int32) m) (fun m10 => ?_)
      refine T_aload_n 0 rfl rfl dX8_best_44 ?_
      refine gRX8_7 rfl kd_81 82 rfl dX8_best_45 ?_
      refine T_sipush (175 : Int32) (by decide) dX8_best_48 ?_
      refine T_iconst (2 : Int32) (by decide) dX8_best_51 ?_
      refine T_iload 4 rfl dX8_best_52 ?_
      refine T_imul dX8_best_54 ?_
      refine T_iadd dX8_best_55 ?_
      refine T_iconst (0 : Int32) (by decide) dX8_best_56 ?_
      refine T_iast _ rfl kd_82 dX8_best_57 ?_
      refine T_lt (fun m11 => ?_)
      refine T_aload_n 0 rfl rfl dX8_best_58 ?_
      refine gRX8_7 rfl kd_81 82 rfl dX8_best_59 ?_
      refine T_sipush (175 : Int32) (by decide) dX8_best_62 ?_
      refine T_iconst (2 : Int32) (by decide) dX8_best_65 ?_
      refine T_iload 4 rfl dX8_best_66 ?_
      refine T_imul dX8_best_68 ?_
      refine T_iadd dX8_best_69 ?_
      refine T_iconst (1 : Int32) (by decide) dX8_best_70 ?_
      refine T_iadd dX8_best_71 ?_
      refine T_iconst (0 : Int32) (by decide) dX8_best_72 ?_
      refine T_iast _ rfl kd_82 dX8_best_73 ?_
      refine T_lt (fun m12 => ?_)
      refine T_aload_n 0 rfl rfl dX8_best_74 ?_
      refine T_sipush (175 : Int32) (by decide) dX8_best_75 ?_
      refine T_cVI (c := 8) [.int (175 : Int32)] [] mkX8_homesOn lmX8_214 rfl rfl (by decide) (Nat.le_of_ble_eq_true rfl) kd_81 dX8_best_78 (bsX8_homesOn _ (175 : Int32) m12) (fun z14 m13 => ?_)
      refine T_cSI [.int z14] [] mkX8_bitsOf lmX8_229 rfl (by decide) (Nat.le_of_ble_eq_true rfl) dX8_best_81 (bsX8_bitsOf _ z14 m13) (fun z17 m16 => ?_)
      refine T_istore (lv' := [(5, .int z17), (0, .ref 81), (1, .int x1), (2, .int x2), (3, .int x3), (4, .int x4)]) (Nat.le_of_ble_eq_true rfl) rfl dX8_best_84 ?_
      refine T_iload 0 rfl dX8_best_86 ?_
      refine T_iload_n 3 rfl rfl dX8_best_88 ?_
      refine T_icmp_le 97 dX8_best_89 (by decide) (fun _ => ?_) (fun _ => ?_)
      · refine T_iload_n 4 rfl rfl dX8_best_97 ?_
        exact T_sub [1, 2, 3, 5, 0] rfl (uX8_best_98 X k27 x1 x2 x4 z17 x3 m16 hk27)
      · refine T_iload 5 rfl dX8_best_92 ?_
        refine T_goto 98 dX8_best_94 (by decide) ?_
        exact T_sub [1, 2, 3, 5, 0] rfl (uX8_best_98 X k27 x1 x2 x4 z17 x4 m16 hk27))
def fX8_best (x1 : Int32) (m : mMem) : mR := bI (fX8_in (x1).toInt64 (0 : Int64) (1 : Int64) m) (fun z2 m1 => if z2 = (0 : Int32) then some (some (.int (-1 : Int32)), m1) else bI (fX8_homesOn (0 : Int32) m1) (fun z5 m4 => bI (fX8_bitsOf z5 m4) (fun z8 m7 => lp (bX8_best_27 x1) FU (z8, (-4 : Int32), (0 : Int32), m7))))
set_option maxRecDepth 100000 in
theorem bsX8_best (l : Launch) (x1 : Int32) (m : mMem)  : BS l qX8_best [.ref 81, .int x1] m (fX8_best x1 m) := BS_of (by decide) (Nat.le_of_ble_eq_true rfl) (fun X _ => by
    show T qX8_best X (fX8_best x1 m) 0 [(0, .ref 81), (1, .int x1)] [] m
    unfold fX8_best
    refine T_iload_n 1 rfl rfl dX8_best_0 ?_
    refine T_i2l dX8_best_1 ?_
    refine T_lconst (0 : Int64) (by decide) dX8_best_2 ?_
    refine T_lconst (1 : Int64) (by decide) dX8_best_3 ?_
    refine T_cSI [.long (x1).toInt64, .long (0 : Int64), .long (1 : Int64)] [] mkX8_in lmX8_67 rfl (by decide) (Nat.le_of_ble_eq_true rfl) dX8_best_4 (bsX8_in _ (x1).toInt64 (0 : Int64) (1 : Int64) m) (fun z2 m1 => ?_)
    refine T_if_ne 12 dX8_best_7 (by decide) (fun _ => ?_) (fun _ => ?_)
    · refine T_iconst (-1 : Int32) (by decide) dX8_best_10 ?_
      exact T_iret rfl dX8_best_11
    · refine T_aload_n 0 rfl rfl dX8_best_12 ?_
      refine T_iconst (0 : Int32) (by decide) dX8_best_13 ?_
      refine T_cVI (c := 8) [.int (0 : Int32)] [] mkX8_homesOn lmX8_214 rfl rfl (by decide) (Nat.le_of_ble_eq_true rfl) kd_81 dX8_best_14 (bsX8_homesOn _ (0 : Int32) m1) (fun z5 m4 => ?_)
      refine T_cSI [.int z5] [] mkX8_bitsOf lmX8_229 rfl (by decide) (Nat.le_of_ble_eq_true rfl) dX8_best_17 (bsX8_bitsOf _ z5 m4) (fun z8 m7 => ?_)
      refine T_istore_n (lv' := [(2, .int z8), (0, .ref 81), (1, .int x1)]) rfl (Nat.le_of_ble_eq_true rfl) rfl dX8_best_20 ?_
      refine T_bipush (-4 : Int32) (by decide) dX8_best_21 ?_
      refine T_istore_n (lv' := [(3, .int (-4 : Int32)), (2, .int z8), (0, .ref 81), (1, .int x1)]) rfl (Nat.le_of_ble_eq_true rfl) rfl dX8_best_23 ?_
      refine T_iconst (0 : Int32) (by decide) dX8_best_24 ?_
      refine T_istore (lv' := [(4, .int (0 : Int32)), (3, .int (-4 : Int32)), (2, .int z8), (0, .ref 81), (1, .int x1)]) (Nat.le_of_ble_eq_true rfl) rfl dX8_best_25 ?_
      exact T_sub [3, 4, 2, 1, 0] rfl (tX8_best_27 X x1  FU (z8, (-4 : Int32), (0 : Int32), m7)))
theorem lmX8_235 : Cond.methodLink RX8 235 yX8_lowest ∈ gdL := gd_mem 1240 (by decide +kernel) (by decide +kernel)
def jX8_meanOf_92 (k50 : Int64 × Int32 × mMem → mR) (k67 : Int64 × Int32 × mMem → mR) (x1 : Int32) (x2 : Int32) (x3 : Int32) (x4 : Int64) (x6 : Int64) (x8 : Int32) (x9 : Int64) (x11 : Int32) (xs0 : Int32) (m : mMem) : mR := ga x11 10 (if (m.1 83 (x11).toNatClampNeg) = (3 : Int32) then if xs0 = (0 : Int32) then ll (x9 * (1 : Int64)) (fun y16 => li (x11 + (1 : Int32)) (fun y17 => k67 (y16, y17, m))) else ll (x9 * (0 : Int64)) (fun y18 => li (x11 + (1 : Int32)) (fun y19 => k67 (y18, y19, m))) else if xs0 = (0 : Int32) then ll (x9 * (((10 : Int32) - x1)).toInt64) (fun y20 => li (x11 + (1 : Int32)) (fun y21 => k67 (y20, y21, m))) else ll (x9 * (x1).toInt64) (fun y22 => li (x11 + (1 : Int32)) (fun y23 => k67 (y22, y23, m))))
set_option maxRecDepth 100000 in
theorem uX8_meanOf_92 (X : mCx) (k50 : Int64 × Int32 × mMem → mR) (k67 : Int64 × Int32 × mMem → mR) (x1 : Int32) (x2 : Int32) (x3 : Int32) (x4 : Int64) (x6 : Int64) (x8 : Int32) (x9 : Int64) (x11 : Int32) (xs0 : Int32) (m : mMem) (hk50 : ∀ s : Int64 × Int32 × mMem, T qX8_meanOf X (k50 s) 50 [(0, .ref 81), (1, .int x1), (2, .int x2), (3, .int x3), (4, .long s.1), (6, .long x6), (8, .int s.2.1)] [] s.2.2) (hk67 : ∀ s : Int64 × Int32 × mMem, T qX8_meanOf X (k67 s) 67 [(0, .ref 81), (1, .int x1), (2, .int x2), (3, .int x3), (4, .long x4), (6, .long x6), (8, .int x8), (9, .long s.1), (11, .int s.2.1)] [] s.2.2) : T qX8_meanOf X (jX8_meanOf_92 k50 k67 x1 x2 x3 x4 x6 x8 x9 x11 xs0 m) 92 [(0, .ref 81), (1, .int x1), (2, .int x2), (3, .int x3), (4, .long x4), (6, .long x6), (8, .int x8), (9, .long x9), (11, .int x11)] [.int xs0] m := by
  unfold jX8_meanOf_92
  refine T_istore (lv' := [(12, .int xs0), (0, .ref 81), (1, .int x1), (2, .int x2), (3, .int x3), (4, .long x4), (6, .long x6), (8, .int x8), (9, .long x9), (11, .int x11)]) (Nat.le_of_ble_eq_true rfl) rfl dX8_meanOf_92 ?_
  refine T_lload 8 rfl dX8_meanOf_94 ?_
  refine T_aload_n 1 rfl rfl dX8_meanOf_96 ?_
  refine gRX8_13 rfl kd_81 83 rfl dX8_meanOf_97 ?_
  refine T_iload 9 rfl dX8_meanOf_100 ?_
  refine T_iald kd_83 dX8_meanOf_102 ?_
  refine T_iconst (3 : Int32) (by decide) dX8_meanOf_103 ?_
  refine T_icmp_ne 120 dX8_meanOf_104 (by decide) (fun _ => ?_) (fun _ => ?_)
  · refine T_iload 0 rfl dX8_meanOf_107 ?_
    refine T_if_eq 116 dX8_meanOf_109 (by decide) (fun _ => ?_) (fun _ => ?_)
    · refine T_lconst (1 : Int64) (by decide) dX8_meanOf_116 ?_
      refine T_goto 135 dX8_meanOf_117 (by decide) ?_
      refine T_lmul dX8_meanOf_135 ?_
      refine T_lstore (lv' := [(9, .long (x9 * (1 : Int64))), (12, .int xs0), (0, .ref 81), (1, .int x1), (2, .int x2), (3, .int x3), (4, .long x4), (6, .long x6), (8, .int x8), (11, .int x11)]) (Nat.le_of_ble_eq_true rfl) rfl dX8_meanOf_136 ?_
      refine T_ll (fun y16 => ?_)
      refine T_iinc (lv' := [(11, .int (x11 + (1 : Int32))), (9, .long y16), (12, .int xs0), (0, .ref 81), (1, .int x1), (2, .int x2), (3, .int x3), (4, .long x4), (6, .long x6), (8, .int x8)]) 9 (1 : Int32) rfl (by decide) (Nat.le_of_ble_eq_true rfl) rfl dX8_meanOf_138 ?_
      refine T_li (fun y17 => ?_)
      refine T_goto 67 dX8_meanOf_141 (by decide) ?_
      exact T_sub [3, 4, 5, 6, 7, 8, 9, 1, 0] rfl (hk67 (y16, y17, m))
    · refine T_lconst (0 : Int64) (by decide) dX8_meanOf_112 ?_
      refine T_goto 135 dX8_meanOf_113 (by decide) ?_
      refine T_lmul dX8_meanOf_135 ?_
      refine T_lstore (lv' := [(9, .long (x9 * (0 : Int64))), (12, .int xs0), (0, .ref 81), (1, .int x1), (2, .int x2), (3, .int x3), (4, .long x4), (6, .long x6), (8, .int x8), (11, .int x11)]) (Nat.le_of_ble_eq_true rfl) rfl dX8_meanOf_136 ?_
      refine T_ll (fun y18 => ?_)
      refine T_iinc (lv' := [(11, .int (x11 + (1 : Int32))), (9, .long y18), (12, .int xs0), (0, .ref 81), (1, .int x1), (2, .int x2), (3, .int x3), (4, .long x4), (6, .long x6), (8, .int x8)]) 9 (1 : Int32) rfl (by decide) (Nat.le_of_ble_eq_true rfl) rfl dX8_meanOf_138 ?_
      refine T_li (fun y19 => ?_)
      refine T_goto 67 dX8_meanOf_141 (by decide) ?_
      exact T_sub [3, 4, 5, 6, 7, 8, 9, 1, 0] rfl (hk67 (y18, y19, m))
  · refine T_iload 0 rfl dX8_meanOf_120 ?_
    refine T_if_eq 130 dX8_meanOf_122 (by decide) (fun _ => ?_) (fun _ => ?_)
    · refine T_bipush (10 : Int32) (by decide) dX8_meanOf_130 ?_
      refine T_iload_n 2 rfl rfl dX8_meanOf_132 ?_
      refine T_isub dX8_meanOf_133 ?_
      refine T_i2l dX8_meanOf_134 ?_
      refine T_lmul dX8_meanOf_135 ?_
      refine T_lstore (lv' := [(9, .long (x9 * (((10 : Int32) - x1)).toInt64)), (12, .int xs0), (0, .ref 81), (1, .int x1), (2, .int x2), (3, .int x3), (4, .long x4), (6, .long x6), (8, .int x8), (11, .int x11)]) (Nat.le_of_ble_eq_true rfl) rfl dX8_meanOf_136 ?_
      refine T_ll (fun y20 => ?_)
      refine T_iinc (lv' := [(11, .int (x11 + (1 : Int32))), (9, .long y20), (12, .int xs0), (0, .ref 81), (1, .int x1), (2, .int x2), (3, .int x3), (4, .long x4), (6, .long x6), (8, .int x8)]) 9 (1 : Int32) rfl (by decide) (Nat.le_of_ble_eq_true rfl) rfl dX8_meanOf_138 ?_
      refine T_li (fun y21 => ?_)
      refine T_goto 67 dX8_meanOf_141 (by decide) ?_
      exact T_sub [3, 4, 5, 6, 7, 8, 9, 1, 0] rfl (hk67 (y20, y21, m))
    · refine T_iload_n 2 rfl rfl dX8_meanOf_125 ?_
      refine T_i2l dX8_meanOf_126 ?_
      refine T_goto 135 dX8_meanOf_127 (by decide) ?_
      refine T_lmul dX8_meanOf_135 ?_
      refine T_lstore (lv' := [(9, .long (x9 * (x1).toInt64)), (12, .int xs0), (0, .ref 81), (1, .int x1), (2, .int x2), (3, .int x3), (4, .long x4), (6, .long x6), (8, .int x8), (11, .int x11)]) (Nat.le_of_ble_eq_true rfl) rfl dX8_meanOf_136 ?_
      refine T_ll (fun y22 => ?_)
      refine T_iinc (lv' := [(11, .int (x11 + (1 : Int32))), (9, .long y22), (12, .int xs0), (0, .ref 81), (1, .int x1), (2, .int x2), (3, .int x3), (4, .long x4), (6, .long x6), (8, .int x8)]) 9 (1 : Int32) rfl (by decide) (Nat.le_of_ble_eq_true rfl) rfl dX8_meanOf_138 ?_
      refine T_li (fun y23 => ?_)
      refine T_goto 67 dX8_meanOf_141 (by decide) ?_
      exact T_sub [3, 4, 5, 6, 7, 8, 9, 1, 0] rfl (hk67 (y22, y23, m))
def bX8_meanOf_67 (k50 : Int64 × Int32 × mMem → mR) (x1 : Int32) (x2 : Int32) (x3 : Int32) (x4 : Int64) (x6 : Int64) (x8 : Int32) (k67 : Int64 × Int32 × mMem → mR) (s : Int64 × Int32 × mMem) : mR := match s with
  | (x9, x11, m) => if (m.1 81 2) ≤ x11 then lt (si m 81 5 x8) (fun m5 => if (lg_cmp x9 (0 : Int64)) = (0 : Int32) then ll (x4 + (0 : Int64)) (fun y6 => li (x8 + (1 : Int32)) (fun y7 => k50 (y6, y7, m5))) else bI (fX8_homesOn (0 : Int32) m5) (fun z9 m8 => bI (fX8_bitsOf (z9 &&& x2) m8) (fun z12 m11 => ll (x4 + (x9 * (z12).toInt64)) (fun y14 => li (x8 + (1 : Int32)) (fun y15 => k50 (y14, y15, m11)))))) else if ((x8 >>> (x11 &&& 31)) &&& (1 : Int32)) = (1 : Int32) then jX8_meanOf_92 k50 k67 x1 x2 x3 x4 x6 x8 x9 x11 (1 : Int32) m else jX8_meanOf_92 k50 k67 x1 x2 x3 x4 x6 x8 x9 x11 (0 : Int32) m
set_option maxRecDepth 100000 in
theorem tX8_meanOf_67 (X : mCx) (k50 : Int64 × Int32 × mMem → mR) (x1 : Int32) (x2 : Int32) (x3 : Int32) (x4 : Int64) (x6 : Int64) (x8 : Int32) (hk50 : ∀ s : Int64 × Int32 × mMem, T qX8_meanOf X (k50 s) 50 [(0, .ref 81), (1, .int x1), (2, .int x2), (3, .int x3), (4, .long s.1), (6, .long x6), (8, .int s.2.1)] [] s.2.2) : ∀ (n : Nat) (s : Int64 × Int32 × mMem), T qX8_meanOf X (lp (bX8_meanOf_67 k50 x1 x2 x3 x4 x6 x8) n s) 67 [(0, .ref 81), (1, .int x1), (2, .int x2), (3, .int x3), (4, .long x4), (6, .long x6), (8, .int x8), (9, .long s.1), (11, .int s.2.1)] [] s.2.2 :=
  T_lp (body := bX8_meanOf_67 k50 x1 x2 x3 x4 x6 x8) (lv := fun s => [(0, .ref 81), (1, .int x1), (2, .int x2), (3, .int x3), (4, .long x4), (6, .long x6), (8, .int x8), (9, .long s.1), (11, .int s.2.1)]) (st := fun _ => []) (μ := fun s : Int64 × Int32 × mMem => s.2.2) (fun k67 hk67 s => by
    obtain ⟨x9, x11, m⟩ := s
    show T qX8_meanOf X (bX8_meanOf_67 k50 x1 x2 x3 x4 x6 x8 k67 (x9, x11, m)) 67 [(0, .ref 81), (1, .int x1), (2, .int x2), (3, .int x3), (4, .long x4), (6, .long x6), (8, .int x8), (9, .long x9), (11, .int x11)] [] m
    unfold bX8_meanOf_67
    dsimp only
    refine T_iload 8 rfl dX8_meanOf_67 ?_
    refine T_aload_n 0 rfl rfl dX8_meanOf_69 ?_
    refine gIX8_143 rfl kd_81 dX8_meanOf_70 ?_
    refine T_icmp_ge 144 dX8_meanOf_73 (by decide) (fun _ => ?_) (fun _ => ?_)
    · refine T_aload_n 0 rfl rfl dX8_meanOf_144 ?_
      refine T_iload 6 rfl dX8_meanOf_145 ?_
      refine pIX8_155 rfl rfl rfl kd_81 dX8_meanOf_147 ?_
      refine T_lt (fun m5 => ?_)
      refine T_lload 4 rfl dX8_meanOf_150 ?_
      refine T_lload 7 rfl dX8_meanOf_152 ?_
      refine T_lconst (0 : Int64) (by decide) dX8_meanOf_154 ?_
      refine T_lcmp dX8_meanOf_155 ?_
      refine T_if_ne 163 dX8_meanOf_156 (by decide) (fun _ => ?_) (fun _ => ?_)
      · refine T_lconst (0 : Int64) (by decide) dX8_meanOf_159 ?_
        refine T_goto 177 dX8_meanOf_160 (by decide) ?_
        refine T_ladd dX8_meanOf_177 ?_
        refine T_lstore (lv' := [(4, .long (x4 + (0 : Int64))), (0, .ref 81), (1, .int x1), (2, .int x2), (3, .int x3), (6, .long x6), (8, .int x8), (9, .long x9), (11, .int x11)]) (Nat.le_of_ble_eq_true rfl) rfl dX8_meanOf_178 ?_
        refine T_ll (fun y6 => ?_)
        refine T_iinc (lv' := [(8, .int (x8 + (1 : Int32))), (4, .long y6), (0, .ref 81), (1, .int x1), (2, .int x2), (3, .int x3), (6, .long x6), (9, .long x9), (11, .int x11)]) 6 (1 : Int32) rfl (by decide) (Nat.le_of_ble_eq_true rfl) rfl dX8_meanOf_180 ?_
        refine T_li (fun y7 => ?_)
        refine T_goto 50 dX8_meanOf_183 (by decide) ?_
        exact T_sub [2, 3, 4, 5, 1, 6, 0] rfl (hk50 (y6, y7, m5))
      · refine T_lload 7 rfl dX8_meanOf_163 ?_
        refine T_aload_n 0 rfl rfl dX8_meanOf_165 ?_
        refine T_iconst (0 : Int32) (by decide) dX8_meanOf_166 ?_
        refine T_cVI (c := 8) [.int (0 : Int32)] [.long x9, .long x4] mkX8_homesOn lmX8_214 rfl rfl (by decide) (Nat.le_of_ble_eq_true rfl) kd_81 dX8_meanOf_167 (bsX8_homesOn _ (0 : Int32) m5) (fun z9 m8 => ?_)
        refine T_iload_n 2 rfl rfl dX8_meanOf_170 ?_
        refine T_iand dX8_meanOf_171 ?_
        refine T_cSI [.int (z9 &&& x2)] [.long x9, .long x4] mkX8_bitsOf lmX8_229 rfl (by decide) (Nat.le_of_ble_eq_true rfl) dX8_meanOf_172 (bsX8_bitsOf _ (z9 &&& x2) m8) (fun z12 m11 => ?_)
        refine T_i2l dX8_meanOf_175 ?_
        refine T_lmul dX8_meanOf_176 ?_
        refine T_ladd dX8_meanOf_177 ?_
        refine T_lstore (lv' := [(4, .long (x4 + (x9 * (z12).toInt64))), (0, .ref 81), (1, .int x1), (2, .int x2), (3, .int x3), (6, .long x6), (8, .int x8), (9, .long x9), (11, .int x11)]) (Nat.le_of_ble_eq_true rfl) rfl dX8_meanOf_178 ?_
        refine T_ll (fun y14 => ?_)
        refine T_iinc (lv' := [(8, .int (x8 + (1 : Int32))), (4, .long y14), (0, .ref 81), (1, .int x1), (2, .int x2), (3, .int x3), (6, .long x6), (9, .long x9), (11, .int x11)]) 6 (1 : Int32) rfl (by decide) (Nat.le_of_ble_eq_true rfl) rfl dX8_meanOf_180 ?_
        refine T_li (fun y15 => ?_)
        refine T_goto 50 dX8_meanOf_183 (by decide) ?_
        exact T_sub [2, 3, 4, 5, 1, 6, 0] rfl (hk50 (y14, y15, m11))
    · refine T_iload 6 rfl dX8_meanOf_76 ?_
      refine T_iload 8 rfl dX8_meanOf_78 ?_
      refine T_ishr dX8_meanOf_80 ?_
      refine T_iconst (1 : Int32) (by decide) dX8_meanOf_81 ?_
      refine T_iand dX8_meanOf_82 ?_
      refine T_iconst (1 : Int32) (by decide) dX8_meanOf_83 ?_
      refine T_icmp_ne 91 dX8_meanOf_84 (by decide) (fun _ => ?_) (fun _ => ?_)
      · refine T_iconst (1 : Int32) (by decide) dX8_meanOf_87 ?_
        refine T_goto 92 dX8_meanOf_88 (by decide) ?_
        exact T_sub [0, 1, 2, 3, 4, 5, 6, 7, 8] rfl (uX8_meanOf_92 X k50 k67 x1 x2 x3 x4 x6 x8 x9 x11 (1 : Int32) m hk50 hk67)
      · refine T_iconst (0 : Int32) (by decide) dX8_meanOf_91 ?_
        exact T_sub [0, 1, 2, 3, 4, 5, 6, 7, 8] rfl (uX8_meanOf_92 X k50 k67 x1 x2 x3 x4 x6 x8 x9 x11 (0 : Int32) m hk50 hk67))
def bX8_meanOf_50 (x1 : Int32) (x2 : Int32) (x3 : Int32) (x6 : Int64) (k50 : Int64 × Int32 × mMem → mR) (s : Int64 × Int32 × mMem) : mR := match s with
  | (x4, x8, m) => if ((1 : Int32) <<< ((m.1 81 2) &&& 31)) ≤ x8 then lt (si m 81 5 (0 : Int32)) (fun m1 => bL (fX8_lowest x4 x6 x3 m1) (fun z3 m2 => some (some (.long z3), m2))) else lp (bX8_meanOf_67 k50 x1 x2 x3 x4 x6 x8) FU ((1 : Int64), (0 : Int32), m)
set_option maxRecDepth 100000 in
theorem tX8_meanOf_50 (X : mCx) (x1 : Int32) (x2 : Int32) (x3 : Int32) (x6 : Int64)  : ∀ (n : Nat) (s : Int64 × Int32 × mMem), T qX8_meanOf X (lp (bX8_meanOf_50 x1 x2 x3 x6) n s) 50 [(0, .ref 81), (1, .int x1), (2, .int x2), (3, .int x3), (4, .long s.1), (6, .long x6), (8, .int s.2.1)] [] s.2.2 :=
  T_lp (body := bX8_meanOf_50 x1 x2 x3 x6) (lv := fun s => [(0, .ref 81), (1, .int x1), (2, .int x2), (3, .int x3), (4, .long s.1), (6, .long x6), (8, .int s.2.1)]) (st := fun _ => []) (μ := fun s : Int64 × Int32 × mMem => s.2.2) (fun k50 hk50 s => by
    obtain ⟨x4, x8, m⟩ := s
    show T qX8_meanOf X (bX8_meanOf_50 x1 x2 x3 x6 k50 (x4, x8, m)) 50 [(0, .ref 81), (1, .int x1), (2, .int x2), (3, .int x3), (4, .long x4), (6, .long x6), (8, .int x8)] [] m
    unfold bX8_meanOf_50
    dsimp only
    refine T_iload 6 rfl dX8_meanOf_50 ?_
    refine T_iconst (1 : Int32) (by decide) dX8_meanOf_52 ?_
    refine T_aload_n 0 rfl rfl dX8_meanOf_53 ?_
    refine gIX8_143 rfl kd_81 dX8_meanOf_54 ?_
    refine T_ishl dX8_meanOf_57 ?_
    refine T_icmp_ge 186 dX8_meanOf_58 (by decide) (fun _ => ?_) (fun _ => ?_)
    · refine T_aload_n 0 rfl rfl dX8_meanOf_186 ?_
      refine T_iconst (0 : Int32) (by decide) dX8_meanOf_187 ?_
      refine pIX8_155 rfl rfl rfl kd_81 dX8_meanOf_188 ?_
      refine T_lt (fun m1 => ?_)
      refine T_lload 4 rfl dX8_meanOf_191 ?_
      refine T_lload 5 rfl dX8_meanOf_193 ?_
      refine T_iload_n 3 rfl rfl dX8_meanOf_195 ?_
      refine T_cSL [.long x4, .long x6, .int x3] [] mkX8_lowest lmX8_235 rfl (by decide) (Nat.le_of_ble_eq_true rfl) dX8_meanOf_196 (bsX8_lowest _ x4 x6 x3 m1) (fun z3 m2 => ?_)
      exact T_lret rfl dX8_meanOf_199
    · refine T_lconst (1 : Int64) (by decide) dX8_meanOf_61 ?_
      refine T_lstore (lv' := [(9, .long (1 : Int64)), (0, .ref 81), (1, .int x1), (2, .int x2), (3, .int x3), (4, .long x4), (6, .long x6), (8, .int x8)]) (Nat.le_of_ble_eq_true rfl) rfl dX8_meanOf_62 ?_
      refine T_iconst (0 : Int32) (by decide) dX8_meanOf_64 ?_
      refine T_istore (lv' := [(11, .int (0 : Int32)), (9, .long (1 : Int64)), (0, .ref 81), (1, .int x1), (2, .int x2), (3, .int x3), (4, .long x4), (6, .long x6), (8, .int x8)]) (Nat.le_of_ble_eq_true rfl) rfl dX8_meanOf_65 ?_
      exact T_sub [2, 3, 4, 5, 6, 7, 8, 1, 0] rfl (tX8_meanOf_67 X k50 x1 x2 x3 x4 x6 x8 hk50 FU ((1 : Int64), (0 : Int32), m)))
def bX8_meanOf_9 (x1 : Int32) (x2 : Int32) (x3 : Int32) (x4 : Int64) (k9 : Int64 × Int32 × mMem → mR) (s : Int64 × Int32 × mMem) : mR := match s with
  | (x6, x8, m) => if (m.1 81 2) ≤ x8 then lp (bX8_meanOf_50 x1 x2 x3 x6) FU (x4, (0 : Int32), m) else ga x8 10 (if (m.1 83 (x8).toNatClampNeg) = (3 : Int32) then ll (x6 * (1 : Int64)) (fun y24 => li (x8 + (1 : Int32)) (fun y25 => k9 (y24, y25, m))) else ll (x6 * (10 : Int64)) (fun y26 => li (x8 + (1 : Int32)) (fun y27 => k9 (y26, y27, m))))
set_option maxRecDepth 100000 in
theorem tX8_meanOf_9 (X : mCx) (x1 : Int32) (x2 : Int32) (x3 : Int32) (x4 : Int64)  : ∀ (n : Nat) (s : Int64 × Int32 × mMem), T qX8_meanOf X (lp (bX8_meanOf_9 x1 x2 x3 x4) n s) 9 [(0, .ref 81), (1, .int x1), (2, .int x2), (3, .int x3), (4, .long x4), (6, .long s.1), (8, .int s.2.1)] [] s.2.2 :=
  T_lp (body := bX8_meanOf_9 x1 x2 x3 x4) (lv := fun s => [(0, .ref 81), (1, .int x1), (2, .int x2), (3, .int x3), (4, .long x4), (6, .long s.1), (8, .int s.2.1)]) (st := fun _ => []) (μ := fun s : Int64 × Int32 × mMem => s.2.2) (fun k9 hk9 s => by
    obtain ⟨x6, x8, m⟩ := s
    show T qX8_meanOf X (bX8_meanOf_9 x1 x2 x3 x4 k9 (x6, x8, m)) 9 [(0, .ref 81), (1, .int x1), (2, .int x2), (3, .int x3), (4, .long x4), (6, .long x6), (8, .int x8)] [] m
    unfold bX8_meanOf_9
    dsimp only
    refine T_iload 6 rfl dX8_meanOf_9 ?_
    refine T_aload_n 0 rfl rfl dX8_meanOf_11 ?_
    refine gIX8_143 rfl kd_81 dX8_meanOf_12 ?_
    refine T_icmp_ge 47 dX8_meanOf_15 (by decide) (fun _ => ?_) (fun _ => ?_)
    · refine T_iconst (0 : Int32) (by decide) dX8_meanOf_47 ?_
      refine T_istore (lv' := [(8, .int (0 : Int32)), (0, .ref 81), (1, .int x1), (2, .int x2), (3, .int x3), (4, .long x4), (6, .long x6)]) (Nat.le_of_ble_eq_true rfl) rfl dX8_meanOf_48 ?_
      exact T_sub [1, 2, 3, 4, 5, 6, 0] rfl (tX8_meanOf_50 X x1 x2 x3 x6  FU (x4, (0 : Int32), m))
    · refine T_lload 5 rfl dX8_meanOf_18 ?_
      refine T_aload_n 0 rfl rfl dX8_meanOf_20 ?_
      refine gRX8_13 rfl kd_81 83 rfl dX8_meanOf_21 ?_
      refine T_iload 6 rfl dX8_meanOf_24 ?_
      refine T_iald kd_83 dX8_meanOf_26 ?_
      refine T_iconst (3 : Int32) (by decide) dX8_meanOf_27 ?_
      refine T_icmp_ne 35 dX8_meanOf_28 (by decide) (fun _ => ?_) (fun _ => ?_)
      · refine T_lconst (1 : Int64) (by decide) dX8_meanOf_31 ?_
        refine T_goto 38 dX8_meanOf_32 (by decide) ?_
        refine T_lmul dX8_meanOf_38 ?_
        refine T_lstore (lv' := [(6, .long (x6 * (1 : Int64))), (0, .ref 81), (1, .int x1), (2, .int x2), (3, .int x3), (4, .long x4), (8, .int x8)]) (Nat.le_of_ble_eq_true rfl) rfl dX8_meanOf_39 ?_
        refine T_ll (fun y24 => ?_)
        refine T_iinc (lv' := [(8, .int (x8 + (1 : Int32))), (6, .long y24), (0, .ref 81), (1, .int x1), (2, .int x2), (3, .int x3), (4, .long x4)]) 6 (1 : Int32) rfl (by decide) (Nat.le_of_ble_eq_true rfl) rfl dX8_meanOf_41 ?_
        refine T_li (fun y25 => ?_)
        refine T_goto 9 dX8_meanOf_44 (by decide) ?_
        exact T_sub [2, 3, 4, 5, 6, 1, 0] rfl (hk9 (y24, y25, m))
      · refine T_ldc2 lcX8_201 dX8_meanOf_35 ?_
        refine T_lmul dX8_meanOf_38 ?_
        refine T_lstore (lv' := [(6, .long (x6 * (10 : Int64))), (0, .ref 81), (1, .int x1), (2, .int x2), (3, .int x3), (4, .long x4), (8, .int x8)]) (Nat.le_of_ble_eq_true rfl) rfl dX8_meanOf_39 ?_
        refine T_ll (fun y26 => ?_)
        refine T_iinc (lv' := [(8, .int (x8 + (1 : Int32))), (6, .long y26), (0, .ref 81), (1, .int x1), (2, .int x2), (3, .int x3), (4, .long x4)]) 6 (1 : Int32) rfl (by decide) (Nat.le_of_ble_eq_true rfl) rfl dX8_meanOf_41 ?_
        refine T_li (fun y27 => ?_)
        refine T_goto 9 dX8_meanOf_44 (by decide) ?_
        exact T_sub [2, 3, 4, 5, 6, 1, 0] rfl (hk9 (y26, y27, m)))
def fX8_meanOf (x1 : Int32) (x2 : Int32) (x3 : Int32) (m : mMem) : mR := lp (bX8_meanOf_9 x1 x2 x3 (0 : Int64)) FU ((1 : Int64), (0 : Int32), m)
set_option maxRecDepth 100000 in
theorem bsX8_meanOf (l : Launch) (x1 : Int32) (x2 : Int32) (x3 : Int32) (m : mMem)  : BS l qX8_meanOf [.ref 81, .int x1, .int x2, .int x3] m (fX8_meanOf x1 x2 x3 m) := BS_of (by decide) (Nat.le_of_ble_eq_true rfl) (fun X _ => by
    show T qX8_meanOf X (fX8_meanOf x1 x2 x3 m) 0 [(0, .ref 81), (1, .int x1), (2, .int x2), (3, .int x3)] [] m
    unfold fX8_meanOf
    refine T_lconst (0 : Int64) (by decide) dX8_meanOf_0 ?_
    refine T_lstore (lv' := [(4, .long (0 : Int64)), (0, .ref 81), (1, .int x1), (2, .int x2), (3, .int x3)]) (Nat.le_of_ble_eq_true rfl) rfl dX8_meanOf_1 ?_
    refine T_lconst (1 : Int64) (by decide) dX8_meanOf_3 ?_
    refine T_lstore (lv' := [(6, .long (1 : Int64)), (4, .long (0 : Int64)), (0, .ref 81), (1, .int x1), (2, .int x2), (3, .int x3)]) (Nat.le_of_ble_eq_true rfl) rfl dX8_meanOf_4 ?_
    refine T_iconst (0 : Int32) (by decide) dX8_meanOf_6 ?_
    refine T_istore (lv' := [(8, .int (0 : Int32)), (6, .long (1 : Int64)), (4, .long (0 : Int64)), (0, .ref 81), (1, .int x1), (2, .int x2), (3, .int x3)]) (Nat.le_of_ble_eq_true rfl) rfl dX8_meanOf_7 ?_
    exact T_sub [3, 4, 5, 6, 2, 1, 0] rfl (tX8_meanOf_9 X x1 x2 x3 (0 : Int64)  FU ((1 : Int64), (0 : Int32), m)))
theorem lmX8_226 : Cond.methodLink RX8 226 yX8_brokenOn ∈ gdL := gd_mem 1193 (by decide +kernel) (by decide +kernel)
theorem lcX8_256 : Cond.constant RX8 256 (1103515245) ∈ gdL := gd_mem 1281 (by decide +kernel) (by decide +kernel)
def bX8_drift_51 (x2 : Int32) (x3 : Int32) (k51 : Int32 × Int32 × Int32 × mMem → mR) (s : Int32 × Int32 × Int32 × mMem) : mR := match s with
  | (x4, x5, x6, m) => if x2 ≤ x6 then if x3 = (0 : Int32) then some (some (.int x5), m) else bI (fX8_brokenOn (140 : Int32) m) (fun z9 m8 => some (some (.int z9), m8)) else li ((x4 * (1103515245 : Int32)) + (12345 : Int32)) (fun y11 => g0i (m.1 81 4) (bI (fX8_goes (140 : Int32) (((y11 >>> ((16 : Int32) &&& 31)) &&& (32767 : Int32)) - ((y11 >>> ((16 : Int32) &&& 31)) &&& (32767 : Int32)) / (m.1 81 4) * (m.1 81 4)) m) (fun z13 m12 => if z13 = (0 : Int32) then li (x5 + (0 : Int32)) (fun y15 => li (x6 + (1 : Int32)) (fun y16 => k51 (y11, y15, y16, m12))) else li (x5 + (1 : Int32)) (fun y17 => li (x6 + (1 : Int32)) (fun y18 => k51 (y11, y17, y18, m12))))))
set_option maxRecDepth 100000 in
theorem tX8_drift_51 (X : mCx) (x2 : Int32) (x3 : Int32)  : ∀ (n : Nat) (s : Int32 × Int32 × Int32 × mMem), T qX8_drift X (lp (bX8_drift_51 x2 x3) n s) 51 [(0, .ref 81), (2, .int x2), (3, .int x3), (4, .int s.1), (5, .int s.2.1), (6, .int s.2.2.1)] [] s.2.2.2 :=
  T_lp (body := bX8_drift_51 x2 x3) (lv := fun s => [(0, .ref 81), (2, .int x2), (3, .int x3), (4, .int s.1), (5, .int s.2.1), (6, .int s.2.2.1)]) (st := fun _ => []) (μ := fun s : Int32 × Int32 × Int32 × mMem => s.2.2.2) (fun k51 hk51 s => by
    obtain ⟨x4, x5, x6, m⟩ := s
    show T qX8_drift X (bX8_drift_51 x2 x3 k51 (x4, x5, x6, m)) 51 [(0, .ref 81), (2, .int x2), (3, .int x3), (4, .int x4), (5, .int x5), (6, .int x6)] [] m
    unfold bX8_drift_51
    dsimp only
    refine T_iload 5 rfl dX8_drift_51 ?_
    refine T_iload_n 1 rfl rfl dX8_drift_53 ?_
    refine T_icmp_ge 109 dX8_drift_54 (by decide) (fun _ => ?_) (fun _ => ?_)
    · refine T_iload_n 2 rfl rfl dX8_drift_109 ?_
      refine T_if_ne 118 dX8_drift_110 (by decide) (fun _ => ?_) (fun _ => ?_)
      · refine T_iload 4 rfl dX8_drift_113 ?_
        refine T_goto 125 dX8_drift_115 (by decide) ?_
        exact T_iret rfl dX8_drift_125
      · refine T_aload_n 0 rfl rfl dX8_drift_118 ?_
        refine T_sipush (140 : Int32) (by decide) dX8_drift_119 ?_
        refine T_cVI (c := 8) [.int (140 : Int32)] [] mkX8_brokenOn lmX8_226 rfl rfl (by decide) (Nat.le_of_ble_eq_true rfl) kd_81 dX8_drift_122 (bsX8_brokenOn _ (140 : Int32) m) (fun z9 m8 => ?_)
        exact T_iret rfl dX8_drift_125
    · refine T_iload 3 rfl dX8_drift_57 ?_
      refine T_ldcw lcX8_256 dX8_drift_59 ?_
      refine T_imul dX8_drift_62 ?_
      refine T_sipush (12345 : Int32) (by decide) dX8_drift_63 ?_
      refine T_iadd dX8_drift_66 ?_
      refine T_istore (lv' := [(4, .int ((x4 * (1103515245 : Int32)) + (12345 : Int32))), (0, .ref 81), (2, .int x2), (3, .int x3), (5, .int x5), (6, .int x6)]) (Nat.le_of_ble_eq_true rfl) rfl dX8_drift_67 ?_
      refine T_li (fun y11 => ?_)
      refine T_iload 4 rfl dX8_drift_69 ?_
      refine T_aload_n 1 rfl rfl dX8_drift_71 ?_
      refine T_sipush (140 : Int32) (by decide) dX8_drift_72 ?_
      refine T_iload 0 rfl dX8_drift_75 ?_
      refine T_bipush (16 : Int32) (by decide) dX8_drift_77 ?_
      refine T_ishr dX8_drift_79 ?_
      refine T_sipush (32767 : Int32) (by decide) dX8_drift_80 ?_
      refine T_iand dX8_drift_83 ?_
      refine T_aload_n 1 rfl rfl dX8_drift_84 ?_
      refine gIX8_146 rfl kd_81 dX8_drift_85 ?_
      refine T_irem (x := ((y11 >>> ((16 : Int32) &&& 31)) &&& (32767 : Int32))) (y := (m.1 81 4)) dX8_drift_88 ?_
      refine T_cVI (c := 8) [.int (140 : Int32), .int (((y11 >>> ((16 : Int32) &&& 31)) &&& (32767 : Int32)) - ((y11 >>> ((16 : Int32) &&& 31)) &&& (32767 : Int32)) / (m.1 81 4) * (m.1 81 4))] [.int x5] mkX8_goes lmX8_217 rfl rfl (by decide) (Nat.le_of_ble_eq_true rfl) kd_81 dX8_drift_89 (bsX8_goes _ (140 : Int32) (((y11 >>> ((16 : Int32) &&& 31)) &&& (32767 : Int32)) - ((y11 >>> ((16 : Int32) &&& 31)) &&& (32767 : Int32)) / (m.1 81 4) * (m.1 81 4)) m) (fun z13 m12 => ?_)
      refine T_if_eq 99 dX8_drift_92 (by decide) (fun _ => ?_) (fun _ => ?_)
      · refine T_iconst (0 : Int32) (by decide) dX8_drift_99 ?_
        refine T_iadd dX8_drift_100 ?_
        refine T_istore (lv' := [(5, .int (x5 + (0 : Int32))), (4, .int y11), (0, .ref 81), (2, .int x2), (3, .int x3), (6, .int x6)]) (Nat.le_of_ble_eq_true rfl) rfl dX8_drift_101 ?_
        refine T_li (fun y15 => ?_)
        refine T_iinc (lv' := [(6, .int (x6 + (1 : Int32))), (5, .int y15), (4, .int y11), (0, .ref 81), (2, .int x2), (3, .int x3)]) 5 (1 : Int32) rfl (by decide) (Nat.le_of_ble_eq_true rfl) rfl dX8_drift_103 ?_
        refine T_li (fun y16 => ?_)
        refine T_goto 51 dX8_drift_106 (by decide) ?_
        exact T_sub [3, 4, 5, 2, 1, 0] rfl (hk51 (y11, y15, y16, m12))
      · refine T_iconst (1 : Int32) (by decide) dX8_drift_95 ?_
        refine T_goto 100 dX8_drift_96 (by decide) ?_
        refine T_iadd dX8_drift_100 ?_
        refine T_istore (lv' := [(5, .int (x5 + (1 : Int32))), (4, .int y11), (0, .ref 81), (2, .int x2), (3, .int x3), (6, .int x6)]) (Nat.le_of_ble_eq_true rfl) rfl dX8_drift_101 ?_
        refine T_li (fun y17 => ?_)
        refine T_iinc (lv' := [(6, .int (x6 + (1 : Int32))), (5, .int y17), (4, .int y11), (0, .ref 81), (2, .int x2), (3, .int x3)]) 5 (1 : Int32) rfl (by decide) (Nat.le_of_ble_eq_true rfl) rfl dX8_drift_103 ?_
        refine T_li (fun y18 => ?_)
        refine T_goto 51 dX8_drift_106 (by decide) ?_
        exact T_sub [3, 4, 5, 2, 1, 0] rfl (hk51 (y11, y17, y18, m12)))
def fX8_drift (x1 : Int32) (x2 : Int32) (x3 : Int32) (m : mMem) : mR := bI (fX8_in (x2).toInt64 (1 : Int64) (60 : Int64) m) (fun z2 m1 => if z2 = (0 : Int32) then some (some (.int (-1 : Int32)), m1) else bI (fX8_in (x3).toInt64 (0 : Int64) (1 : Int64) m1) (fun z5 m4 => if z5 = (0 : Int32) then some (some (.int (-1 : Int32)), m4) else if (m4.1 81 4) = (0 : Int32) then some (some (.int (-2 : Int32)), m4) else bV (fX8_copies (0 : Int32) (140 : Int32) m4) (fun m7 => lp (bX8_drift_51 x2 x3) FU (x1, (0 : Int32), (0 : Int32), m7))))
set_option maxRecDepth 100000 in
theorem bsX8_drift (l : Launch) (x1 : Int32) (x2 : Int32) (x3 : Int32) (m : mMem)  : BS l qX8_drift [.ref 81, .int x1, .int x2, .int x3] m (fX8_drift x1 x2 x3 m) := BS_of (by decide) (Nat.le_of_ble_eq_true rfl) (fun X _ => by
    show T qX8_drift X (fX8_drift x1 x2 x3 m) 0 [(0, .ref 81), (1, .int x1), (2, .int x2), (3, .int x3)] [] m
    unfold fX8_drift
    refine T_iload_n 2 rfl rfl dX8_drift_0 ?_
    refine T_i2l dX8_drift_1 ?_
    refine T_lconst (1 : Int64) (by decide) dX8_drift_2 ?_
    refine T_ldc2 lcX8_185 dX8_drift_3 ?_
    refine T_cSI [.long (x2).toInt64, .long (1 : Int64), .long (60 : Int64)] [] mkX8_in lmX8_67 rfl (by decide) (Nat.le_of_ble_eq_true rfl) dX8_drift_6 (bsX8_in _ (x2).toInt64 (1 : Int64) (60 : Int64) m) (fun z2 m1 => ?_)
    refine T_if_eq 22 dX8_drift_9 (by decide) (fun _ => ?_) (fun _ => ?_)
    · refine T_iconst (-1 : Int32) (by decide) dX8_drift_22 ?_
      exact T_iret rfl dX8_drift_23
    · refine T_iload_n 3 rfl rfl dX8_drift_12 ?_
      refine T_i2l dX8_drift_13 ?_
      refine T_lconst (0 : Int64) (by decide) dX8_drift_14 ?_
      refine T_lconst (1 : Int64) (by decide) dX8_drift_15 ?_
      refine T_cSI [.long (x3).toInt64, .long (0 : Int64), .long (1 : Int64)] [] mkX8_in lmX8_67 rfl (by decide) (Nat.le_of_ble_eq_true rfl) dX8_drift_16 (bsX8_in _ (x3).toInt64 (0 : Int64) (1 : Int64) m1) (fun z5 m4 => ?_)
      refine T_if_ne 24 dX8_drift_19 (by decide) (fun _ => ?_) (fun _ => ?_)
      · refine T_iconst (-1 : Int32) (by decide) dX8_drift_22 ?_
        exact T_iret rfl dX8_drift_23
      · refine T_aload_n 0 rfl rfl dX8_drift_24 ?_
        refine gIX8_146 rfl kd_81 dX8_drift_25 ?_
        refine T_if_ne 34 dX8_drift_28 (by decide) (fun _ => ?_) (fun _ => ?_)
        · refine T_bipush (-2 : Int32) (by decide) dX8_drift_31 ?_
          exact T_iret rfl dX8_drift_33
        · refine T_aload_n 0 rfl rfl dX8_drift_34 ?_
          refine T_iconst (0 : Int32) (by decide) dX8_drift_35 ?_
          refine T_sipush (140 : Int32) (by decide) dX8_drift_36 ?_
          refine T_cVV (c := 8) [.int (0 : Int32), .int (140 : Int32)] [] mkX8_copies lmX8_223 rfl rfl (by decide) (Nat.le_of_ble_eq_true rfl) kd_81 dX8_drift_39 (bsX8_copies _ (0 : Int32) (140 : Int32) m4) (fun m7 => ?_)
          refine T_iload_n 1 rfl rfl dX8_drift_42 ?_
          refine T_istore (lv' := [(4, .int x1), (0, .ref 81), (1, .int x1), (2, .int x2), (3, .int x3)]) (Nat.le_of_ble_eq_true rfl) rfl dX8_drift_43 ?_
          refine T_iconst (0 : Int32) (by decide) dX8_drift_45 ?_
          refine T_istore (lv' := [(5, .int (0 : Int32)), (4, .int x1), (0, .ref 81), (1, .int x1), (2, .int x2), (3, .int x3)]) (Nat.le_of_ble_eq_true rfl) rfl dX8_drift_46 ?_
          refine T_iconst (0 : Int32) (by decide) dX8_drift_48 ?_
          refine T_istore (lv' := [(6, .int (0 : Int32)), (5, .int (0 : Int32)), (4, .int x1), (0, .ref 81), (1, .int x1), (2, .int x2), (3, .int x3)]) (Nat.le_of_ble_eq_true rfl) rfl dX8_drift_49 ?_
          exact T_sub [3, 5, 6, 2, 1, 0] rfl (tX8_drift_51 X x2 x3  FU (x1, (0 : Int32), (0 : Int32), m7)))
theorem lcX8_259 : Cond.constantLong RX8 259 (20) ∈ gdL := gd_mem 1303 (by decide +kernel) (by decide +kernel)
def jX8_read_162 (x6 : Int32) (m : mMem) : mR := bV (fX8_copies (105 : Int32) (0 : Int32) m) (fun m16 => some (some (.int ((-20 : Int32) - x6)), m16))
set_option maxRecDepth 100000 in
theorem uX8_read_162 (X : mCx) (x6 : Int32) (m : mMem)  : T qX8_read X (jX8_read_162 x6 m) 162 [(0, .ref 81), (6, .int x6)] [] m := by
  unfold jX8_read_162
  refine T_aload_n 0 rfl rfl dX8_read_162 ?_
  refine T_bipush (105 : Int32) (by decide) dX8_read_163 ?_
  refine T_iconst (0 : Int32) (by decide) dX8_read_165 ?_
  refine T_cVV (c := 8) [.int (105 : Int32), .int (0 : Int32)] [] mkX8_copies lmX8_223 rfl rfl (by decide) (Nat.le_of_ble_eq_true rfl) kd_81 dX8_read_166 (bsX8_copies _ (105 : Int32) (0 : Int32) m) (fun m16 => ?_)
  refine T_bipush (-20 : Int32) (by decide) dX8_read_169 ?_
  refine T_iload 1 rfl dX8_read_171 ?_
  refine T_isub dX8_read_173 ?_
  exact T_iret rfl dX8_read_174
def jX8_read_120 (k52 : Int32 × Int32 × mMem → mR) (x1 : Int32) (x2 : Int32) (x3 : Int32) (x4 : Int32) (x6 : Int32) (xs0 : Int32) (m : mMem) : mR := if xs0 = (0 : Int32) then ga ((((40 : Int32) * x1) + x3) + x6) 160 (li (m.1 99 (((((40 : Int32) * x1) + x3) + x6)).toNatClampNeg) (fun y12 => bI (fX8_isLodger y12 m) (fun z14 m13 => if z14 = (0 : Int32) then jX8_read_162 x6 m13 else bI (fX8_goes (0 : Int32) y12 m13) (fun z18 m17 => if z18 = (0 : Int32) then jX8_read_162 x6 m17 else li (x6 + (1 : Int32)) (fun y20 => k52 (xs0, y20, m17)))))) else k52 (xs0, x6, m)
set_option maxRecDepth 100000 in
theorem uX8_read_120 (X : mCx) (k52 : Int32 × Int32 × mMem → mR) (x1 : Int32) (x2 : Int32) (x3 : Int32) (x4 : Int32) (x6 : Int32) (xs0 : Int32) (m : mMem) (hk52 : ∀ s : Int32 × Int32 × mMem, T qX8_read X (k52 s) 52 [(0, .ref 81), (1, .int x1), (2, .int x2), (3, .int x3), (4, .int x4), (5, .int s.1), (6, .int s.2.1)] [] s.2.2) : T qX8_read X (jX8_read_120 k52 x1 x2 x3 x4 x6 xs0 m) 120 [(0, .ref 81), (1, .int x1), (2, .int x2), (3, .int x3), (4, .int x4), (6, .int x6)] [.int xs0] m := by
  unfold jX8_read_120
  refine T_istore (lv' := [(5, .int xs0), (0, .ref 81), (1, .int x1), (2, .int x2), (3, .int x3), (4, .int x4), (6, .int x6)]) (Nat.le_of_ble_eq_true rfl) rfl dX8_read_120 ?_
  refine T_iload 0 rfl dX8_read_122 ?_
  refine T_if_ne 52 dX8_read_124 (by decide) (fun _ => ?_) (fun _ => ?_)
  · refine T_aload_n 1 rfl rfl dX8_read_127 ?_
    refine gRX8_62 rfl kd_81 99 rfl dX8_read_128 ?_
    refine T_bipush (40 : Int32) (by decide) dX8_read_131 ?_
    refine T_iload_n 2 rfl rfl dX8_read_133 ?_
    refine T_imul dX8_read_134 ?_
    refine T_iload_n 4 rfl rfl dX8_read_135 ?_
    refine T_iadd dX8_read_136 ?_
    refine T_iload 6 rfl dX8_read_137 ?_
    refine T_iadd dX8_read_139 ?_
    refine T_iald kd_99 dX8_read_140 ?_
    refine T_istore (lv' := [(7, .int (m.1 99 (((((40 : Int32) * x1) + x3) + x6)).toNatClampNeg)), (5, .int xs0), (0, .ref 81), (1, .int x1), (2, .int x2), (3, .int x3), (4, .int x4), (6, .int x6)]) (Nat.le_of_ble_eq_true rfl) rfl dX8_read_141 ?_
    refine T_li (fun y12 => ?_)
    refine T_aload_n 2 rfl rfl dX8_read_143 ?_
    refine T_iload 0 rfl dX8_read_144 ?_
    refine T_cVI (c := 8) [.int y12] [] mkX8_isLodger lmX8_176 rfl rfl (by decide) (Nat.le_of_ble_eq_true rfl) kd_81 dX8_read_146 (bsX8_isLodger _ y12 m) (fun z14 m13 => ?_)
    refine T_if_eq 162 dX8_read_149 (by decide) (fun _ => ?_) (fun _ => ?_)
    · exact T_sub [2, 7] rfl (uX8_read_162 X x6 m13 )
    · refine T_aload_n 2 rfl rfl dX8_read_152 ?_
      refine T_iconst (0 : Int32) (by decide) dX8_read_153 ?_
      refine T_iload 0 rfl dX8_read_154 ?_
      refine T_cVI (c := 8) [.int (0 : Int32), .int y12] [] mkX8_goes lmX8_217 rfl rfl (by decide) (Nat.le_of_ble_eq_true rfl) kd_81 dX8_read_156 (bsX8_goes _ (0 : Int32) y12 m13) (fun z18 m17 => ?_)
      refine T_if_ne 175 dX8_read_159 (by decide) (fun _ => ?_) (fun _ => ?_)
      · exact T_sub [2, 7] rfl (uX8_read_162 X x6 m17 )
      · refine T_iinc (lv' := [(6, .int (x6 + (1 : Int32))), (7, .int y12), (5, .int xs0), (0, .ref 81), (1, .int x1), (2, .int x2), (3, .int x3), (4, .int x4)]) 7 (1 : Int32) rfl (by decide) (Nat.le_of_ble_eq_true rfl) rfl dX8_read_175 ?_
        refine T_li (fun y20 => ?_)
        refine T_goto 52 dX8_read_178 (by decide) ?_
        exact T_sub [3, 4, 5, 6, 7, 2, 0] rfl (hk52 (xs0, y20, m17))
  · exact T_sub [1, 2, 3, 4, 5, 0, 6] rfl (hk52 (xs0, x6, m))
def bX8_read_52 (x1 : Int32) (x2 : Int32) (x3 : Int32) (x4 : Int32) (k52 : Int32 × Int32 × mMem → mR) (s : Int32 × Int32 × mMem) : mR := match s with
  | (x5, x6, m) => if x4 ≤ x6 then lt (si m 81 34 x5) (fun m11 => some (some (.int x6), m11)) else if x5 = (0 : Int32) then ga x1 4 (if (m.1 97 (x1).toNatClampNeg) = (-4 : Int32) then jX8_read_120 k52 x1 x2 x3 x4 x6 (1 : Int32) m else ga x1 4 (if (m.1 97 (x1).toNatClampNeg) = x2 then ga x1 4 (bI (fX8_in ((x3).toInt64 + (x6).toInt64) (0 : Int64) (((m.1 98 (x1).toNatClampNeg) - (1 : Int32))).toInt64 m) (fun z22 m21 => if z22 = (0 : Int32) then jX8_read_120 k52 x1 x2 x3 x4 x6 (2 : Int32) m21 else jX8_read_120 k52 x1 x2 x3 x4 x6 (0 : Int32) m21)) else jX8_read_120 k52 x1 x2 x3 x4 x6 (3 : Int32) m)) else lt (si m 81 34 x5) (fun m24 => some (some (.int x6), m24))
set_option maxRecDepth 100000 in
theorem tX8_read_52 (X : mCx) (x1 : Int32) (x2 : Int32) (x3 : Int32) (x4 : Int32)  : ∀ (n : Nat) (s : Int32 × Int32 × mMem), T qX8_read X (lp (bX8_read_52 x1 x2 x3 x4) n s) 52 [(0, .ref 81), (1, .int x1), (2, .int x2), (3, .int x3), (4, .int x4), (5, .int s.1), (6, .int s.2.1)] [] s.2.2 :=
  T_lp (body := bX8_read_52 x1 x2 x3 x4) (lv := fun s => [(0, .ref 81), (1, .int x1), (2, .int x2), (3, .int x3), (4, .int x4), (5, .int s.1), (6, .int s.2.1)]) (st := fun _ => []) (μ := fun s : Int32 × Int32 × mMem => s.2.2) (fun k52 hk52 s => by
    obtain ⟨x5, x6, m⟩ := s
    show T qX8_read X (bX8_read_52 x1 x2 x3 x4 k52 (x5, x6, m)) 52 [(0, .ref 81), (1, .int x1), (2, .int x2), (3, .int x3), (4, .int x4), (5, .int x5), (6, .int x6)] [] m
    unfold bX8_read_52
    dsimp only
    refine T_iload 6 rfl dX8_read_52 ?_
    refine T_iload 4 rfl dX8_read_54 ?_
    refine T_icmp_ge 181 dX8_read_56 (by decide) (fun _ => ?_) (fun _ => ?_)
    · refine T_aload_n 0 rfl rfl dX8_read_181 ?_
      refine T_iload 5 rfl dX8_read_182 ?_
      refine pIX8_261 rfl rfl rfl kd_81 dX8_read_184 ?_
      refine T_lt (fun m11 => ?_)
      refine T_iload 6 rfl dX8_read_187 ?_
      exact T_iret rfl dX8_read_189
    · refine T_iload 5 rfl dX8_read_59 ?_
      refine T_if_ne 181 dX8_read_61 (by decide) (fun _ => ?_) (fun _ => ?_)
      · refine T_aload_n 0 rfl rfl dX8_read_64 ?_
        refine gRX8_56 rfl kd_81 97 rfl dX8_read_65 ?_
        refine T_iload_n 1 rfl rfl dX8_read_68 ?_
        refine T_iald kd_97 dX8_read_69 ?_
        refine T_bipush (-4 : Int32) (by decide) dX8_read_70 ?_
        refine T_icmp_ne 79 dX8_read_72 (by decide) (fun _ => ?_) (fun _ => ?_)
        · refine T_iconst (1 : Int32) (by decide) dX8_read_75 ?_
          refine T_goto 120 dX8_read_76 (by decide) ?_
          exact T_sub [0, 1, 2, 3, 4, 6] rfl (uX8_read_120 X k52 x1 x2 x3 x4 x6 (1 : Int32) m hk52)
        · refine T_aload_n 0 rfl rfl dX8_read_79 ?_
          refine gRX8_56 rfl kd_81 97 rfl dX8_read_80 ?_
          refine T_iload_n 1 rfl rfl dX8_read_83 ?_
          refine T_iald kd_97 dX8_read_84 ?_
          refine T_iload_n 2 rfl rfl dX8_read_85 ?_
          refine T_icmp_eq 93 dX8_read_86 (by decide) (fun _ => ?_) (fun _ => ?_)
          · refine T_iload_n 3 rfl rfl dX8_read_93 ?_
            refine T_i2l dX8_read_94 ?_
            refine T_iload 6 rfl dX8_read_95 ?_
            refine T_i2l dX8_read_97 ?_
            refine T_ladd dX8_read_98 ?_
            refine T_lconst (0 : Int64) (by decide) dX8_read_99 ?_
            refine T_aload_n 0 rfl rfl dX8_read_100 ?_
            refine gRX8_59 rfl kd_81 98 rfl dX8_read_101 ?_
            refine T_iload_n 1 rfl rfl dX8_read_104 ?_
            refine T_iald kd_98 dX8_read_105 ?_
            refine T_iconst (1 : Int32) (by decide) dX8_read_106 ?_
            refine T_isub dX8_read_107 ?_
            refine T_i2l dX8_read_108 ?_
            refine T_cSI [.long ((x3).toInt64 + (x6).toInt64), .long (0 : Int64), .long (((m.1 98 (x1).toNatClampNeg) - (1 : Int32))).toInt64] [] mkX8_in lmX8_67 rfl (by decide) (Nat.le_of_ble_eq_true rfl) dX8_read_109 (bsX8_in _ ((x3).toInt64 + (x6).toInt64) (0 : Int64) (((m.1 98 (x1).toNatClampNeg) - (1 : Int32))).toInt64 m) (fun z22 m21 => ?_)
            refine T_if_ne 119 dX8_read_112 (by decide) (fun _ => ?_) (fun _ => ?_)
            · refine T_iconst (2 : Int32) (by decide) dX8_read_115 ?_
              refine T_goto 120 dX8_read_116 (by decide) ?_
              exact T_sub [0, 1, 2, 3, 4, 6] rfl (uX8_read_120 X k52 x1 x2 x3 x4 x6 (2 : Int32) m21 hk52)
            · refine T_iconst (0 : Int32) (by decide) dX8_read_119 ?_
              exact T_sub [0, 1, 2, 3, 4, 6] rfl (uX8_read_120 X k52 x1 x2 x3 x4 x6 (0 : Int32) m21 hk52)
          · refine T_iconst (3 : Int32) (by decide) dX8_read_89 ?_
            refine T_goto 120 dX8_read_90 (by decide) ?_
            exact T_sub [0, 1, 2, 3, 4, 6] rfl (uX8_read_120 X k52 x1 x2 x3 x4 x6 (3 : Int32) m hk52)
      · refine T_aload_n 0 rfl rfl dX8_read_181 ?_
        refine T_iload 5 rfl dX8_read_182 ?_
        refine pIX8_261 rfl rfl rfl kd_81 dX8_read_184 ?_
        refine T_lt (fun m24 => ?_)
        refine T_iload 6 rfl dX8_read_187 ?_
        exact T_iret rfl dX8_read_189)
def fX8_read (x1 : Int32) (x2 : Int32) (x3 : Int32) (x4 : Int32) (m : mMem) : mR := bI (fX8_in (x1).toInt64 (0 : Int64) (3 : Int64) m) (fun z2 m1 => if z2 = (0 : Int32) then some (some (.int (-1 : Int32)), m1) else bI (fX8_in (x2).toInt64 (0 : Int64) (2 : Int64) m1) (fun z5 m4 => if z5 = (0 : Int32) then some (some (.int (-1 : Int32)), m4) else bI (fX8_in (x4).toInt64 (0 : Int64) (20 : Int64) m4) (fun z8 m7 => if z8 = (0 : Int32) then some (some (.int (-1 : Int32)), m7) else bV (fX8_copies (0 : Int32) (105 : Int32) m7) (fun m10 => lp (bX8_read_52 x1 x2 x3 x4) FU ((0 : Int32), (0 : Int32), m10)))))
set_option maxRecDepth 100000 in
theorem bsX8_read (l : Launch) (x1 : Int32) (x2 : Int32) (x3 : Int32) (x4 : Int32) (m : mMem)  : BS l qX8_read [.ref 81, .int x1, .int x2, .int x3, .int x4] m (fX8_read x1 x2 x3 x4 m) := BS_of (by decide) (Nat.le_of_ble_eq_true rfl) (fun X _ => by
    show T qX8_read X (fX8_read x1 x2 x3 x4 m) 0 [(0, .ref 81), (1, .int x1), (2, .int x2), (3, .int x3), (4, .int x4)] [] m
    unfold fX8_read
    refine T_iload_n 1 rfl rfl dX8_read_0 ?_
    refine T_i2l dX8_read_1 ?_
    refine T_lconst (0 : Int64) (by decide) dX8_read_2 ?_
    refine T_ldc2 lcX8_193 dX8_read_3 ?_
    refine T_cSI [.long (x1).toInt64, .long (0 : Int64), .long (3 : Int64)] [] mkX8_in lmX8_67 rfl (by decide) (Nat.le_of_ble_eq_true rfl) dX8_read_6 (bsX8_in _ (x1).toInt64 (0 : Int64) (3 : Int64) m) (fun z2 m1 => ?_)
    refine T_if_eq 37 dX8_read_9 (by decide) (fun _ => ?_) (fun _ => ?_)
    · refine T_iconst (-1 : Int32) (by decide) dX8_read_37 ?_
      exact T_iret rfl dX8_read_38
    · refine T_iload_n 2 rfl rfl dX8_read_12 ?_
      refine T_i2l dX8_read_13 ?_
      refine T_lconst (0 : Int64) (by decide) dX8_read_14 ?_
      refine T_ldc2 lcX8_257 dX8_read_15 ?_
      refine T_cSI [.long (x2).toInt64, .long (0 : Int64), .long (2 : Int64)] [] mkX8_in lmX8_67 rfl (by decide) (Nat.le_of_ble_eq_true rfl) dX8_read_18 (bsX8_in _ (x2).toInt64 (0 : Int64) (2 : Int64) m1) (fun z5 m4 => ?_)
      refine T_if_eq 37 dX8_read_21 (by decide) (fun _ => ?_) (fun _ => ?_)
      · refine T_iconst (-1 : Int32) (by decide) dX8_read_37 ?_
        exact T_iret rfl dX8_read_38
      · refine T_iload 4 rfl dX8_read_24 ?_
        refine T_i2l dX8_read_26 ?_
        refine T_lconst (0 : Int64) (by decide) dX8_read_27 ?_
        refine T_ldc2 lcX8_259 dX8_read_28 ?_
        refine T_cSI [.long (x4).toInt64, .long (0 : Int64), .long (20 : Int64)] [] mkX8_in lmX8_67 rfl (by decide) (Nat.le_of_ble_eq_true rfl) dX8_read_31 (bsX8_in _ (x4).toInt64 (0 : Int64) (20 : Int64) m4) (fun z8 m7 => ?_)
        refine T_if_ne 39 dX8_read_34 (by decide) (fun _ => ?_) (fun _ => ?_)
        · refine T_iconst (-1 : Int32) (by decide) dX8_read_37 ?_
          exact T_iret rfl dX8_read_38
        · refine T_aload_n 0 rfl rfl dX8_read_39 ?_
          refine T_iconst (0 : Int32) (by decide) dX8_read_40 ?_
          refine T_bipush (105 : Int32) (by decide) dX8_read_41 ?_
          refine T_cVV (c := 8) [.int (0 : Int32), .int (105 : Int32)] [] mkX8_copies lmX8_223 rfl rfl (by decide) (Nat.le_of_ble_eq_true rfl) kd_81 dX8_read_43 (bsX8_copies _ (0 : Int32) (105 : Int32) m7) (fun m10 => ?_)
          refine T_iconst (0 : Int32) (by decide) dX8_read_46 ?_
          refine T_istore (lv' := [(5, .int (0 : Int32)), (0, .ref 81), (1, .int x1), (2, .int x2), (3, .int x3), (4, .int x4)]) (Nat.le_of_ble_eq_true rfl) rfl dX8_read_47 ?_
          refine T_iconst (0 : Int32) (by decide) dX8_read_49 ?_
          refine T_istore (lv' := [(6, .int (0 : Int32)), (5, .int (0 : Int32)), (0, .ref 81), (1, .int x1), (2, .int x2), (3, .int x3), (4, .int x4)]) (Nat.le_of_ble_eq_true rfl) rfl dX8_read_50 ?_
          exact T_sub [2, 3, 4, 5, 6, 1, 0] rfl (tX8_read_52 X x1 x2 x3 x4  FU ((0 : Int32), (0 : Int32), m10)))
def jX8_count_95 (xs0 : Int32) (m : mMem) : mR := ga (1 : Int32) 2 (if (m.1 96 ((1 : Int32)).toNatClampNeg) = (0 : Int32) then some (some (.int (xs0 + (0 : Int32))), m) else some (some (.int (xs0 + (1 : Int32))), m))
set_option maxRecDepth 100000 in
theorem uX8_count_95 (X : mCx) (xs0 : Int32) (m : mMem)  : T qX8_count X (jX8_count_95 xs0 m) 95 [(0, .ref 81)] [.int xs0] m := by
  unfold jX8_count_95
  refine T_aload_n 0 rfl rfl dX8_count_95 ?_
  refine gRX8_52 rfl kd_81 96 rfl dX8_count_96 ?_
  refine T_iconst (1 : Int32) (by decide) dX8_count_99 ?_
  refine T_zald kd_96 dX8_count_100 ?_
  refine T_if_eq 108 dX8_count_101 (by decide) (fun _ => ?_) (fun _ => ?_)
  · refine T_iconst (0 : Int32) (by decide) dX8_count_108 ?_
    refine T_iadd dX8_count_109 ?_
    exact T_iret rfl dX8_count_110
  · refine T_iconst (1 : Int32) (by decide) dX8_count_104 ?_
    refine T_goto 109 dX8_count_105 (by decide) ?_
    refine T_iadd dX8_count_109 ?_
    exact T_iret rfl dX8_count_110
def bX8_count_4 (x1 : Int32) (k4 : Int32 × Int32 × mMem → mR) (s : Int32 × Int32 × mMem) : mR := match s with
  | (x2, x3, m) => if (m.1 81 2) ≤ x3 then if x1 = (0 : Int32) then some (some (.int (m.1 81 29)), m) else if x1 = (1 : Int32) then ga (0 : Int32) 2 (if (m.1 96 ((0 : Int32)).toNatClampNeg) = (0 : Int32) then jX8_count_95 (0 : Int32) m else jX8_count_95 (1 : Int32) m) else if x1 = (2 : Int32) then some (some (.int (m.1 81 14)), m) else if x1 = (3 : Int32) then ga (0 : Int32) 4 (if (m.1 97 ((0 : Int32)).toNatClampNeg) = (-4 : Int32) then some (some (.int (-4 : Int32)), m) else ga (0 : Int32) 4 (some (some (.int (m.1 98 ((0 : Int32)).toNatClampNeg)), m))) else if x1 = (4 : Int32) then bI (fX8_brokenOn (0 : Int32) m) (fun z2 m1 => bI (fX8_bitsOf z2 m1) (fun z5 m4 => some (some (.int z5), m4))) else if x1 = (5 : Int32) then some (some (.int x2), m) else if x1 = (6 : Int32) then bI (fX8_homesOn (0 : Int32) m) (fun z8 m7 => bI (fX8_bitsOf z8 m7) (fun z11 m10 => some (some (.int z11), m10))) else some (some (.int (-1 : Int32)), m) else ga (((2 : Int32) * x3) + (1 : Int32)) 210 (li (x2 + (m.1 82 ((((2 : Int32) * x3) + (1 : Int32))).toNatClampNeg)) (fun y13 => li (x3 + (1 : Int32)) (fun y14 => k4 (y13, y14, m))))
set_option maxRecDepth 100000 in
theorem tX8_count_4 (X : mCx) (x1 : Int32)  : ∀ (n : Nat) (s : Int32 × Int32 × mMem), T qX8_count X (lp (bX8_count_4 x1) n s) 4 [(0, .ref 81), (1, .int x1), (2, .int s.1), (3, .int s.2.1)] [] s.2.2 :=
  T_lp (body := bX8_count_4 x1) (lv := fun s => [(0, .ref 81), (1, .int x1), (2, .int s.1), (3, .int s.2.1)]) (st := fun _ => []) (μ := fun s : Int32 × Int32 × mMem => s.2.2) (fun k4 hk4 s => by
    obtain ⟨x2, x3, m⟩ := s
    show T qX8_count X (bX8_count_4 x1 k4 (x2, x3, m)) 4 [(0, .ref 81), (1, .int x1), (2, .int x2), (3, .int x3)] [] m
    unfold bX8_count_4
    dsimp only
    refine T_iload_n 3 rfl rfl dX8_count_4 ?_
    refine T_aload_n 0 rfl rfl dX8_count_5 ?_
    refine gIX8_143 rfl kd_81 dX8_count_6 ?_
    refine T_icmp_ge 31 dX8_count_9 (by decide) (fun _ => ?_) (fun _ => ?_)
    · refine T_iload_n 1 rfl rfl dX8_count_31 ?_
      refine T_ite (fun hc => ?_) (fun hn0 => ?_)
      · refine T_tsIn (0 : Int32) 76 hc dX8_count_32 (by decide) (by decide) rfl (by decide) ?_
        refine T_aload_n 0 rfl rfl dX8_count_76 ?_
        refine gIX8_149 rfl kd_81 dX8_count_77 ?_
        exact T_iret rfl dX8_count_80
      · refine T_ite (fun hc => ?_) (fun hn1 => ?_)
        · refine T_tsIn (1 : Int32) 81 hc dX8_count_32 (by decide) (by decide) rfl (by decide) ?_
          refine T_aload_n 0 rfl rfl dX8_count_81 ?_
          refine gRX8_52 rfl kd_81 96 rfl dX8_count_82 ?_
          refine T_iconst (0 : Int32) (by decide) dX8_count_85 ?_
          refine T_zald kd_96 dX8_count_86 ?_
          refine T_if_eq 94 dX8_count_87 (by decide) (fun _ => ?_) (fun _ => ?_)
          · refine T_iconst (0 : Int32) (by decide) dX8_count_94 ?_
            exact T_sub [0] rfl (uX8_count_95 X (0 : Int32) m )
          · refine T_iconst (1 : Int32) (by decide) dX8_count_90 ?_
            refine T_goto 95 dX8_count_91 (by decide) ?_
            exact T_sub [0] rfl (uX8_count_95 X (1 : Int32) m )
        · refine T_ite (fun hc => ?_) (fun hn2 => ?_)
          · refine T_tsIn (2 : Int32) 111 hc dX8_count_32 (by decide) (by decide) rfl (by decide) ?_
            refine T_aload_n 0 rfl rfl dX8_count_111 ?_
            refine gIX8_71 rfl kd_81 dX8_count_112 ?_
            exact T_iret rfl dX8_count_115
          · refine T_ite (fun hc => ?_) (fun hn3 => ?_)
            · refine T_tsIn (3 : Int32) 116 hc dX8_count_32 (by decide) (by decide) rfl (by decide) ?_
              refine T_aload_n 0 rfl rfl dX8_count_116 ?_
              refine gRX8_56 rfl kd_81 97 rfl dX8_count_117 ?_
              refine T_iconst (0 : Int32) (by decide) dX8_count_120 ?_
              refine T_iald kd_97 dX8_count_121 ?_
              refine T_bipush (-4 : Int32) (by decide) dX8_count_122 ?_
              refine T_icmp_ne 132 dX8_count_124 (by decide) (fun _ => ?_) (fun _ => ?_)
              · refine T_bipush (-4 : Int32) (by decide) dX8_count_127 ?_
                refine T_goto 138 dX8_count_129 (by decide) ?_
                exact T_iret rfl dX8_count_138
              · refine T_aload_n 0 rfl rfl dX8_count_132 ?_
                refine gRX8_59 rfl kd_81 98 rfl dX8_count_133 ?_
                refine T_iconst (0 : Int32) (by decide) dX8_count_136 ?_
                refine T_iald kd_98 dX8_count_137 ?_
                exact T_iret rfl dX8_count_138
            · refine T_ite (fun hc => ?_) (fun hn4 => ?_)
              · refine T_tsIn (4 : Int32) 139 hc dX8_count_32 (by decide) (by decide) rfl (by decide) ?_
                refine T_aload_n 0 rfl rfl dX8_count_139 ?_
                refine T_iconst (0 : Int32) (by decide) dX8_count_140 ?_
                refine T_cVI (c := 8) [.int (0 : Int32)] [] mkX8_brokenOn lmX8_226 rfl rfl (by decide) (Nat.le_of_ble_eq_true rfl) kd_81 dX8_count_141 (bsX8_brokenOn _ (0 : Int32) m) (fun z2 m1 => ?_)
                refine T_cSI [.int z2] [] mkX8_bitsOf lmX8_229 rfl (by decide) (Nat.le_of_ble_eq_true rfl) dX8_count_144 (bsX8_bitsOf _ z2 m1) (fun z5 m4 => ?_)
                exact T_iret rfl dX8_count_147
              · refine T_ite (fun hc => ?_) (fun hn5 => ?_)
                · refine T_tsIn (5 : Int32) 148 hc dX8_count_32 (by decide) (by decide) rfl (by decide) ?_
                  refine T_iload_n 2 rfl rfl dX8_count_148 ?_
                  exact T_iret rfl dX8_count_149
                · refine T_ite (fun hc => ?_) (fun hn6 => ?_)
                  · refine T_tsIn (6 : Int32) 150 hc dX8_count_32 (by decide) (by decide) rfl (by decide) ?_
                    refine T_aload_n 0 rfl rfl dX8_count_150 ?_
                    refine T_iconst (0 : Int32) (by decide) dX8_count_151 ?_
                    refine T_cVI (c := 8) [.int (0 : Int32)] [] mkX8_homesOn lmX8_214 rfl rfl (by decide) (Nat.le_of_ble_eq_true rfl) kd_81 dX8_count_152 (bsX8_homesOn _ (0 : Int32) m) (fun z8 m7 => ?_)
                    refine T_cSI [.int z8] [] mkX8_bitsOf lmX8_229 rfl (by decide) (Nat.le_of_ble_eq_true rfl) dX8_count_155 (bsX8_bitsOf _ z8 m7) (fun z11 m10 => ?_)
                    exact T_iret rfl dX8_count_158
                  · refine T_tsOut 159 (by have e0 := neT (k := 0) hn0 (by decide); have e1 := neT (k := 1) hn1 (by decide); have e2 := neT (k := 2) hn2 (by decide); have e3 := neT (k := 3) hn3 (by decide); have e4 := neT (k := 4) hn4 (by decide); have e5 := neT (k := 5) hn5 (by decide); have e6 := neT (k := 6) hn6 (by decide); omega) dX8_count_32 (by decide) ?_
                    refine T_iconst (-1 : Int32) (by decide) dX8_count_159 ?_
                    exact T_iret rfl dX8_count_160
    · refine T_iload_n 2 rfl rfl dX8_count_12 ?_
      refine T_aload_n 0 rfl rfl dX8_count_13 ?_
      refine gRX8_7 rfl kd_81 82 rfl dX8_count_14 ?_
      refine T_iconst (2 : Int32) (by decide) dX8_count_17 ?_
      refine T_iload_n 3 rfl rfl dX8_count_18 ?_
      refine T_imul dX8_count_19 ?_
      refine T_iconst (1 : Int32) (by decide) dX8_count_20 ?_
      refine T_iadd dX8_count_21 ?_
      refine T_iald kd_82 dX8_count_22 ?_
      refine T_iadd dX8_count_23 ?_
      refine T_istore_n (lv' := [(2, .int (x2 + (m.1 82 ((((2 : Int32) * x3) + (1 : Int32))).toNatClampNeg))), (0, .ref 81), (1, .int x1), (3, .int x3)]) rfl (Nat.le_of_ble_eq_true rfl) rfl dX8_count_24 ?_
      refine T_li (fun y13 => ?_)
      refine T_iinc (lv' := [(3, .int (x3 + (1 : Int32))), (2, .int y13), (0, .ref 81), (1, .int x1)]) 3 (1 : Int32) rfl (by decide) (Nat.le_of_ble_eq_true rfl) rfl dX8_count_25 ?_
      refine T_li (fun y14 => ?_)
      refine T_goto 4 dX8_count_28 (by decide) ?_
      exact T_sub [2, 3, 1, 0] rfl (hk4 (y13, y14, m)))
def fX8_count (x1 : Int32) (m : mMem) : mR := lp (bX8_count_4 x1) FU ((0 : Int32), (0 : Int32), m)
set_option maxRecDepth 100000 in
theorem bsX8_count (l : Launch) (x1 : Int32) (m : mMem)  : BS l qX8_count [.ref 81, .int x1] m (fX8_count x1 m) := BS_of (by decide) (Nat.le_of_ble_eq_true rfl) (fun X _ => by
    show T qX8_count X (fX8_count x1 m) 0 [(0, .ref 81), (1, .int x1)] [] m
    unfold fX8_count
    refine T_iconst (0 : Int32) (by decide) dX8_count_0 ?_
    refine T_istore_n (lv' := [(2, .int (0 : Int32)), (0, .ref 81), (1, .int x1)]) rfl (Nat.le_of_ble_eq_true rfl) rfl dX8_count_1 ?_
    refine T_iconst (0 : Int32) (by decide) dX8_count_2 ?_
    refine T_istore_n (lv' := [(3, .int (0 : Int32)), (2, .int (0 : Int32)), (0, .ref 81), (1, .int x1)]) rfl (Nat.le_of_ble_eq_true rfl) rfl dX8_count_3 ?_
    exact T_sub [2, 3, 1, 0] rfl (tX8_count_4 X x1  FU ((0 : Int32), (0 : Int32), m)))
theorem lmX8_220 : Cond.methodLink RX8 220 yX8_daysOn ∈ gdL := gd_mem 1177 (by decide +kernel) (by decide +kernel)
def fX8_day (x1 : Int32) (m : mMem) : mR := bI (fX8_in (x1).toInt64 (0 : Int64) (60 : Int64) m) (fun z2 m1 => if z2 = (0 : Int32) then some (some (.int (-1 : Int32)), m1) else ga (34 : Int32) 210 (if ((m1.1 82 ((34 : Int32)).toNatClampNeg) + x1) ≤ (999 : Int32) then bI (fX8_daysOn (0 : Int32) x1 m1) (fun z5 m4 => some (some (.int z5), m4)) else some (some (.int (-3 : Int32)), m1)))
set_option maxRecDepth 100000 in
theorem bsX8_day (l : Launch) (x1 : Int32) (m : mMem)  : BS l qX8_day [.ref 81, .int x1] m (fX8_day x1 m) := BS_of (by decide) (Nat.le_of_ble_eq_true rfl) (fun X _ => by
    show T qX8_day X (fX8_day x1 m) 0 [(0, .ref 81), (1, .int x1)] [] m
    unfold fX8_day
    refine T_iload_n 1 rfl rfl dX8_day_0 ?_
    refine T_i2l dX8_day_1 ?_
    refine T_lconst (0 : Int64) (by decide) dX8_day_2 ?_
    refine T_ldc2 lcX8_185 dX8_day_3 ?_
    refine T_cSI [.long (x1).toInt64, .long (0 : Int64), .long (60 : Int64)] [] mkX8_in lmX8_67 rfl (by decide) (Nat.le_of_ble_eq_true rfl) dX8_day_6 (bsX8_in _ (x1).toInt64 (0 : Int64) (60 : Int64) m) (fun z2 m1 => ?_)
    refine T_if_ne 14 dX8_day_9 (by decide) (fun _ => ?_) (fun _ => ?_)
    · refine T_iconst (-1 : Int32) (by decide) dX8_day_12 ?_
      exact T_iret rfl dX8_day_13
    · refine T_aload_n 0 rfl rfl dX8_day_14 ?_
      refine gRX8_7 rfl kd_81 82 rfl dX8_day_15 ?_
      refine T_bipush (34 : Int32) (by decide) dX8_day_18 ?_
      refine T_iald kd_82 dX8_day_20 ?_
      refine T_iload_n 1 rfl rfl dX8_day_21 ?_
      refine T_iadd dX8_day_22 ?_
      refine T_sipush (999 : Int32) (by decide) dX8_day_23 ?_
      refine T_icmp_le 34 dX8_day_26 (by decide) (fun _ => ?_) (fun _ => ?_)
      · refine T_aload_n 0 rfl rfl dX8_day_34 ?_
        refine T_iconst (0 : Int32) (by decide) dX8_day_35 ?_
        refine T_iload_n 1 rfl rfl dX8_day_36 ?_
        refine T_cVI (c := 8) [.int (0 : Int32), .int x1] [] mkX8_daysOn lmX8_220 rfl rfl (by decide) (Nat.le_of_ble_eq_true rfl) kd_81 dX8_day_37 (bsX8_daysOn _ (0 : Int32) x1 m1) (fun z5 m4 => ?_)
        exact T_iret rfl dX8_day_40
      · refine T_bipush (-3 : Int32) (by decide) dX8_day_29 ?_
        refine T_goto 40 dX8_day_31 (by decide) ?_
        exact T_iret rfl dX8_day_40)
def jX8_ahead_43 (x1 : Int32) (x2 : Int32) (m : mMem) : mR := bV (fX8_copies (0 : Int32) (140 : Int32) m) (fun m10 => bI (fX8_daysOn (140 : Int32) x1 m10) (fun z12 m11 => if x2 = (0 : Int32) then some (some (.int z12), m11) else if x2 = (1 : Int32) then bI (fX8_brokenOn (140 : Int32) m11) (fun z15 m14 => some (some (.int z15), m14)) else ga (((140 : Int32) + ((2 : Int32) * (x2 - (10 : Int32)))) + (1 : Int32)) 210 (some (some (.int (m11.1 82 ((((140 : Int32) + ((2 : Int32) * (x2 - (10 : Int32)))) + (1 : Int32))).toNatClampNeg)), m11))))
set_option maxRecDepth 100000 in
theorem uX8_ahead_43 (X : mCx) (x1 : Int32) (x2 : Int32) (m : mMem)  : T qX8_ahead X (jX8_ahead_43 x1 x2 m) 43 [(0, .ref 81), (1, .int x1), (2, .int x2)] [] m := by
  unfold jX8_ahead_43
  refine T_aload_n 0 rfl rfl dX8_ahead_43 ?_
  refine T_iconst (0 : Int32) (by decide) dX8_ahead_44 ?_
  refine T_sipush (140 : Int32) (by decide) dX8_ahead_45 ?_
  refine T_cVV (c := 8) [.int (0 : Int32), .int (140 : Int32)] [] mkX8_copies lmX8_223 rfl rfl (by decide) (Nat.le_of_ble_eq_true rfl) kd_81 dX8_ahead_48 (bsX8_copies _ (0 : Int32) (140 : Int32) m) (fun m10 => ?_)
  refine T_aload_n 0 rfl rfl dX8_ahead_51 ?_
  refine T_sipush (140 : Int32) (by decide) dX8_ahead_52 ?_
  refine T_iload_n 1 rfl rfl dX8_ahead_55 ?_
  refine T_cVI (c := 8) [.int (140 : Int32), .int x1] [] mkX8_daysOn lmX8_220 rfl rfl (by decide) (Nat.le_of_ble_eq_true rfl) kd_81 dX8_ahead_56 (bsX8_daysOn _ (140 : Int32) x1 m10) (fun z12 m11 => ?_)
  refine T_istore_n (lv' := [(3, .int z12), (0, .ref 81), (1, .int x1), (2, .int x2)]) rfl (Nat.le_of_ble_eq_true rfl) rfl dX8_ahead_59 ?_
  refine T_iload_n 3 rfl rfl dX8_ahead_60 ?_
  refine T_if_ne 68 dX8_ahead_61 (by decide) (fun _ => ?_) (fun _ => ?_)
  · refine T_iload_n 0 rfl rfl dX8_ahead_64 ?_
    refine T_goto 100 dX8_ahead_65 (by decide) ?_
    exact T_iret rfl dX8_ahead_100
  · refine T_iload_n 3 rfl rfl dX8_ahead_68 ?_
    refine T_iconst (1 : Int32) (by decide) dX8_ahead_69 ?_
    refine T_icmp_ne 83 dX8_ahead_70 (by decide) (fun _ => ?_) (fun _ => ?_)
    · refine T_aload_n 1 rfl rfl dX8_ahead_73 ?_
      refine T_sipush (140 : Int32) (by decide) dX8_ahead_74 ?_
      refine T_cVI (c := 8) [.int (140 : Int32)] [] mkX8_brokenOn lmX8_226 rfl rfl (by decide) (Nat.le_of_ble_eq_true rfl) kd_81 dX8_ahead_77 (bsX8_brokenOn _ (140 : Int32) m11) (fun z15 m14 => ?_)
      refine T_goto 100 dX8_ahead_80 (by decide) ?_
      exact T_iret rfl dX8_ahead_100
    · refine T_aload_n 1 rfl rfl dX8_ahead_83 ?_
      refine gRX8_7 rfl kd_81 82 rfl dX8_ahead_84 ?_
      refine T_sipush (140 : Int32) (by decide) dX8_ahead_87 ?_
      refine T_iconst (2 : Int32) (by decide) dX8_ahead_90 ?_
      refine T_iload_n 3 rfl rfl dX8_ahead_91 ?_
      refine T_bipush (10 : Int32) (by decide) dX8_ahead_92 ?_
      refine T_isub dX8_ahead_94 ?_
      refine T_imul dX8_ahead_95 ?_
      refine T_iadd dX8_ahead_96 ?_
      refine T_iconst (1 : Int32) (by decide) dX8_ahead_97 ?_
      refine T_iadd dX8_ahead_98 ?_
      refine T_iald kd_82 dX8_ahead_99 ?_
      exact T_iret rfl dX8_ahead_100
def fX8_ahead (x1 : Int32) (x2 : Int32) (m : mMem) : mR := bI (fX8_in (x1).toInt64 (0 : Int64) (60 : Int64) m) (fun z2 m1 => if z2 = (0 : Int32) then some (some (.int (-1 : Int32)), m1) else bI (fX8_in (x2).toInt64 (0 : Int64) (1 : Int64) m1) (fun z5 m4 => if z5 = (0 : Int32) then bI (fX8_in (x2).toInt64 (10 : Int64) (((9 : Int32) + (m4.1 81 2))).toInt64 m4) (fun z8 m7 => if z8 = (0 : Int32) then some (some (.int (-1 : Int32)), m7) else jX8_ahead_43 x1 x2 m7) else jX8_ahead_43 x1 x2 m4))
set_option maxRecDepth 100000 in
theorem bsX8_ahead (l : Launch) (x1 : Int32) (x2 : Int32) (m : mMem)  : BS l qX8_ahead [.ref 81, .int x1, .int x2] m (fX8_ahead x1 x2 m) := BS_of (by decide) (Nat.le_of_ble_eq_true rfl) (fun X _ => by
    show T qX8_ahead X (fX8_ahead x1 x2 m) 0 [(0, .ref 81), (1, .int x1), (2, .int x2)] [] m
    unfold fX8_ahead
    refine T_iload_n 1 rfl rfl dX8_ahead_0 ?_
    refine T_i2l dX8_ahead_1 ?_
    refine T_lconst (0 : Int64) (by decide) dX8_ahead_2 ?_
    refine T_ldc2 lcX8_185 dX8_ahead_3 ?_
    refine T_cSI [.long (x1).toInt64, .long (0 : Int64), .long (60 : Int64)] [] mkX8_in lmX8_67 rfl (by decide) (Nat.le_of_ble_eq_true rfl) dX8_ahead_6 (bsX8_in _ (x1).toInt64 (0 : Int64) (60 : Int64) m) (fun z2 m1 => ?_)
    refine T_if_eq 41 dX8_ahead_9 (by decide) (fun _ => ?_) (fun _ => ?_)
    · refine T_iconst (-1 : Int32) (by decide) dX8_ahead_41 ?_
      exact T_iret rfl dX8_ahead_42
    · refine T_iload_n 2 rfl rfl dX8_ahead_12 ?_
      refine T_i2l dX8_ahead_13 ?_
      refine T_lconst (0 : Int64) (by decide) dX8_ahead_14 ?_
      refine T_lconst (1 : Int64) (by decide) dX8_ahead_15 ?_
      refine T_cSI [.long (x2).toInt64, .long (0 : Int64), .long (1 : Int64)] [] mkX8_in lmX8_67 rfl (by decide) (Nat.le_of_ble_eq_true rfl) dX8_ahead_16 (bsX8_in _ (x2).toInt64 (0 : Int64) (1 : Int64) m1) (fun z5 m4 => ?_)
      refine T_if_ne 43 dX8_ahead_19 (by decide) (fun _ => ?_) (fun _ => ?_)
      · refine T_iload_n 2 rfl rfl dX8_ahead_22 ?_
        refine T_i2l dX8_ahead_23 ?_
        refine T_ldc2 lcX8_201 dX8_ahead_24 ?_
        refine T_bipush (9 : Int32) (by decide) dX8_ahead_27 ?_
        refine T_aload_n 0 rfl rfl dX8_ahead_29 ?_
        refine gIX8_143 rfl kd_81 dX8_ahead_30 ?_
        refine T_iadd dX8_ahead_33 ?_
        refine T_i2l dX8_ahead_34 ?_
        refine T_cSI [.long (x2).toInt64, .long (10 : Int64), .long (((9 : Int32) + (m4.1 81 2))).toInt64] [] mkX8_in lmX8_67 rfl (by decide) (Nat.le_of_ble_eq_true rfl) dX8_ahead_35 (bsX8_in _ (x2).toInt64 (10 : Int64) (((9 : Int32) + (m4.1 81 2))).toInt64 m4) (fun z8 m7 => ?_)
        refine T_if_ne 43 dX8_ahead_38 (by decide) (fun _ => ?_) (fun _ => ?_)
        · refine T_iconst (-1 : Int32) (by decide) dX8_ahead_41 ?_
          exact T_iret rfl dX8_ahead_42
        · exact T_sub [0, 1, 2] rfl (uX8_ahead_43 X x1 x2 m7 )
      · exact T_sub [0, 1, 2] rfl (uX8_ahead_43 X x1 x2 m4 ))
def bX8_breaks_59 (k28 : Int32 × mMem → mR) (x1 : Int32) (x2 : Int32) (x3 : Int32) (x4 : Int32) (k59 : Int32 × mMem → mR) (s : Int32 × mMem) : mR := match s with
  | (x5, m) => if (m.1 81 2) ≤ x5 then li (x3 + (1 : Int32)) (fun y15 => k28 (y15, m)) else if ((x4 >>> (x5 &&& 31)) &&& (1 : Int32)) = (1 : Int32) then if x1 = (0 : Int32) then some (some (.int x3), m) else some (some (.int x5), m) else li (x5 + (1 : Int32)) (fun y16 => k59 (y16, m))
set_option maxRecDepth 100000 in
theorem tX8_breaks_59 (X : mCx) (k28 : Int32 × mMem → mR) (x1 : Int32) (x2 : Int32) (x3 : Int32) (x4 : Int32) (hk28 : ∀ s : Int32 × mMem, T qX8_breaks X (k28 s) 28 [(0, .ref 81), (1, .int x1), (2, .int x2), (3, .int s.1)] [] s.2) : ∀ (n : Nat) (s : Int32 × mMem), T qX8_breaks X (lp (bX8_breaks_59 k28 x1 x2 x3 x4) n s) 59 [(0, .ref 81), (1, .int x1), (2, .int x2), (3, .int x3), (4, .int x4), (5, .int s.1)] [] s.2 :=
  T_lp (body := bX8_breaks_59 k28 x1 x2 x3 x4) (lv := fun s => [(0, .ref 81), (1, .int x1), (2, .int x2), (3, .int x3), (4, .int x4), (5, .int s.1)]) (st := fun _ => []) (μ := fun s : Int32 × mMem => s.2) (fun k59 hk59 s => by
    obtain ⟨x5, m⟩ := s
    show T qX8_breaks X (bX8_breaks_59 k28 x1 x2 x3 x4 k59 (x5, m)) 59 [(0, .ref 81), (1, .int x1), (2, .int x2), (3, .int x3), (4, .int x4), (5, .int x5)] [] m
    unfold bX8_breaks_59
    dsimp only
    refine T_iload 5 rfl dX8_breaks_59 ?_
    refine T_aload_n 0 rfl rfl dX8_breaks_61 ?_
    refine gIX8_143 rfl kd_81 dX8_breaks_62 ?_
    refine T_icmp_ge 96 dX8_breaks_65 (by decide) (fun _ => ?_) (fun _ => ?_)
    · refine T_iinc (lv' := [(3, .int (x3 + (1 : Int32))), (0, .ref 81), (1, .int x1), (2, .int x2), (4, .int x4), (5, .int x5)]) 3 (1 : Int32) rfl (by decide) (Nat.le_of_ble_eq_true rfl) rfl dX8_breaks_96 ?_
      refine T_li (fun y15 => ?_)
      refine T_goto 28 dX8_breaks_99 (by decide) ?_
      exact T_sub [1, 2, 3, 0] rfl (hk28 (y15, m))
    · refine T_iload 4 rfl dX8_breaks_68 ?_
      refine T_iload 5 rfl dX8_breaks_70 ?_
      refine T_ishr dX8_breaks_72 ?_
      refine T_iconst (1 : Int32) (by decide) dX8_breaks_73 ?_
      refine T_iand dX8_breaks_74 ?_
      refine T_iconst (1 : Int32) (by decide) dX8_breaks_75 ?_
      refine T_icmp_ne 90 dX8_breaks_76 (by decide) (fun _ => ?_) (fun _ => ?_)
      · refine T_iload_n 1 rfl rfl dX8_breaks_79 ?_
        refine T_if_ne 87 dX8_breaks_80 (by decide) (fun _ => ?_) (fun _ => ?_)
        · refine T_iload_n 3 rfl rfl dX8_breaks_83 ?_
          refine T_goto 89 dX8_breaks_84 (by decide) ?_
          exact T_iret rfl dX8_breaks_89
        · refine T_iload 5 rfl dX8_breaks_87 ?_
          exact T_iret rfl dX8_breaks_89
      · refine T_iinc (lv' := [(5, .int (x5 + (1 : Int32))), (0, .ref 81), (1, .int x1), (2, .int x2), (3, .int x3), (4, .int x4)]) 5 (1 : Int32) rfl (by decide) (Nat.le_of_ble_eq_true rfl) rfl dX8_breaks_90 ?_
        refine T_li (fun y16 => ?_)
        refine T_goto 59 dX8_breaks_93 (by decide) ?_
        exact T_sub [1, 2, 3, 4, 5, 0] rfl (hk59 (y16, m)))
def bX8_breaks_28 (x1 : Int32) (x2 : Int32) (k28 : Int32 × mMem → mR) (s : Int32 × mMem) : mR := match s with
  | (x3, m) => if (60 : Int32) < x3 then some (some (.int (-4 : Int32)), m) else bI (fX8_daysOn (140 : Int32) (1 : Int32) m) (fun z9 m8 => bI (fX8_brokenOn (140 : Int32) m8) (fun z12 m11 => li (z12 &&& (x2 ^^^ (-1 : Int32))) (fun y14 => lp (bX8_breaks_59 k28 x1 x2 x3 y14) FU ((0 : Int32), m11))))
set_option maxRecDepth 100000 in
theorem tX8_breaks_28 (X : mCx) (x1 : Int32) (x2 : Int32)  : ∀ (n : Nat) (s : Int32 × mMem), T qX8_breaks X (lp (bX8_breaks_28 x1 x2) n s) 28 [(0, .ref 81), (1, .int x1), (2, .int x2), (3, .int s.1)] [] s.2 :=
  T_lp (body := bX8_breaks_28 x1 x2) (lv := fun s => [(0, .ref 81), (1, .int x1), (2, .int x2), (3, .int s.1)]) (st := fun _ => []) (μ := fun s : Int32 × mMem => s.2) (fun k28 hk28 s => by
    obtain ⟨x3, m⟩ := s
    show T qX8_breaks X (bX8_breaks_28 x1 x2 k28 (x3, m)) 28 [(0, .ref 81), (1, .int x1), (2, .int x2), (3, .int x3)] [] m
    unfold bX8_breaks_28
    dsimp only
    refine T_iload_n 3 rfl rfl dX8_breaks_28 ?_
    refine T_bipush (60 : Int32) (by decide) dX8_breaks_29 ?_
    refine T_icmp_gt 102 dX8_breaks_31 (by decide) (fun _ => ?_) (fun _ => ?_)
    · refine T_bipush (-4 : Int32) (by decide) dX8_breaks_102 ?_
      exact T_iret rfl dX8_breaks_104
    · refine T_aload_n 0 rfl rfl dX8_breaks_34 ?_
      refine T_sipush (140 : Int32) (by decide) dX8_breaks_35 ?_
      refine T_iconst (1 : Int32) (by decide) dX8_breaks_38 ?_
      refine T_cVI (c := 8) [.int (140 : Int32), .int (1 : Int32)] [] mkX8_daysOn lmX8_220 rfl rfl (by decide) (Nat.le_of_ble_eq_true rfl) kd_81 dX8_breaks_39 (bsX8_daysOn _ (140 : Int32) (1 : Int32) m) (fun z9 m8 => ?_)
      refine T_pop rfl dX8_breaks_42 ?_
      refine T_aload_n 0 rfl rfl dX8_breaks_43 ?_
      refine T_sipush (140 : Int32) (by decide) dX8_breaks_44 ?_
      refine T_cVI (c := 8) [.int (140 : Int32)] [] mkX8_brokenOn lmX8_226 rfl rfl (by decide) (Nat.le_of_ble_eq_true rfl) kd_81 dX8_breaks_47 (bsX8_brokenOn _ (140 : Int32) m8) (fun z12 m11 => ?_)
      refine T_iload_n 2 rfl rfl dX8_breaks_50 ?_
      refine T_iconst (-1 : Int32) (by decide) dX8_breaks_51 ?_
      refine T_ixor dX8_breaks_52 ?_
      refine T_iand dX8_breaks_53 ?_
      refine T_istore (lv' := [(4, .int (z12 &&& (x2 ^^^ (-1 : Int32)))), (0, .ref 81), (1, .int x1), (2, .int x2), (3, .int x3)]) (Nat.le_of_ble_eq_true rfl) rfl dX8_breaks_54 ?_
      refine T_li (fun y14 => ?_)
      refine T_iconst (0 : Int32) (by decide) dX8_breaks_56 ?_
      refine T_istore (lv' := [(5, .int (0 : Int32)), (4, .int y14), (0, .ref 81), (1, .int x1), (2, .int x2), (3, .int x3)]) (Nat.le_of_ble_eq_true rfl) rfl dX8_breaks_57 ?_
      exact T_sub [2, 3, 4, 5, 1, 0] rfl (tX8_breaks_59 X k28 x1 x2 x3 y14 hk28 FU ((0 : Int32), m11)))
def fX8_breaks (x1 : Int32) (m : mMem) : mR := bI (fX8_in (x1).toInt64 (0 : Int64) (1 : Int64) m) (fun z2 m1 => if z2 = (0 : Int32) then some (some (.int (-1 : Int32)), m1) else bI (fX8_brokenOn (0 : Int32) m1) (fun z5 m4 => bV (fX8_copies (0 : Int32) (140 : Int32) m4) (fun m7 => lp (bX8_breaks_28 x1 z5) FU ((1 : Int32), m7))))
set_option maxRecDepth 100000 in
theorem bsX8_breaks (l : Launch) (x1 : Int32) (m : mMem)  : BS l qX8_breaks [.ref 81, .int x1] m (fX8_breaks x1 m) := BS_of (by decide) (Nat.le_of_ble_eq_true rfl) (fun X _ => by
    show T qX8_breaks X (fX8_breaks x1 m) 0 [(0, .ref 81), (1, .int x1)] [] m
    unfold fX8_breaks
    refine T_iload_n 1 rfl rfl dX8_breaks_0 ?_
    refine T_i2l dX8_breaks_1 ?_
    refine T_lconst (0 : Int64) (by decide) dX8_breaks_2 ?_
    refine T_lconst (1 : Int64) (by decide) dX8_breaks_3 ?_
    refine T_cSI [.long (x1).toInt64, .long (0 : Int64), .long (1 : Int64)] [] mkX8_in lmX8_67 rfl (by decide) (Nat.le_of_ble_eq_true rfl) dX8_breaks_4 (bsX8_in _ (x1).toInt64 (0 : Int64) (1 : Int64) m) (fun z2 m1 => ?_)
    refine T_if_ne 12 dX8_breaks_7 (by decide) (fun _ => ?_) (fun _ => ?_)
    · refine T_iconst (-1 : Int32) (by decide) dX8_breaks_10 ?_
      exact T_iret rfl dX8_breaks_11
    · refine T_aload_n 0 rfl rfl dX8_breaks_12 ?_
      refine T_iconst (0 : Int32) (by decide) dX8_breaks_13 ?_
      refine T_cVI (c := 8) [.int (0 : Int32)] [] mkX8_brokenOn lmX8_226 rfl rfl (by decide) (Nat.le_of_ble_eq_true rfl) kd_81 dX8_breaks_14 (bsX8_brokenOn _ (0 : Int32) m1) (fun z5 m4 => ?_)
      refine T_istore_n (lv' := [(2, .int z5), (0, .ref 81), (1, .int x1)]) rfl (Nat.le_of_ble_eq_true rfl) rfl dX8_breaks_17 ?_
      refine T_aload_n 1 rfl rfl dX8_breaks_18 ?_
      refine T_iconst (0 : Int32) (by decide) dX8_breaks_19 ?_
      refine T_sipush (140 : Int32) (by decide) dX8_breaks_20 ?_
      refine T_cVV (c := 8) [.int (0 : Int32), .int (140 : Int32)] [] mkX8_copies lmX8_223 rfl rfl (by decide) (Nat.le_of_ble_eq_true rfl) kd_81 dX8_breaks_23 (bsX8_copies _ (0 : Int32) (140 : Int32) m4) (fun m7 => ?_)
      refine T_iconst (1 : Int32) (by decide) dX8_breaks_26 ?_
      refine T_istore_n (lv' := [(3, .int (1 : Int32)), (2, .int z5), (0, .ref 81), (1, .int x1)]) rfl (Nat.le_of_ble_eq_true rfl) rfl dX8_breaks_27 ?_
      exact T_sub [2, 3, 1, 0] rfl (tX8_breaks_28 X x1 z5  FU ((1 : Int32), m7)))
def bX8_stuck_20 (x1 : Int32) (k20 : Int32 × mMem → mR) (s : Int32 × mMem) : mR := match s with
  | (x2, m) => if (60 : Int32) < x2 then some (some (.int (-4 : Int32)), m) else bI (fX8_hasClimb (140 : Int32) x1 m) (fun z6 m5 => if z6 = (0 : Int32) then some (some (.int x2), m5) else bI (fX8_daysOn (140 : Int32) (1 : Int32) m5) (fun z9 m8 => li (x2 + (1 : Int32)) (fun y11 => k20 (y11, m8))))
set_option maxRecDepth 100000 in
theorem tX8_stuck_20 (X : mCx) (x1 : Int32)  : ∀ (n : Nat) (s : Int32 × mMem), T qX8_stuck X (lp (bX8_stuck_20 x1) n s) 20 [(0, .ref 81), (1, .int x1), (2, .int s.1)] [] s.2 :=
  T_lp (body := bX8_stuck_20 x1) (lv := fun s => [(0, .ref 81), (1, .int x1), (2, .int s.1)]) (st := fun _ => []) (μ := fun s : Int32 × mMem => s.2) (fun k20 hk20 s => by
    obtain ⟨x2, m⟩ := s
    show T qX8_stuck X (bX8_stuck_20 x1 k20 (x2, m)) 20 [(0, .ref 81), (1, .int x1), (2, .int x2)] [] m
    unfold bX8_stuck_20
    dsimp only
    refine T_iload_n 2 rfl rfl dX8_stuck_20 ?_
    refine T_bipush (60 : Int32) (by decide) dX8_stuck_21 ?_
    refine T_icmp_gt 54 dX8_stuck_23 (by decide) (fun _ => ?_) (fun _ => ?_)
    · refine T_bipush (-4 : Int32) (by decide) dX8_stuck_54 ?_
      exact T_iret rfl dX8_stuck_56
    · refine T_aload_n 0 rfl rfl dX8_stuck_26 ?_
      refine T_sipush (140 : Int32) (by decide) dX8_stuck_27 ?_
      refine T_iload_n 1 rfl rfl dX8_stuck_30 ?_
      refine T_cVI (c := 8) [.int (140 : Int32), .int x1] [] mkX8_hasClimb lmX8_211 rfl rfl (by decide) (Nat.le_of_ble_eq_true rfl) kd_81 dX8_stuck_31 (bsX8_hasClimb _ (140 : Int32) x1 m) (fun z6 m5 => ?_)
      refine T_if_ne 39 dX8_stuck_34 (by decide) (fun _ => ?_) (fun _ => ?_)
      · refine T_iload_n 2 rfl rfl dX8_stuck_37 ?_
        exact T_iret rfl dX8_stuck_38
      · refine T_aload_n 0 rfl rfl dX8_stuck_39 ?_
        refine T_sipush (140 : Int32) (by decide) dX8_stuck_40 ?_
        refine T_iconst (1 : Int32) (by decide) dX8_stuck_43 ?_
        refine T_cVI (c := 8) [.int (140 : Int32), .int (1 : Int32)] [] mkX8_daysOn lmX8_220 rfl rfl (by decide) (Nat.le_of_ble_eq_true rfl) kd_81 dX8_stuck_44 (bsX8_daysOn _ (140 : Int32) (1 : Int32) m5) (fun z9 m8 => ?_)
        refine T_pop rfl dX8_stuck_47 ?_
        refine T_iinc (lv' := [(2, .int (x2 + (1 : Int32))), (0, .ref 81), (1, .int x1)]) 2 (1 : Int32) rfl (by decide) (Nat.le_of_ble_eq_true rfl) rfl dX8_stuck_48 ?_
        refine T_li (fun y11 => ?_)
        refine T_goto 20 dX8_stuck_51 (by decide) ?_
        exact T_sub [1, 2, 0] rfl (hk20 (y11, m8)))
def fX8_stuck (x1 : Int32) (m : mMem) : mR := bI (fX8_isLodger x1 m) (fun z2 m1 => if z2 = (0 : Int32) then some (some (.int (-1 : Int32)), m1) else bV (fX8_copies (0 : Int32) (140 : Int32) m1) (fun m4 => lp (bX8_stuck_20 x1) FU ((0 : Int32), m4)))
set_option maxRecDepth 100000 in
theorem bsX8_stuck (l : Launch) (x1 : Int32) (m : mMem)  : BS l qX8_stuck [.ref 81, .int x1] m (fX8_stuck x1 m) := BS_of (by decide) (Nat.le_of_ble_eq_true rfl) (fun X _ => by
    show T qX8_stuck X (fX8_stuck x1 m) 0 [(0, .ref 81), (1, .int x1)] [] m
    unfold fX8_stuck
    refine T_aload_n 0 rfl rfl dX8_stuck_0 ?_
    refine T_iload_n 1 rfl rfl dX8_stuck_1 ?_
    refine T_cVI (c := 8) [.int x1] [] mkX8_isLodger lmX8_176 rfl rfl (by decide) (Nat.le_of_ble_eq_true rfl) kd_81 dX8_stuck_2 (bsX8_isLodger _ x1 m) (fun z2 m1 => ?_)
    refine T_if_ne 10 dX8_stuck_5 (by decide) (fun _ => ?_) (fun _ => ?_)
    · refine T_iconst (-1 : Int32) (by decide) dX8_stuck_8 ?_
      exact T_iret rfl dX8_stuck_9
    · refine T_aload_n 0 rfl rfl dX8_stuck_10 ?_
      refine T_iconst (0 : Int32) (by decide) dX8_stuck_11 ?_
      refine T_sipush (140 : Int32) (by decide) dX8_stuck_12 ?_
      refine T_cVV (c := 8) [.int (0 : Int32), .int (140 : Int32)] [] mkX8_copies lmX8_223 rfl rfl (by decide) (Nat.le_of_ble_eq_true rfl) kd_81 dX8_stuck_15 (bsX8_copies _ (0 : Int32) (140 : Int32) m1) (fun m4 => ?_)
      refine T_iconst (0 : Int32) (by decide) dX8_stuck_18 ?_
      refine T_istore_n (lv' := [(2, .int (0 : Int32)), (0, .ref 81), (1, .int x1)]) rfl (Nat.le_of_ble_eq_true rfl) rfl dX8_stuck_19 ?_
      exact T_sub [1, 2, 0] rfl (tX8_stuck_20 X x1  FU ((0 : Int32), m4)))
def jX8_hold_102 (k16 : Int32 × mMem → mR) (x1 : Int32) (x2 : Int32) (x3 : Int32) (m : mMem) : mR := if x3 = (0 : Int32) then li (x2 + (1 : Int32)) (fun y9 => k16 (y9, m)) else some (some (.int x2), m)
set_option maxRecDepth 100000 in
theorem uX8_hold_102 (X : mCx) (k16 : Int32 × mMem → mR) (x1 : Int32) (x2 : Int32) (x3 : Int32) (m : mMem) (hk16 : ∀ s : Int32 × mMem, T qX8_hold X (k16 s) 16 [(0, .ref 81), (1, .int x1), (2, .int s.1)] [] s.2) : T qX8_hold X (jX8_hold_102 k16 x1 x2 x3 m) 102 [(0, .ref 81), (1, .int x1), (2, .int x2), (3, .int x3)] [] m := by
  unfold jX8_hold_102
  refine T_iload_n 3 rfl rfl dX8_hold_102 ?_
  refine T_if_eq 108 dX8_hold_103 (by decide) (fun _ => ?_) (fun _ => ?_)
  · refine T_iinc (lv' := [(2, .int (x2 + (1 : Int32))), (0, .ref 81), (1, .int x1), (3, .int x3)]) 2 (1 : Int32) rfl (by decide) (Nat.le_of_ble_eq_true rfl) rfl dX8_hold_108 ?_
    refine T_li (fun y9 => ?_)
    refine T_goto 16 dX8_hold_111 (by decide) ?_
    exact T_sub [1, 2, 0] rfl (hk16 (y9, m))
  · refine T_iload_n 2 rfl rfl dX8_hold_106 ?_
    exact T_iret rfl dX8_hold_107
def bX8_hold_61 (k16 : Int32 × mMem → mR) (x1 : Int32) (x2 : Int32) (k61 : Int32 × Int32 × mMem → mR) (s : Int32 × Int32 × mMem) : mR := match s with
  | (x3, x4, m) => if x1 ≤ x4 then jX8_hold_102 k16 x1 x2 x3 m else if x3 = (0 : Int32) then jX8_hold_102 k16 x1 x2 x3 m else bI (fX8_daysOn (140 : Int32) (1 : Int32) m) (fun z11 m10 => bI (fX8_brokenOn (140 : Int32) m10) (fun z14 m13 => if z14 = (0 : Int32) then li (x4 + (1 : Int32)) (fun y16 => k61 ((1 : Int32), y16, m13)) else li (x4 + (1 : Int32)) (fun y17 => k61 ((0 : Int32), y17, m13))))
set_option maxRecDepth 100000 in
theorem tX8_hold_61 (X : mCx) (k16 : Int32 × mMem → mR) (x1 : Int32) (x2 : Int32) (hk16 : ∀ s : Int32 × mMem, T qX8_hold X (k16 s) 16 [(0, .ref 81), (1, .int x1), (2, .int s.1)] [] s.2) : ∀ (n : Nat) (s : Int32 × Int32 × mMem), T qX8_hold X (lp (bX8_hold_61 k16 x1 x2) n s) 61 [(0, .ref 81), (1, .int x1), (2, .int x2), (3, .int s.1), (4, .int s.2.1)] [] s.2.2 :=
  T_lp (body := bX8_hold_61 k16 x1 x2) (lv := fun s => [(0, .ref 81), (1, .int x1), (2, .int x2), (3, .int s.1), (4, .int s.2.1)]) (st := fun _ => []) (μ := fun s : Int32 × Int32 × mMem => s.2.2) (fun k61 hk61 s => by
    obtain ⟨x3, x4, m⟩ := s
    show T qX8_hold X (bX8_hold_61 k16 x1 x2 k61 (x3, x4, m)) 61 [(0, .ref 81), (1, .int x1), (2, .int x2), (3, .int x3), (4, .int x4)] [] m
    unfold bX8_hold_61
    dsimp only
    refine T_iload 4 rfl dX8_hold_61 ?_
    refine T_iload_n 1 rfl rfl dX8_hold_63 ?_
    refine T_icmp_ge 102 dX8_hold_64 (by decide) (fun _ => ?_) (fun _ => ?_)
    · exact T_sub [0, 1, 2, 3] rfl (uX8_hold_102 X k16 x1 x2 x3 m hk16)
    · refine T_iload_n 3 rfl rfl dX8_hold_67 ?_
      refine T_if_eq 102 dX8_hold_68 (by decide) (fun _ => ?_) (fun _ => ?_)
      · exact T_sub [0, 1, 2, 3] rfl (uX8_hold_102 X k16 x1 x2 x3 m hk16)
      · refine T_aload_n 0 rfl rfl dX8_hold_71 ?_
        refine T_sipush (140 : Int32) (by decide) dX8_hold_72 ?_
        refine T_iconst (1 : Int32) (by decide) dX8_hold_75 ?_
        refine T_cVI (c := 8) [.int (140 : Int32), .int (1 : Int32)] [] mkX8_daysOn lmX8_220 rfl rfl (by decide) (Nat.le_of_ble_eq_true rfl) kd_81 dX8_hold_76 (bsX8_daysOn _ (140 : Int32) (1 : Int32) m) (fun z11 m10 => ?_)
        refine T_pop rfl dX8_hold_79 ?_
        refine T_aload_n 0 rfl rfl dX8_hold_80 ?_
        refine T_sipush (140 : Int32) (by decide) dX8_hold_81 ?_
        refine T_cVI (c := 8) [.int (140 : Int32)] [] mkX8_brokenOn lmX8_226 rfl rfl (by decide) (Nat.le_of_ble_eq_true rfl) kd_81 dX8_hold_84 (bsX8_brokenOn _ (140 : Int32) m10) (fun z14 m13 => ?_)
        refine T_if_ne 94 dX8_hold_87 (by decide) (fun _ => ?_) (fun _ => ?_)
        · refine T_iconst (1 : Int32) (by decide) dX8_hold_90 ?_
          refine T_goto 95 dX8_hold_91 (by decide) ?_
          refine T_istore_n (lv' := [(3, .int (1 : Int32)), (0, .ref 81), (1, .int x1), (2, .int x2), (4, .int x4)]) rfl (Nat.le_of_ble_eq_true rfl) rfl dX8_hold_95 ?_
          refine T_iinc (lv' := [(4, .int (x4 + (1 : Int32))), (3, .int (1 : Int32)), (0, .ref 81), (1, .int x1), (2, .int x2)]) 4 (1 : Int32) rfl (by decide) (Nat.le_of_ble_eq_true rfl) rfl dX8_hold_96 ?_
          refine T_li (fun y16 => ?_)
          refine T_goto 61 dX8_hold_99 (by decide) ?_
          exact T_sub [2, 3, 4, 1, 0] rfl (hk61 ((1 : Int32), y16, m13))
        · refine T_iconst (0 : Int32) (by decide) dX8_hold_94 ?_
          refine T_istore_n (lv' := [(3, .int (0 : Int32)), (0, .ref 81), (1, .int x1), (2, .int x2), (4, .int x4)]) rfl (Nat.le_of_ble_eq_true rfl) rfl dX8_hold_95 ?_
          refine T_iinc (lv' := [(4, .int (x4 + (1 : Int32))), (3, .int (0 : Int32)), (0, .ref 81), (1, .int x1), (2, .int x2)]) 4 (1 : Int32) rfl (by decide) (Nat.le_of_ble_eq_true rfl) rfl dX8_hold_96 ?_
          refine T_li (fun y17 => ?_)
          refine T_goto 61 dX8_hold_99 (by decide) ?_
          exact T_sub [2, 3, 4, 1, 0] rfl (hk61 ((0 : Int32), y17, m13)))
def jX8_hold_57 (k16 : Int32 × mMem → mR) (x1 : Int32) (x2 : Int32) (xs0 : Int32) (m : mMem) : mR := lp (bX8_hold_61 k16 x1 x2) FU (xs0, (0 : Int32), m)
set_option maxRecDepth 100000 in
theorem uX8_hold_57 (X : mCx) (k16 : Int32 × mMem → mR) (x1 : Int32) (x2 : Int32) (xs0 : Int32) (m : mMem) (hk16 : ∀ s : Int32 × mMem, T qX8_hold X (k16 s) 16 [(0, .ref 81), (1, .int x1), (2, .int s.1)] [] s.2) : T qX8_hold X (jX8_hold_57 k16 x1 x2 xs0 m) 57 [(0, .ref 81), (1, .int x1), (2, .int x2)] [.int xs0] m := by
  unfold jX8_hold_57
  refine T_istore_n (lv' := [(3, .int xs0), (0, .ref 81), (1, .int x1), (2, .int x2)]) rfl (Nat.le_of_ble_eq_true rfl) rfl dX8_hold_57 ?_
  refine T_iconst (0 : Int32) (by decide) dX8_hold_58 ?_
  refine T_istore (lv' := [(4, .int (0 : Int32)), (3, .int xs0), (0, .ref 81), (1, .int x1), (2, .int x2)]) (Nat.le_of_ble_eq_true rfl) rfl dX8_hold_59 ?_
  exact T_sub [2, 3, 4, 1, 0] rfl (tX8_hold_61 X k16 x1 x2 hk16 FU (xs0, (0 : Int32), m))
def bX8_hold_16 (x1 : Int32) (k16 : Int32 × mMem → mR) (s : Int32 × mMem) : mR := match s with
  | (x2, m) => if (99 : Int32) < x2 then some (some (.int (-4 : Int32)), m) else bV (fX8_copies (0 : Int32) (140 : Int32) m) (fun m4 => ga (173 : Int32) 210 (lt (si m4 82 ((173 : Int32)).toNatClampNeg (x2 - (30 : Int32))) (fun m5 => bI (fX8_brokenOn (140 : Int32) m5) (fun z7 m6 => if z7 = (0 : Int32) then jX8_hold_57 k16 x1 x2 (1 : Int32) m6 else jX8_hold_57 k16 x1 x2 (0 : Int32) m6))))
set_option maxRecDepth 100000 in
theorem tX8_hold_16 (X : mCx) (x1 : Int32)  : ∀ (n : Nat) (s : Int32 × mMem), T qX8_hold X (lp (bX8_hold_16 x1) n s) 16 [(0, .ref 81), (1, .int x1), (2, .int s.1)] [] s.2 :=
  T_lp (body := bX8_hold_16 x1) (lv := fun s => [(0, .ref 81), (1, .int x1), (2, .int s.1)]) (st := fun _ => []) (μ := fun s : Int32 × mMem => s.2) (fun k16 hk16 s => by
    obtain ⟨x2, m⟩ := s
    show T qX8_hold X (bX8_hold_16 x1 k16 (x2, m)) 16 [(0, .ref 81), (1, .int x1), (2, .int x2)] [] m
    unfold bX8_hold_16
    dsimp only
    refine T_iload_n 2 rfl rfl dX8_hold_16 ?_
    refine T_bipush (99 : Int32) (by decide) dX8_hold_17 ?_
    refine T_icmp_gt 114 dX8_hold_19 (by decide) (fun _ => ?_) (fun _ => ?_)
    · refine T_bipush (-4 : Int32) (by decide) dX8_hold_114 ?_
      exact T_iret rfl dX8_hold_116
    · refine T_aload_n 0 rfl rfl dX8_hold_22 ?_
      refine T_iconst (0 : Int32) (by decide) dX8_hold_23 ?_
      refine T_sipush (140 : Int32) (by decide) dX8_hold_24 ?_
      refine T_cVV (c := 8) [.int (0 : Int32), .int (140 : Int32)] [] mkX8_copies lmX8_223 rfl rfl (by decide) (Nat.le_of_ble_eq_true rfl) kd_81 dX8_hold_27 (bsX8_copies _ (0 : Int32) (140 : Int32) m) (fun m4 => ?_)
      refine T_aload_n 0 rfl rfl dX8_hold_30 ?_
      refine gRX8_7 rfl kd_81 82 rfl dX8_hold_31 ?_
      refine T_sipush (173 : Int32) (by decide) dX8_hold_34 ?_
      refine T_iload_n 2 rfl rfl dX8_hold_37 ?_
      refine T_bipush (30 : Int32) (by decide) dX8_hold_38 ?_
      refine T_isub dX8_hold_40 ?_
      refine T_iast _ rfl kd_82 dX8_hold_41 ?_
      refine T_lt (fun m5 => ?_)
      refine T_aload_n 0 rfl rfl dX8_hold_42 ?_
      refine T_sipush (140 : Int32) (by decide) dX8_hold_43 ?_
      refine T_cVI (c := 8) [.int (140 : Int32)] [] mkX8_brokenOn lmX8_226 rfl rfl (by decide) (Nat.le_of_ble_eq_true rfl) kd_81 dX8_hold_46 (bsX8_brokenOn _ (140 : Int32) m5) (fun z7 m6 => ?_)
      refine T_if_ne 56 dX8_hold_49 (by decide) (fun _ => ?_) (fun _ => ?_)
      · refine T_iconst (1 : Int32) (by decide) dX8_hold_52 ?_
        refine T_goto 57 dX8_hold_53 (by decide) ?_
        exact T_sub [0, 1, 2] rfl (uX8_hold_57 X k16 x1 x2 (1 : Int32) m6 hk16)
      · refine T_iconst (0 : Int32) (by decide) dX8_hold_56 ?_
        exact T_sub [0, 1, 2] rfl (uX8_hold_57 X k16 x1 x2 (0 : Int32) m6 hk16))
def fX8_hold (x1 : Int32) (m : mMem) : mR := bI (fX8_in (x1).toInt64 (0 : Int64) (60 : Int64) m) (fun z2 m1 => if z2 = (0 : Int32) then some (some (.int (-1 : Int32)), m1) else lp (bX8_hold_16 x1) FU ((1 : Int32), m1))
set_option maxRecDepth 100000 in
theorem bsX8_hold (l : Launch) (x1 : Int32) (m : mMem)  : BS l qX8_hold [.ref 81, .int x1] m (fX8_hold x1 m) := BS_of (by decide) (Nat.le_of_ble_eq_true rfl) (fun X _ => by
    show T qX8_hold X (fX8_hold x1 m) 0 [(0, .ref 81), (1, .int x1)] [] m
    unfold fX8_hold
    refine T_iload_n 1 rfl rfl dX8_hold_0 ?_
    refine T_i2l dX8_hold_1 ?_
    refine T_lconst (0 : Int64) (by decide) dX8_hold_2 ?_
    refine T_ldc2 lcX8_185 dX8_hold_3 ?_
    refine T_cSI [.long (x1).toInt64, .long (0 : Int64), .long (60 : Int64)] [] mkX8_in lmX8_67 rfl (by decide) (Nat.le_of_ble_eq_true rfl) dX8_hold_6 (bsX8_in _ (x1).toInt64 (0 : Int64) (60 : Int64) m) (fun z2 m1 => ?_)
    refine T_if_ne 14 dX8_hold_9 (by decide) (fun _ => ?_) (fun _ => ?_)
    · refine T_iconst (-1 : Int32) (by decide) dX8_hold_12 ?_
      exact T_iret rfl dX8_hold_13
    · refine T_iconst (1 : Int32) (by decide) dX8_hold_14 ?_
      refine T_istore_n (lv' := [(2, .int (1 : Int32)), (0, .ref 81), (1, .int x1)]) rfl (Nat.le_of_ble_eq_true rfl) rfl dX8_hold_15 ?_
      exact T_sub [1, 2, 0] rfl (tX8_hold_16 X x1  FU ((1 : Int32), m1)))
theorem lmX8_239 : Cond.methodLink RX8 239 yX8_meanOf ∈ gdL := gd_mem 1236 (by decide +kernel) (by decide +kernel)
theorem lcX8_243 : Cond.constantLong RX8 243 (-1) ∈ gdL := gd_mem 1243 (by decide +kernel) (by decide +kernel)
def fX8_odds (x1 : Int32) (x2 : Int32) (x3 : Int32) (m : mMem) : mR := bI (fX8_in (x1).toInt64 (0 : Int64) (10 : Int64) m) (fun z2 m1 => if z2 = (0 : Int32) then some (some (.long (-1 : Int64)), m1) else bI (fX8_isLodger x2 m1) (fun z5 m4 => if z5 = (0 : Int32) then some (some (.long (-1 : Int64)), m4) else bI (fX8_in (x3).toInt64 (0 : Int64) (1 : Int64) m4) (fun z8 m7 => if z8 = (0 : Int32) then some (some (.long (-1 : Int64)), m7) else bL (fX8_meanOf x1 ((1 : Int32) <<< (x2 &&& 31)) x3 m7) (fun z11 m10 => some (some (.long z11), m10)))))
set_option maxRecDepth 100000 in
theorem bsX8_odds (l : Launch) (x1 : Int32) (x2 : Int32) (x3 : Int32) (m : mMem)  : BS l qX8_odds [.ref 81, .int x1, .int x2, .int x3] m (fX8_odds x1 x2 x3 m) := BS_of (by decide) (Nat.le_of_ble_eq_true rfl) (fun X _ => by
    show T qX8_odds X (fX8_odds x1 x2 x3 m) 0 [(0, .ref 81), (1, .int x1), (2, .int x2), (3, .int x3)] [] m
    unfold fX8_odds
    refine T_iload_n 1 rfl rfl dX8_odds_0 ?_
    refine T_i2l dX8_odds_1 ?_
    refine T_lconst (0 : Int64) (by decide) dX8_odds_2 ?_
    refine T_ldc2 lcX8_201 dX8_odds_3 ?_
    refine T_cSI [.long (x1).toInt64, .long (0 : Int64), .long (10 : Int64)] [] mkX8_in lmX8_67 rfl (by decide) (Nat.le_of_ble_eq_true rfl) dX8_odds_6 (bsX8_in _ (x1).toInt64 (0 : Int64) (10 : Int64) m) (fun z2 m1 => ?_)
    refine T_if_eq 42 dX8_odds_9 (by decide) (fun _ => ?_) (fun _ => ?_)
    · refine T_ldc2 lcX8_243 dX8_odds_42 ?_
      exact T_lret rfl dX8_odds_45
    · refine T_aload_n 0 rfl rfl dX8_odds_12 ?_
      refine T_iload_n 2 rfl rfl dX8_odds_13 ?_
      refine T_cVI (c := 8) [.int x2] [] mkX8_isLodger lmX8_176 rfl rfl (by decide) (Nat.le_of_ble_eq_true rfl) kd_81 dX8_odds_14 (bsX8_isLodger _ x2 m1) (fun z5 m4 => ?_)
      refine T_if_eq 42 dX8_odds_17 (by decide) (fun _ => ?_) (fun _ => ?_)
      · refine T_ldc2 lcX8_243 dX8_odds_42 ?_
        exact T_lret rfl dX8_odds_45
      · refine T_iload_n 3 rfl rfl dX8_odds_20 ?_
        refine T_i2l dX8_odds_21 ?_
        refine T_lconst (0 : Int64) (by decide) dX8_odds_22 ?_
        refine T_lconst (1 : Int64) (by decide) dX8_odds_23 ?_
        refine T_cSI [.long (x3).toInt64, .long (0 : Int64), .long (1 : Int64)] [] mkX8_in lmX8_67 rfl (by decide) (Nat.le_of_ble_eq_true rfl) dX8_odds_24 (bsX8_in _ (x3).toInt64 (0 : Int64) (1 : Int64) m4) (fun z8 m7 => ?_)
        refine T_if_eq 42 dX8_odds_27 (by decide) (fun _ => ?_) (fun _ => ?_)
        · refine T_ldc2 lcX8_243 dX8_odds_42 ?_
          exact T_lret rfl dX8_odds_45
        · refine T_aload_n 0 rfl rfl dX8_odds_30 ?_
          refine T_iload_n 1 rfl rfl dX8_odds_31 ?_
          refine T_iconst (1 : Int32) (by decide) dX8_odds_32 ?_
          refine T_iload_n 2 rfl rfl dX8_odds_33 ?_
          refine T_ishl dX8_odds_34 ?_
          refine T_iload_n 3 rfl rfl dX8_odds_35 ?_
          refine T_cVL (c := 8) [.int x1, .int ((1 : Int32) <<< (x2 &&& 31)), .int x3] [] mkX8_meanOf lmX8_239 rfl rfl (by decide) (Nat.le_of_ble_eq_true rfl) kd_81 dX8_odds_36 (bsX8_meanOf _ x1 ((1 : Int32) <<< (x2 &&& 31)) x3 m7) (fun z11 m10 => ?_)
          refine T_goto 45 dX8_odds_39 (by decide) ?_
          exact T_lret rfl dX8_odds_45)
def fX8_mean (x1 : Int32) (x2 : Int32) (m : mMem) : mR := bI (fX8_in (x1).toInt64 (0 : Int64) (10 : Int64) m) (fun z2 m1 => if z2 = (0 : Int32) then some (some (.long (-1 : Int64)), m1) else bI (fX8_in (x2).toInt64 (0 : Int64) (1 : Int64) m1) (fun z5 m4 => if z5 = (0 : Int32) then some (some (.long (-1 : Int64)), m4) else bL (fX8_meanOf x1 (15 : Int32) x2 m4) (fun z8 m7 => some (some (.long z8), m7))))
set_option maxRecDepth 100000 in
theorem bsX8_mean (l : Launch) (x1 : Int32) (x2 : Int32) (m : mMem)  : BS l qX8_mean [.ref 81, .int x1, .int x2] m (fX8_mean x1 x2 m) := BS_of (by decide) (Nat.le_of_ble_eq_true rfl) (fun X _ => by
    show T qX8_mean X (fX8_mean x1 x2 m) 0 [(0, .ref 81), (1, .int x1), (2, .int x2)] [] m
    unfold fX8_mean
    refine T_iload_n 1 rfl rfl dX8_mean_0 ?_
    refine T_i2l dX8_mean_1 ?_
    refine T_lconst (0 : Int64) (by decide) dX8_mean_2 ?_
    refine T_ldc2 lcX8_201 dX8_mean_3 ?_
    refine T_cSI [.long (x1).toInt64, .long (0 : Int64), .long (10 : Int64)] [] mkX8_in lmX8_67 rfl (by decide) (Nat.le_of_ble_eq_true rfl) dX8_mean_6 (bsX8_in _ (x1).toInt64 (0 : Int64) (10 : Int64) m) (fun z2 m1 => ?_)
    refine T_if_eq 33 dX8_mean_9 (by decide) (fun _ => ?_) (fun _ => ?_)
    · refine T_ldc2 lcX8_243 dX8_mean_33 ?_
      exact T_lret rfl dX8_mean_36
    · refine T_iload_n 2 rfl rfl dX8_mean_12 ?_
      refine T_i2l dX8_mean_13 ?_
      refine T_lconst (0 : Int64) (by decide) dX8_mean_14 ?_
      refine T_lconst (1 : Int64) (by decide) dX8_mean_15 ?_
      refine T_cSI [.long (x2).toInt64, .long (0 : Int64), .long (1 : Int64)] [] mkX8_in lmX8_67 rfl (by decide) (Nat.le_of_ble_eq_true rfl) dX8_mean_16 (bsX8_in _ (x2).toInt64 (0 : Int64) (1 : Int64) m1) (fun z5 m4 => ?_)
      refine T_if_eq 33 dX8_mean_19 (by decide) (fun _ => ?_) (fun _ => ?_)
      · refine T_ldc2 lcX8_243 dX8_mean_33 ?_
        exact T_lret rfl dX8_mean_36
      · refine T_aload_n 0 rfl rfl dX8_mean_22 ?_
        refine T_iload_n 1 rfl rfl dX8_mean_23 ?_
        refine T_bipush (15 : Int32) (by decide) dX8_mean_24 ?_
        refine T_iload_n 2 rfl rfl dX8_mean_26 ?_
        refine T_cVL (c := 8) [.int x1, .int (15 : Int32), .int x2] [] mkX8_meanOf lmX8_239 rfl rfl (by decide) (Nat.le_of_ble_eq_true rfl) kd_81 dX8_mean_27 (bsX8_meanOf _ x1 (15 : Int32) x2 m4) (fun z8 m7 => ?_)
        refine T_goto 36 dX8_mean_30 (by decide) ?_
        exact T_lret rfl dX8_mean_36)
theorem lmX8_247 : Cond.methodLink RX8 247 yX8_floorOf ∈ gdL := gd_mem 1269 (by decide +kernel) (by decide +kernel)
def bX8_isAsSeen_57  (k57 : Int32 × Int32 × mMem → mR) (s : Int32 × Int32 × mMem) : mR := match s with
  | (x2, x3, m) => if (m.1 81 29) ≤ x3 then gb x2 (some (some (.int x2), m)) else ga ((2 : Int32) * x3) 12 (li (((2 : Int32) * (m.1 95 (((2 : Int32) * x3)).toNatClampNeg)) + (1 : Int32)) (fun y5 => if x2 = (0 : Int32) then li (x3 + (1 : Int32)) (fun y6 => k57 ((0 : Int32), y6, m)) else ga ((140 : Int32) + y5) 210 (ga y5 210 (ga (((2 : Int32) * x3) + (1 : Int32)) 12 (if ((m.1 82 (((140 : Int32) + y5)).toNatClampNeg) - (m.1 82 (y5).toNatClampNeg)) = (m.1 95 ((((2 : Int32) * x3) + (1 : Int32))).toNatClampNeg) then li (x3 + (1 : Int32)) (fun y7 => k57 ((1 : Int32), y7, m)) else li (x3 + (1 : Int32)) (fun y8 => k57 ((0 : Int32), y8, m)))))))
set_option maxRecDepth 100000 in
theorem tX8_isAsSeen_57 (X : mCx)   : ∀ (n : Nat) (s : Int32 × Int32 × mMem), T qX8_isAsSeen X (lp (bX8_isAsSeen_57 ) n s) 57 [(0, .ref 81), (2, .int s.1), (3, .int s.2.1)] [] s.2.2 :=
  T_lp (body := bX8_isAsSeen_57 ) (lv := fun s => [(0, .ref 81), (2, .int s.1), (3, .int s.2.1)]) (st := fun _ => []) (μ := fun s : Int32 × Int32 × mMem => s.2.2) (fun k57 hk57 s => by
    obtain ⟨x2, x3, m⟩ := s
    show T qX8_isAsSeen X (bX8_isAsSeen_57  k57 (x2, x3, m)) 57 [(0, .ref 81), (2, .int x2), (3, .int x3)] [] m
    unfold bX8_isAsSeen_57
    dsimp only
    refine T_iload_n 2 rfl rfl dX8_isAsSeen_57 ?_
    refine T_aload_n 0 rfl rfl dX8_isAsSeen_58 ?_
    refine gIX8_149 rfl kd_81 dX8_isAsSeen_59 ?_
    refine T_icmp_ge 127 dX8_isAsSeen_62 (by decide) (fun _ => ?_) (fun _ => ?_)
    · refine T_iload_n 1 rfl rfl dX8_isAsSeen_127 ?_
      exact T_zret rfl dX8_isAsSeen_128
    · refine T_iconst (2 : Int32) (by decide) dX8_isAsSeen_65 ?_
      refine T_aload_n 0 rfl rfl dX8_isAsSeen_66 ?_
      refine gRX8_49 rfl kd_81 95 rfl dX8_isAsSeen_67 ?_
      refine T_iconst (2 : Int32) (by decide) dX8_isAsSeen_70 ?_
      refine T_iload_n 2 rfl rfl dX8_isAsSeen_71 ?_
      refine T_imul dX8_isAsSeen_72 ?_
      refine T_iald kd_95 dX8_isAsSeen_73 ?_
      refine T_imul dX8_isAsSeen_74 ?_
      refine T_iconst (1 : Int32) (by decide) dX8_isAsSeen_75 ?_
      refine T_iadd dX8_isAsSeen_76 ?_
      refine T_istore (lv' := [(4, .int (((2 : Int32) * (m.1 95 (((2 : Int32) * x3)).toNatClampNeg)) + (1 : Int32))), (0, .ref 81), (2, .int x2), (3, .int x3)]) (Nat.le_of_ble_eq_true rfl) rfl dX8_isAsSeen_77 ?_
      refine T_li (fun y5 => ?_)
      refine T_iload_n 2 rfl rfl dX8_isAsSeen_79 ?_
      refine T_if_eq 119 dX8_isAsSeen_80 (by decide) (fun _ => ?_) (fun _ => ?_)
      · refine T_iconst (0 : Int32) (by decide) dX8_isAsSeen_119 ?_
        refine T_istore_n (lv' := [(2, .int (0 : Int32)), (4, .int y5), (0, .ref 81), (3, .int x3)]) rfl (Nat.le_of_ble_eq_true rfl) rfl dX8_isAsSeen_120 ?_
        refine T_iinc (lv' := [(3, .int (x3 + (1 : Int32))), (2, .int (0 : Int32)), (4, .int y5), (0, .ref 81)]) 3 (1 : Int32) rfl (by decide) (Nat.le_of_ble_eq_true rfl) rfl dX8_isAsSeen_121 ?_
        refine T_li (fun y6 => ?_)
        refine T_goto 57 dX8_isAsSeen_124 (by decide) ?_
        exact T_sub [3, 1, 0] rfl (hk57 ((0 : Int32), y6, m))
      · refine T_aload_n 1 rfl rfl dX8_isAsSeen_83 ?_
        refine gRX8_7 rfl kd_81 82 rfl dX8_isAsSeen_84 ?_
        refine T_sipush (140 : Int32) (by decide) dX8_isAsSeen_87 ?_
        refine T_iload 0 rfl dX8_isAsSeen_90 ?_
        refine T_iadd dX8_isAsSeen_92 ?_
        refine T_iald kd_82 dX8_isAsSeen_93 ?_
        refine T_aload_n 1 rfl rfl dX8_isAsSeen_94 ?_
        refine gRX8_7 rfl kd_81 82 rfl dX8_isAsSeen_95 ?_
        refine T_iload 0 rfl dX8_isAsSeen_98 ?_
        refine T_iald kd_82 dX8_isAsSeen_100 ?_
        refine T_isub dX8_isAsSeen_101 ?_
        refine T_aload_n 1 rfl rfl dX8_isAsSeen_102 ?_
        refine gRX8_49 rfl kd_81 95 rfl dX8_isAsSeen_103 ?_
        refine T_iconst (2 : Int32) (by decide) dX8_isAsSeen_106 ?_
        refine T_iload_n 3 rfl rfl dX8_isAsSeen_107 ?_
        refine T_imul dX8_isAsSeen_108 ?_
        refine T_iconst (1 : Int32) (by decide) dX8_isAsSeen_109 ?_
        refine T_iadd dX8_isAsSeen_110 ?_
        refine T_iald kd_95 dX8_isAsSeen_111 ?_
        refine T_icmp_ne 119 dX8_isAsSeen_112 (by decide) (fun _ => ?_) (fun _ => ?_)
        · refine T_iconst (1 : Int32) (by decide) dX8_isAsSeen_115 ?_
          refine T_goto 120 dX8_isAsSeen_116 (by decide) ?_
          refine T_istore_n (lv' := [(2, .int (1 : Int32)), (4, .int y5), (0, .ref 81), (3, .int x3)]) rfl (Nat.le_of_ble_eq_true rfl) rfl dX8_isAsSeen_120 ?_
          refine T_iinc (lv' := [(3, .int (x3 + (1 : Int32))), (2, .int (1 : Int32)), (4, .int y5), (0, .ref 81)]) 3 (1 : Int32) rfl (by decide) (Nat.le_of_ble_eq_true rfl) rfl dX8_isAsSeen_121 ?_
          refine T_li (fun y7 => ?_)
          refine T_goto 57 dX8_isAsSeen_124 (by decide) ?_
          exact T_sub [3, 1, 0] rfl (hk57 ((1 : Int32), y7, m))
        · refine T_iconst (0 : Int32) (by decide) dX8_isAsSeen_119 ?_
          refine T_istore_n (lv' := [(2, .int (0 : Int32)), (4, .int y5), (0, .ref 81), (3, .int x3)]) rfl (Nat.le_of_ble_eq_true rfl) rfl dX8_isAsSeen_120 ?_
          refine T_iinc (lv' := [(3, .int (x3 + (1 : Int32))), (2, .int (0 : Int32)), (4, .int y5), (0, .ref 81)]) 3 (1 : Int32) rfl (by decide) (Nat.le_of_ble_eq_true rfl) rfl dX8_isAsSeen_121 ?_
          refine T_li (fun y8 => ?_)
          refine T_goto 57 dX8_isAsSeen_124 (by decide) ?_
          exact T_sub [3, 1, 0] rfl (hk57 ((0 : Int32), y8, m)))
def bX8_isAsSeen_10 (x1 : Int32) (k10 : Int32 × mMem → mR) (s : Int32 × mMem) : mR := match s with
  | (x2, m) => if (m.1 81 4) ≤ x2 then bI (fX8_daysOn (140 : Int32) (1 : Int32) m) (fun z3 m2 => lp (bX8_isAsSeen_57 ) FU ((1 : Int32), (0 : Int32), m2)) else bI (fX8_floorOf x1 x2 m) (fun z10 m9 => ga (((160 : Int32) + ((3 : Int32) * x2)) + (2 : Int32)) 210 (lt (si m9 82 ((((160 : Int32) + ((3 : Int32) * x2)) + (2 : Int32))).toNatClampNeg z10) (fun m12 => li (x2 + (1 : Int32)) (fun y13 => k10 (y13, m12)))))
set_option maxRecDepth 100000 in
theorem tX8_isAsSeen_10 (X : mCx) (x1 : Int32)  : ∀ (n : Nat) (s : Int32 × mMem), T qX8_isAsSeen X (lp (bX8_isAsSeen_10 x1) n s) 10 [(0, .ref 81), (1, .int x1), (2, .int s.1)] [] s.2 :=
  T_lp (body := bX8_isAsSeen_10 x1) (lv := fun s => [(0, .ref 81), (1, .int x1), (2, .int s.1)]) (st := fun _ => []) (μ := fun s : Int32 × mMem => s.2) (fun k10 hk10 s => by
    obtain ⟨x2, m⟩ := s
    show T qX8_isAsSeen X (bX8_isAsSeen_10 x1 k10 (x2, m)) 10 [(0, .ref 81), (1, .int x1), (2, .int x2)] [] m
    unfold bX8_isAsSeen_10
    dsimp only
    refine T_iload_n 2 rfl rfl dX8_isAsSeen_10 ?_
    refine T_aload_n 0 rfl rfl dX8_isAsSeen_11 ?_
    refine gIX8_146 rfl kd_81 dX8_isAsSeen_12 ?_
    refine T_icmp_ge 44 dX8_isAsSeen_15 (by decide) (fun _ => ?_) (fun _ => ?_)
    · refine T_aload_n 0 rfl rfl dX8_isAsSeen_44 ?_
      refine T_sipush (140 : Int32) (by decide) dX8_isAsSeen_45 ?_
      refine T_iconst (1 : Int32) (by decide) dX8_isAsSeen_48 ?_
      refine T_cVI (c := 8) [.int (140 : Int32), .int (1 : Int32)] [] mkX8_daysOn lmX8_220 rfl rfl (by decide) (Nat.le_of_ble_eq_true rfl) kd_81 dX8_isAsSeen_49 (bsX8_daysOn _ (140 : Int32) (1 : Int32) m) (fun z3 m2 => ?_)
      refine T_pop rfl dX8_isAsSeen_52 ?_
      refine T_iconst (1 : Int32) (by decide) dX8_isAsSeen_53 ?_
      refine T_istore_n (lv' := [(2, .int (1 : Int32)), (0, .ref 81), (1, .int x1)]) rfl (Nat.le_of_ble_eq_true rfl) rfl dX8_isAsSeen_54 ?_
      refine T_iconst (0 : Int32) (by decide) dX8_isAsSeen_55 ?_
      refine T_istore_n (lv' := [(3, .int (0 : Int32)), (2, .int (1 : Int32)), (0, .ref 81), (1, .int x1)]) rfl (Nat.le_of_ble_eq_true rfl) rfl dX8_isAsSeen_56 ?_
      exact T_sub [2, 1, 0] rfl (tX8_isAsSeen_57 X   FU ((1 : Int32), (0 : Int32), m2))
    · refine T_aload_n 0 rfl rfl dX8_isAsSeen_18 ?_
      refine gRX8_7 rfl kd_81 82 rfl dX8_isAsSeen_19 ?_
      refine T_sipush (160 : Int32) (by decide) dX8_isAsSeen_22 ?_
      refine T_iconst (3 : Int32) (by decide) dX8_isAsSeen_25 ?_
      refine T_iload_n 2 rfl rfl dX8_isAsSeen_26 ?_
      refine T_imul dX8_isAsSeen_27 ?_
      refine T_iadd dX8_isAsSeen_28 ?_
      refine T_iconst (2 : Int32) (by decide) dX8_isAsSeen_29 ?_
      refine T_iadd dX8_isAsSeen_30 ?_
      refine T_aload_n 0 rfl rfl dX8_isAsSeen_31 ?_
      refine T_iload_n 1 rfl rfl dX8_isAsSeen_32 ?_
      refine T_iload_n 2 rfl rfl dX8_isAsSeen_33 ?_
      refine T_cVI (c := 8) [.int x1, .int x2] [.int (((160 : Int32) + ((3 : Int32) * x2)) + (2 : Int32)), .ref 82] mkX8_floorOf lmX8_247 rfl rfl (by decide) (Nat.le_of_ble_eq_true rfl) kd_81 dX8_isAsSeen_34 (bsX8_floorOf _ x1 x2 m) (fun z10 m9 => ?_)
      refine T_iast _ rfl kd_82 dX8_isAsSeen_37 ?_
      refine T_lt (fun m12 => ?_)
      refine T_iinc (lv' := [(2, .int (x2 + (1 : Int32))), (0, .ref 81), (1, .int x1)]) 2 (1 : Int32) rfl (by decide) (Nat.le_of_ble_eq_true rfl) rfl dX8_isAsSeen_38 ?_
      refine T_li (fun y13 => ?_)
      refine T_goto 10 dX8_isAsSeen_41 (by decide) ?_
      exact T_sub [1, 2, 0] rfl (hk10 (y13, m12)))
def fX8_isAsSeen (x1 : Int32) (m : mMem) : mR := bV (fX8_copies (0 : Int32) (140 : Int32) m) (fun m1 => lp (bX8_isAsSeen_10 x1) FU ((0 : Int32), m1))
set_option maxRecDepth 100000 in
theorem bsX8_isAsSeen (l : Launch) (x1 : Int32) (m : mMem)  : BS l qX8_isAsSeen [.ref 81, .int x1] m (fX8_isAsSeen x1 m) := BS_of (by decide) (Nat.le_of_ble_eq_true rfl) (fun X _ => by
    show T qX8_isAsSeen X (fX8_isAsSeen x1 m) 0 [(0, .ref 81), (1, .int x1)] [] m
    unfold fX8_isAsSeen
    refine T_aload_n 0 rfl rfl dX8_isAsSeen_0 ?_
    refine T_iconst (0 : Int32) (by decide) dX8_isAsSeen_1 ?_
    refine T_sipush (140 : Int32) (by decide) dX8_isAsSeen_2 ?_
    refine T_cVV (c := 8) [.int (0 : Int32), .int (140 : Int32)] [] mkX8_copies lmX8_223 rfl rfl (by decide) (Nat.le_of_ble_eq_true rfl) kd_81 dX8_isAsSeen_5 (bsX8_copies _ (0 : Int32) (140 : Int32) m) (fun m1 => ?_)
    refine T_iconst (0 : Int32) (by decide) dX8_isAsSeen_8 ?_
    refine T_istore_n (lv' := [(2, .int (0 : Int32)), (0, .ref 81), (1, .int x1)]) rfl (Nat.le_of_ble_eq_true rfl) rfl dX8_isAsSeen_9 ?_
    exact T_sub [1, 2, 0] rfl (tX8_isAsSeen_10 X x1  FU ((0 : Int32), m1)))
theorem lmX8_250 : Cond.methodLink RX8 250 yX8_allFloors ∈ gdL := gd_mem 1261 (by decide +kernel) (by decide +kernel)
theorem lmX8_253 : Cond.methodLink RX8 253 yX8_isAsSeen ∈ gdL := gd_mem 1265 (by decide +kernel) (by decide +kernel)
def bX8_fits_4  (k4 : Int32 × Int32 × mMem → mR) (s : Int32 × Int32 × mMem) : mR := match s with
  | (x1, x2, m) => bI (fX8_allFloors m) (fun z2 m1 => if z2 ≤ x2 then some (some (.int x1), m1) else bI (fX8_isAsSeen x2 m1) (fun z5 m4 => if z5 = (0 : Int32) then li (x1 + (0 : Int32)) (fun y7 => li (x2 + (1 : Int32)) (fun y8 => k4 (y7, y8, m4))) else li (x1 + (1 : Int32)) (fun y9 => li (x2 + (1 : Int32)) (fun y10 => k4 (y9, y10, m4)))))
set_option maxRecDepth 100000 in
theorem tX8_fits_4 (X : mCx)   : ∀ (n : Nat) (s : Int32 × Int32 × mMem), T qX8_fits X (lp (bX8_fits_4 ) n s) 4 [(0, .ref 81), (1, .int s.1), (2, .int s.2.1)] [] s.2.2 :=
  T_lp (body := bX8_fits_4 ) (lv := fun s => [(0, .ref 81), (1, .int s.1), (2, .int s.2.1)]) (st := fun _ => []) (μ := fun s : Int32 × Int32 × mMem => s.2.2) (fun k4 hk4 s => by
    obtain ⟨x1, x2, m⟩ := s
    show T qX8_fits X (bX8_fits_4  k4 (x1, x2, m)) 4 [(0, .ref 81), (1, .int x1), (2, .int x2)] [] m
    unfold bX8_fits_4
    dsimp only
    refine T_iload_n 2 rfl rfl dX8_fits_4 ?_
    refine T_aload_n 0 rfl rfl dX8_fits_5 ?_
    refine T_cVI (c := 8) [] [.int x2] mkX8_allFloors lmX8_250 rfl rfl (by decide) (Nat.le_of_ble_eq_true rfl) kd_81 dX8_fits_6 (bsX8_allFloors _  m) (fun z2 m1 => ?_)
    refine T_icmp_ge 34 dX8_fits_9 (by decide) (fun _ => ?_) (fun _ => ?_)
    · refine T_iload_n 1 rfl rfl dX8_fits_34 ?_
      exact T_iret rfl dX8_fits_35
    · refine T_iload_n 1 rfl rfl dX8_fits_12 ?_
      refine T_aload_n 0 rfl rfl dX8_fits_13 ?_
      refine T_iload_n 2 rfl rfl dX8_fits_14 ?_
      refine T_cVI (c := 8) [.int x2] [.int x1] mkX8_isAsSeen lmX8_253 rfl rfl (by decide) (Nat.le_of_ble_eq_true rfl) kd_81 dX8_fits_15 (bsX8_isAsSeen _ x2 m1) (fun z5 m4 => ?_)
      refine T_if_eq 25 dX8_fits_18 (by decide) (fun _ => ?_) (fun _ => ?_)
      · refine T_iconst (0 : Int32) (by decide) dX8_fits_25 ?_
        refine T_iadd dX8_fits_26 ?_
        refine T_istore_n (lv' := [(1, .int (x1 + (0 : Int32))), (0, .ref 81), (2, .int x2)]) rfl (Nat.le_of_ble_eq_true rfl) rfl dX8_fits_27 ?_
        refine T_li (fun y7 => ?_)
        refine T_iinc (lv' := [(2, .int (x2 + (1 : Int32))), (1, .int y7), (0, .ref 81)]) 2 (1 : Int32) rfl (by decide) (Nat.le_of_ble_eq_true rfl) rfl dX8_fits_28 ?_
        refine T_li (fun y8 => ?_)
        refine T_goto 4 dX8_fits_31 (by decide) ?_
        exact T_sub [2, 1, 0] rfl (hk4 (y7, y8, m4))
      · refine T_iconst (1 : Int32) (by decide) dX8_fits_21 ?_
        refine T_goto 26 dX8_fits_22 (by decide) ?_
        refine T_iadd dX8_fits_26 ?_
        refine T_istore_n (lv' := [(1, .int (x1 + (1 : Int32))), (0, .ref 81), (2, .int x2)]) rfl (Nat.le_of_ble_eq_true rfl) rfl dX8_fits_27 ?_
        refine T_li (fun y9 => ?_)
        refine T_iinc (lv' := [(2, .int (x2 + (1 : Int32))), (1, .int y9), (0, .ref 81)]) 2 (1 : Int32) rfl (by decide) (Nat.le_of_ble_eq_true rfl) rfl dX8_fits_28 ?_
        refine T_li (fun y10 => ?_)
        refine T_goto 4 dX8_fits_31 (by decide) ?_
        exact T_sub [2, 1, 0] rfl (hk4 (y9, y10, m4)))
def fX8_fits  (m : mMem) : mR := lp (bX8_fits_4 ) FU ((0 : Int32), (0 : Int32), m)
set_option maxRecDepth 100000 in
theorem bsX8_fits (l : Launch)  (m : mMem)  : BS l qX8_fits [.ref 81] m (fX8_fits  m) := BS_of (by decide) (Nat.le_of_ble_eq_true rfl) (fun X _ => by
    show T qX8_fits X (fX8_fits  m) 0 [(0, .ref 81)] [] m
    unfold fX8_fits
    refine T_iconst (0 : Int32) (by decide) dX8_fits_0 ?_
    refine T_istore_n (lv' := [(1, .int (0 : Int32)), (0, .ref 81)]) rfl (Nat.le_of_ble_eq_true rfl) rfl dX8_fits_1 ?_
    refine T_iconst (0 : Int32) (by decide) dX8_fits_2 ?_
    refine T_istore_n (lv' := [(2, .int (0 : Int32)), (1, .int (0 : Int32)), (0, .ref 81)]) rfl (Nat.le_of_ble_eq_true rfl) rfl dX8_fits_3 ?_
    exact T_sub [2, 1, 0] rfl (tX8_fits_4 X   FU ((0 : Int32), (0 : Int32), m)))
def bX8_floors_14 (x1 : Int32) (k14 : Int32 × Int32 × mMem → mR) (s : Int32 × Int32 × mMem) : mR := match s with
  | (x2, x3, m) => bI (fX8_allFloors m) (fun z5 m4 => if z5 ≤ x3 then some (some (.int x2), m4) else bI (fX8_isAsSeen x3 m4) (fun z8 m7 => if z8 = (0 : Int32) then li (x2 ||| (0 : Int32)) (fun y10 => li (x3 + (1 : Int32)) (fun y11 => k14 (y10, y11, m7))) else bI (fX8_floorOf x3 x1 m7) (fun z13 m12 => li (x2 ||| ((1 : Int32) <<< (z13 &&& 31))) (fun y15 => li (x3 + (1 : Int32)) (fun y16 => k14 (y15, y16, m12))))))
set_option maxRecDepth 100000 in
theorem tX8_floors_14 (X : mCx) (x1 : Int32)  : ∀ (n : Nat) (s : Int32 × Int32 × mMem), T qX8_floors X (lp (bX8_floors_14 x1) n s) 14 [(0, .ref 81), (1, .int x1), (2, .int s.1), (3, .int s.2.1)] [] s.2.2 :=
  T_lp (body := bX8_floors_14 x1) (lv := fun s => [(0, .ref 81), (1, .int x1), (2, .int s.1), (3, .int s.2.1)]) (st := fun _ => []) (μ := fun s : Int32 × Int32 × mMem => s.2.2) (fun k14 hk14 s => by
    obtain ⟨x2, x3, m⟩ := s
    show T qX8_floors X (bX8_floors_14 x1 k14 (x2, x3, m)) 14 [(0, .ref 81), (1, .int x1), (2, .int x2), (3, .int x3)] [] m
    unfold bX8_floors_14
    dsimp only
    refine T_iload_n 3 rfl rfl dX8_floors_14 ?_
    refine T_aload_n 0 rfl rfl dX8_floors_15 ?_
    refine T_cVI (c := 8) [] [.int x3] mkX8_allFloors lmX8_250 rfl rfl (by decide) (Nat.le_of_ble_eq_true rfl) kd_81 dX8_floors_16 (bsX8_allFloors _  m) (fun z5 m4 => ?_)
    refine T_icmp_ge 51 dX8_floors_19 (by decide) (fun _ => ?_) (fun _ => ?_)
    · refine T_iload_n 2 rfl rfl dX8_floors_51 ?_
      exact T_iret rfl dX8_floors_52
    · refine T_iload_n 2 rfl rfl dX8_floors_22 ?_
      refine T_aload_n 0 rfl rfl dX8_floors_23 ?_
      refine T_iload_n 3 rfl rfl dX8_floors_24 ?_
      refine T_cVI (c := 8) [.int x3] [.int x2] mkX8_isAsSeen lmX8_253 rfl rfl (by decide) (Nat.le_of_ble_eq_true rfl) kd_81 dX8_floors_25 (bsX8_isAsSeen _ x3 m4) (fun z8 m7 => ?_)
      refine T_if_eq 42 dX8_floors_28 (by decide) (fun _ => ?_) (fun _ => ?_)
      · refine T_iconst (0 : Int32) (by decide) dX8_floors_42 ?_
        refine T_ior dX8_floors_43 ?_
        refine T_istore_n (lv' := [(2, .int (x2 ||| (0 : Int32))), (0, .ref 81), (1, .int x1), (3, .int x3)]) rfl (Nat.le_of_ble_eq_true rfl) rfl dX8_floors_44 ?_
        refine T_li (fun y10 => ?_)
        refine T_iinc (lv' := [(3, .int (x3 + (1 : Int32))), (2, .int y10), (0, .ref 81), (1, .int x1)]) 3 (1 : Int32) rfl (by decide) (Nat.le_of_ble_eq_true rfl) rfl dX8_floors_45 ?_
        refine T_li (fun y11 => ?_)
        refine T_goto 14 dX8_floors_48 (by decide) ?_
        exact T_sub [2, 3, 1, 0] rfl (hk14 (y10, y11, m7))
      · refine T_iconst (1 : Int32) (by decide) dX8_floors_31 ?_
        refine T_aload_n 0 rfl rfl dX8_floors_32 ?_
        refine T_iload_n 3 rfl rfl dX8_floors_33 ?_
        refine T_iload_n 1 rfl rfl dX8_floors_34 ?_
        refine T_cVI (c := 8) [.int x3, .int x1] [.int (1 : Int32), .int x2] mkX8_floorOf lmX8_247 rfl rfl (by decide) (Nat.le_of_ble_eq_true rfl) kd_81 dX8_floors_35 (bsX8_floorOf _ x3 x1 m7) (fun z13 m12 => ?_)
        refine T_ishl dX8_floors_38 ?_
        refine T_goto 43 dX8_floors_39 (by decide) ?_
        refine T_ior dX8_floors_43 ?_
        refine T_istore_n (lv' := [(2, .int (x2 ||| ((1 : Int32) <<< (z13 &&& 31)))), (0, .ref 81), (1, .int x1), (3, .int x3)]) rfl (Nat.le_of_ble_eq_true rfl) rfl dX8_floors_44 ?_
        refine T_li (fun y15 => ?_)
        refine T_iinc (lv' := [(3, .int (x3 + (1 : Int32))), (2, .int y15), (0, .ref 81), (1, .int x1)]) 3 (1 : Int32) rfl (by decide) (Nat.le_of_ble_eq_true rfl) rfl dX8_floors_45 ?_
        refine T_li (fun y16 => ?_)
        refine T_goto 14 dX8_floors_48 (by decide) ?_
        exact T_sub [2, 3, 1, 0] rfl (hk14 (y15, y16, m12)))
def fX8_floors (x1 : Int32) (m : mMem) : mR := bI (fX8_isLodger x1 m) (fun z2 m1 => if z2 = (0 : Int32) then some (some (.int (-1 : Int32)), m1) else lp (bX8_floors_14 x1) FU ((0 : Int32), (0 : Int32), m1))
set_option maxRecDepth 100000 in
theorem bsX8_floors (l : Launch) (x1 : Int32) (m : mMem)  : BS l qX8_floors [.ref 81, .int x1] m (fX8_floors x1 m) := BS_of (by decide) (Nat.le_of_ble_eq_true rfl) (fun X _ => by
    show T qX8_floors X (fX8_floors x1 m) 0 [(0, .ref 81), (1, .int x1)] [] m
    unfold fX8_floors
    refine T_aload_n 0 rfl rfl dX8_floors_0 ?_
    refine T_iload_n 1 rfl rfl dX8_floors_1 ?_
    refine T_cVI (c := 8) [.int x1] [] mkX8_isLodger lmX8_176 rfl rfl (by decide) (Nat.le_of_ble_eq_true rfl) kd_81 dX8_floors_2 (bsX8_isLodger _ x1 m) (fun z2 m1 => ?_)
    refine T_if_ne 10 dX8_floors_5 (by decide) (fun _ => ?_) (fun _ => ?_)
    · refine T_iconst (-1 : Int32) (by decide) dX8_floors_8 ?_
      exact T_iret rfl dX8_floors_9
    · refine T_iconst (0 : Int32) (by decide) dX8_floors_10 ?_
      refine T_istore_n (lv' := [(2, .int (0 : Int32)), (0, .ref 81), (1, .int x1)]) rfl (Nat.le_of_ble_eq_true rfl) rfl dX8_floors_11 ?_
      refine T_iconst (0 : Int32) (by decide) dX8_floors_12 ?_
      refine T_istore_n (lv' := [(3, .int (0 : Int32)), (2, .int (0 : Int32)), (0, .ref 81), (1, .int x1)]) rfl (Nat.le_of_ble_eq_true rfl) rfl dX8_floors_13 ?_
      exact T_sub [2, 3, 1, 0] rfl (tX8_floors_14 X x1  FU ((0 : Int32), (0 : Int32), m1)))
