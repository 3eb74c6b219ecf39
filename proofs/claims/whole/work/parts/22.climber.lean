abbrev qX1_shorter : mMI := (yX1_shorter, cX1_shorter, 4, (some .int), 1)
theorem dX1_shorter_0 : decode cX1_shorter 0 = .ok (.iload_n 0, 1) := by decide +kernel
theorem dX1_shorter_1 : decode cX1_shorter 1 = .ok (.ifCond .eq 7, 3) := by decide +kernel
theorem dX1_shorter_4 : decode cX1_shorter 4 = .ok (.iload_n 1, 1) := by decide +kernel
theorem dX1_shorter_5 : decode cX1_shorter 5 = .ok (.ifCond .ne 7, 3) := by decide +kernel
theorem dX1_shorter_8 : decode cX1_shorter 8 = .ok (.iload_n 0, 1) := by decide +kernel
theorem dX1_shorter_9 : decode cX1_shorter 9 = .ok (.iload_n 1, 1) := by decide +kernel
theorem dX1_shorter_10 : decode cX1_shorter 10 = .ok (.ior, 1) := by decide +kernel
theorem dX1_shorter_11 : decode cX1_shorter 11 = .ok (.ireturn, 1) := by decide +kernel
theorem dX1_shorter_12 : decode cX1_shorter 12 = .ok (.iload_n 0, 1) := by decide +kernel
theorem dX1_shorter_13 : decode cX1_shorter 13 = .ok (.invokestatic 42, 3) := by decide +kernel
theorem dX1_shorter_16 : decode cX1_shorter 16 = .ok (.iload_n 1, 1) := by decide +kernel
theorem dX1_shorter_17 : decode cX1_shorter 17 = .ok (.invokestatic 42, 3) := by decide +kernel
theorem dX1_shorter_20 : decode cX1_shorter 20 = .ok (.isub, 1) := by decide +kernel
theorem dX1_shorter_21 : decode cX1_shorter 21 = .ok (.istore_n 2, 1) := by decide +kernel
theorem dX1_shorter_22 : decode cX1_shorter 22 = .ok (.iload_n 2, 1) := by decide +kernel
theorem dX1_shorter_23 : decode cX1_shorter 23 = .ok (.ifCond .eq 13, 3) := by decide +kernel
theorem dX1_shorter_26 : decode cX1_shorter 26 = .ok (.iload_n 2, 1) := by decide +kernel
theorem dX1_shorter_27 : decode cX1_shorter 27 = .ok (.ifCond .ge 7, 3) := by decide +kernel
theorem dX1_shorter_30 : decode cX1_shorter 30 = .ok (.iload_n 0, 1) := by decide +kernel
theorem dX1_shorter_31 : decode cX1_shorter 31 = .ok (.goto 4, 3) := by decide +kernel
theorem dX1_shorter_34 : decode cX1_shorter 34 = .ok (.iload_n 1, 1) := by decide +kernel
theorem dX1_shorter_35 : decode cX1_shorter 35 = .ok (.ireturn, 1) := by decide +kernel
theorem dX1_shorter_36 : decode cX1_shorter 36 = .ok (.iload_n 0, 1) := by decide +kernel
theorem dX1_shorter_37 : decode cX1_shorter 37 = .ok (.iload_n 1, 1) := by decide +kernel
theorem dX1_shorter_38 : decode cX1_shorter 38 = .ok (.ixor, 1) := by decide +kernel
theorem dX1_shorter_39 : decode cX1_shorter 39 = .ok (.iload_n 0, 1) := by decide +kernel
theorem dX1_shorter_40 : decode cX1_shorter 40 = .ok (.iload_n 1, 1) := by decide +kernel
theorem dX1_shorter_41 : decode cX1_shorter 41 = .ok (.ixor, 1) := by decide +kernel
theorem dX1_shorter_42 : decode cX1_shorter 42 = .ok (.ineg, 1) := by decide +kernel
theorem dX1_shorter_43 : decode cX1_shorter 43 = .ok (.iand, 1) := by decide +kernel
theorem dX1_shorter_44 : decode cX1_shorter 44 = .ok (.istore_n 3, 1) := by decide +kernel
theorem dX1_shorter_45 : decode cX1_shorter 45 = .ok (.iload_n 0, 1) := by decide +kernel
theorem dX1_shorter_46 : decode cX1_shorter 46 = .ok (.iload_n 3, 1) := by decide +kernel
theorem dX1_shorter_47 : decode cX1_shorter 47 = .ok (.iand, 1) := by decide +kernel
theorem dX1_shorter_48 : decode cX1_shorter 48 = .ok (.ifCond .eq 7, 3) := by decide +kernel
theorem dX1_shorter_51 : decode cX1_shorter 51 = .ok (.iload_n 0, 1) := by decide +kernel
theorem dX1_shorter_52 : decode cX1_shorter 52 = .ok (.goto 4, 3) := by decide +kernel
theorem dX1_shorter_55 : decode cX1_shorter 55 = .ok (.iload_n 1, 1) := by decide +kernel
theorem dX1_shorter_56 : decode cX1_shorter 56 = .ok (.ireturn, 1) := by decide +kernel
theorem mkX1_shorter : mokS qX1_shorter 2 := ⟨⟨⟨⟨by decide, by decide, by decide +kernel⟩, by decide⟩, gd_mem 54 (by decide +kernel) (by decide +kernel), gd_mem 603 (by decide +kernel) (by decide +kernel)⟩, gd_mem 602 (by decide +kernel) (by decide +kernel)⟩
abbrev qX1_shortestOf : mMI := (yX1_shortestOf, cX1_shortestOf, 5, (some .int), 2)
theorem dX1_shortestOf_0 : decode cX1_shortestOf 0 = .ok (.iconst 0, 1) := by decide +kernel
theorem dX1_shortestOf_1 : decode cX1_shortestOf 1 = .ok (.istore_n 3, 1) := by decide +kernel
theorem dX1_shortestOf_2 : decode cX1_shortestOf 2 = .ok (.iload_n 1, 1) := by decide +kernel
theorem dX1_shortestOf_3 : decode cX1_shortestOf 3 = .ok (.istore 4, 2) := by decide +kernel
theorem dX1_shortestOf_5 : decode cX1_shortestOf 5 = .ok (.iload 4, 2) := by decide +kernel
theorem dX1_shortestOf_7 : decode cX1_shortestOf 7 = .ok (.iload_n 2, 1) := by decide +kernel
theorem dX1_shortestOf_8 : decode cX1_shortestOf 8 = .ok (.if_icmp .ge 18, 3) := by decide +kernel
theorem dX1_shortestOf_11 : decode cX1_shortestOf 11 = .ok (.iload_n 3, 1) := by decide +kernel
theorem dX1_shortestOf_12 : decode cX1_shortestOf 12 = .ok (.aload_n 0, 1) := by decide +kernel
theorem dX1_shortestOf_13 : decode cX1_shortestOf 13 = .ok (.iload 4, 2) := by decide +kernel
theorem dX1_shortestOf_15 : decode cX1_shortestOf 15 = .ok (.iaload, 1) := by decide +kernel
theorem dX1_shortestOf_16 : decode cX1_shortestOf 16 = .ok (.invokestatic 38, 3) := by decide +kernel
theorem dX1_shortestOf_19 : decode cX1_shortestOf 19 = .ok (.istore_n 3, 1) := by decide +kernel
theorem dX1_shortestOf_20 : decode cX1_shortestOf 20 = .ok (.iinc 4 1, 3) := by decide +kernel
theorem dX1_shortestOf_23 : decode cX1_shortestOf 23 = .ok (.goto (-18), 3) := by decide +kernel
theorem dX1_shortestOf_26 : decode cX1_shortestOf 26 = .ok (.iload_n 3, 1) := by decide +kernel
theorem dX1_shortestOf_27 : decode cX1_shortestOf 27 = .ok (.ireturn, 1) := by decide +kernel
theorem mkX1_shortestOf : mokS qX1_shortestOf 3 := ⟨⟨⟨⟨by decide, by decide, by decide +kernel⟩, by decide⟩, gd_mem 54 (by decide +kernel) (by decide +kernel), gd_mem 600 (by decide +kernel) (by decide +kernel)⟩, gd_mem 599 (by decide +kernel) (by decide +kernel)⟩
abbrev qX1_findPaths : mMI := (yX1_findPaths, cX1_findPaths, 7, none, 3)
theorem dX1_findPaths_0 : decode cX1_findPaths 0 = .ok (.iconst 0, 1) := by decide +kernel
theorem dX1_findPaths_1 : decode cX1_findPaths 1 = .ok (.istore 4, 2) := by decide +kernel
theorem dX1_findPaths_3 : decode cX1_findPaths 3 = .ok (.iload 4, 2) := by decide +kernel
theorem dX1_findPaths_5 : decode cX1_findPaths 5 = .ok (.iload_n 2, 1) := by decide +kernel
theorem dX1_findPaths_6 : decode cX1_findPaths 6 = .ok (.if_icmp .gt 83, 3) := by decide +kernel
theorem dX1_findPaths_9 : decode cX1_findPaths 9 = .ok (.iload_n 0, 1) := by decide +kernel
theorem dX1_findPaths_10 : decode cX1_findPaths 10 = .ok (.iload 4, 2) := by decide +kernel
theorem dX1_findPaths_12 : decode cX1_findPaths 12 = .ok (.ishr, 1) := by decide +kernel
theorem dX1_findPaths_13 : decode cX1_findPaths 13 = .ok (.iconst 1, 1) := by decide +kernel
theorem dX1_findPaths_14 : decode cX1_findPaths 14 = .ok (.iand, 1) := by decide +kernel
theorem dX1_findPaths_15 : decode cX1_findPaths 15 = .ok (.ifCond .eq 7, 3) := by decide +kernel
theorem dX1_findPaths_18 : decode cX1_findPaths 18 = .ok (.iconst 1, 1) := by decide +kernel
theorem dX1_findPaths_19 : decode cX1_findPaths 19 = .ok (.goto 4, 3) := by decide +kernel
theorem dX1_findPaths_22 : decode cX1_findPaths 22 = .ok (.iconst 0, 1) := by decide +kernel
theorem dX1_findPaths_23 : decode cX1_findPaths 23 = .ok (.istore 5, 2) := by decide +kernel
theorem dX1_findPaths_25 : decode cX1_findPaths 25 = .ok (.iload 5, 2) := by decide +kernel
theorem dX1_findPaths_27 : decode cX1_findPaths 27 = .ok (.ifCond .eq 22, 3) := by decide +kernel
theorem dX1_findPaths_30 : decode cX1_findPaths 30 = .ok (.iload 4, 2) := by decide +kernel
theorem dX1_findPaths_32 : decode cX1_findPaths 32 = .ok (.iload_n 1, 1) := by decide +kernel
theorem dX1_findPaths_33 : decode cX1_findPaths 33 = .ok (.if_icmp .lt 16, 3) := by decide +kernel
theorem dX1_findPaths_36 : decode cX1_findPaths 36 = .ok (.aload_n 3, 1) := by decide +kernel
theorem dX1_findPaths_37 : decode cX1_findPaths 37 = .ok (.iload 4, 2) := by decide +kernel
theorem dX1_findPaths_39 : decode cX1_findPaths 39 = .ok (.iload_n 1, 1) := by decide +kernel
theorem dX1_findPaths_40 : decode cX1_findPaths 40 = .ok (.isub, 1) := by decide +kernel
theorem dX1_findPaths_41 : decode cX1_findPaths 41 = .ok (.iload 4, 2) := by decide +kernel
theorem dX1_findPaths_43 : decode cX1_findPaths 43 = .ok (.invokestatic 34, 3) := by decide +kernel
theorem dX1_findPaths_46 : decode cX1_findPaths 46 = .ok (.goto 4, 3) := by decide +kernel
theorem dX1_findPaths_49 : decode cX1_findPaths 49 = .ok (.iconst 0, 1) := by decide +kernel
theorem dX1_findPaths_50 : decode cX1_findPaths 50 = .ok (.istore 6, 2) := by decide +kernel
theorem dX1_findPaths_52 : decode cX1_findPaths 52 = .ok (.aload_n 3, 1) := by decide +kernel
theorem dX1_findPaths_53 : decode cX1_findPaths 53 = .ok (.iload 4, 2) := by decide +kernel
theorem dX1_findPaths_55 : decode cX1_findPaths 55 = .ok (.iload 5, 2) := by decide +kernel
theorem dX1_findPaths_57 : decode cX1_findPaths 57 = .ok (.ifCond .eq 24, 3) := by decide +kernel
theorem dX1_findPaths_60 : decode cX1_findPaths 60 = .ok (.iload 4, 2) := by decide +kernel
theorem dX1_findPaths_62 : decode cX1_findPaths 62 = .ok (.iload_n 1, 1) := by decide +kernel
theorem dX1_findPaths_63 : decode cX1_findPaths 63 = .ok (.if_icmp .lt 8, 3) := by decide +kernel
theorem dX1_findPaths_66 : decode cX1_findPaths 66 = .ok (.iload 6, 2) := by decide +kernel
theorem dX1_findPaths_68 : decode cX1_findPaths 68 = .ok (.ifCond .eq 13, 3) := by decide +kernel
theorem dX1_findPaths_71 : decode cX1_findPaths 71 = .ok (.iload 6, 2) := by decide +kernel
theorem dX1_findPaths_73 : decode cX1_findPaths 73 = .ok (.iconst 1, 1) := by decide +kernel
theorem dX1_findPaths_74 : decode cX1_findPaths 74 = .ok (.iload 4, 2) := by decide +kernel
theorem dX1_findPaths_76 : decode cX1_findPaths 76 = .ok (.ishl, 1) := by decide +kernel
theorem dX1_findPaths_77 : decode cX1_findPaths 77 = .ok (.ior, 1) := by decide +kernel
theorem dX1_findPaths_78 : decode cX1_findPaths 78 = .ok (.goto 4, 3) := by decide +kernel
theorem dX1_findPaths_81 : decode cX1_findPaths 81 = .ok (.iconst 0, 1) := by decide +kernel
theorem dX1_findPaths_82 : decode cX1_findPaths 82 = .ok (.iastore, 1) := by decide +kernel
theorem dX1_findPaths_83 : decode cX1_findPaths 83 = .ok (.iinc 4 1, 3) := by decide +kernel
theorem dX1_findPaths_86 : decode cX1_findPaths 86 = .ok (.goto (-83), 3) := by decide +kernel
theorem dX1_findPaths_89 : decode cX1_findPaths 89 = .ok (.return_, 1) := by decide +kernel
theorem mkX1_findPaths : mokS qX1_findPaths 4 := ⟨⟨⟨⟨by decide, by decide, by decide +kernel⟩, by decide⟩, gd_mem 54 (by decide +kernel) (by decide +kernel), gd_mem 597 (by decide +kernel) (by decide +kernel)⟩, gd_mem 596 (by decide +kernel) (by decide +kernel)⟩
abbrev qX1_shortest : mMI := (yX1_shortest, cX1_shortest, 4, (some .int), 4)
theorem dX1_shortest_0 : decode cX1_shortest 0 = .ok (.aload_n 1, 1) := by decide +kernel
theorem dX1_shortest_1 : decode cX1_shortest 1 = .ok (.getfield 18, 3) := by decide +kernel
theorem dX1_shortest_4 : decode cX1_shortest 4 = .ok (.iload_n 2, 1) := by decide +kernel
theorem dX1_shortest_5 : decode cX1_shortest 5 = .ok (.iaload, 1) := by decide +kernel
theorem dX1_shortest_6 : decode cX1_shortest 6 = .ok (.istore_n 3, 1) := by decide +kernel
theorem dX1_shortest_7 : decode cX1_shortest 7 = .ok (.aload_n 1, 1) := by decide +kernel
theorem dX1_shortest_8 : decode cX1_shortest 8 = .ok (.iload_n 2, 1) := by decide +kernel
theorem dX1_shortest_9 : decode cX1_shortest 9 = .ok (.invokevirtual 23, 3) := by decide +kernel
theorem dX1_shortest_12 : decode cX1_shortest 12 = .ok (.aload_n 1, 1) := by decide +kernel
theorem dX1_shortest_13 : decode cX1_shortest 13 = .ok (.iload_n 2, 1) := by decide +kernel
theorem dX1_shortest_14 : decode cX1_shortest 14 = .ok (.invokevirtual 27, 3) := by decide +kernel
theorem dX1_shortest_17 : decode cX1_shortest 17 = .ok (.iload_n 3, 1) := by decide +kernel
theorem dX1_shortest_18 : decode cX1_shortest 18 = .ok (.aload_n 0, 1) := by decide +kernel
theorem dX1_shortest_19 : decode cX1_shortest 19 = .ok (.getfield 9, 3) := by decide +kernel
theorem dX1_shortest_22 : decode cX1_shortest 22 = .ok (.invokestatic 30, 3) := by decide +kernel
theorem dX1_shortest_25 : decode cX1_shortest 25 = .ok (.aload_n 0, 1) := by decide +kernel
theorem dX1_shortest_26 : decode cX1_shortest 26 = .ok (.getfield 9, 3) := by decide +kernel
theorem dX1_shortest_29 : decode cX1_shortest 29 = .ok (.iload_n 3, 1) := by decide +kernel
theorem dX1_shortest_30 : decode cX1_shortest 30 = .ok (.iaload, 1) := by decide +kernel
theorem dX1_shortest_31 : decode cX1_shortest 31 = .ok (.ireturn, 1) := by decide +kernel
theorem mkX1_shortest : mokV qX1_shortest 2 := ⟨⟨⟨⟨by decide, by decide, by decide +kernel⟩, by decide⟩, gd_mem 54 (by decide +kernel) (by decide +kernel), gd_mem 592 (by decide +kernel) (by decide +kernel)⟩, gd_mem 590 (by decide +kernel) (by decide +kernel), gd_mem 591 (by decide +kernel) (by decide +kernel)⟩
abbrev qX1_countClimbs : mMI := (yX1_countClimbs, cX1_countClimbs, 9, (some .int), 4)
theorem dX1_countClimbs_0 : decode cX1_countClimbs 0 = .ok (.aload_n 1, 1) := by decide +kernel
theorem dX1_countClimbs_1 : decode cX1_countClimbs 1 = .ok (.iload_n 2, 1) := by decide +kernel
theorem dX1_countClimbs_2 : decode cX1_countClimbs 2 = .ok (.invokevirtual 23, 3) := by decide +kernel
theorem dX1_countClimbs_5 : decode cX1_countClimbs 5 = .ok (.istore_n 3, 1) := by decide +kernel
theorem dX1_countClimbs_6 : decode cX1_countClimbs 6 = .ok (.aload_n 1, 1) := by decide +kernel
theorem dX1_countClimbs_7 : decode cX1_countClimbs 7 = .ok (.iload_n 2, 1) := by decide +kernel
theorem dX1_countClimbs_8 : decode cX1_countClimbs 8 = .ok (.invokevirtual 27, 3) := by decide +kernel
theorem dX1_countClimbs_11 : decode cX1_countClimbs 11 = .ok (.istore 4, 2) := by decide +kernel
theorem dX1_countClimbs_13 : decode cX1_countClimbs 13 = .ok (.aload_n 1, 1) := by decide +kernel
theorem dX1_countClimbs_14 : decode cX1_countClimbs 14 = .ok (.getfield 18, 3) := by decide +kernel
theorem dX1_countClimbs_17 : decode cX1_countClimbs 17 = .ok (.iload_n 2, 1) := by decide +kernel
theorem dX1_countClimbs_18 : decode cX1_countClimbs 18 = .ok (.iaload, 1) := by decide +kernel
theorem dX1_countClimbs_19 : decode cX1_countClimbs 19 = .ok (.istore 5, 2) := by decide +kernel
theorem dX1_countClimbs_21 : decode cX1_countClimbs 21 = .ok (.iconst 0, 1) := by decide +kernel
theorem dX1_countClimbs_22 : decode cX1_countClimbs 22 = .ok (.istore 6, 2) := by decide +kernel
theorem dX1_countClimbs_24 : decode cX1_countClimbs 24 = .ok (.iload 6, 2) := by decide +kernel
theorem dX1_countClimbs_26 : decode cX1_countClimbs 26 = .ok (.iload 5, 2) := by decide +kernel
theorem dX1_countClimbs_28 : decode cX1_countClimbs 28 = .ok (.if_icmp .gt 85, 3) := by decide +kernel
theorem dX1_countClimbs_31 : decode cX1_countClimbs 31 = .ok (.aload_n 0, 1) := by decide +kernel
theorem dX1_countClimbs_32 : decode cX1_countClimbs 32 = .ok (.getfield 15, 3) := by decide +kernel
theorem dX1_countClimbs_35 : decode cX1_countClimbs 35 = .ok (.iload 6, 2) := by decide +kernel
theorem dX1_countClimbs_37 : decode cX1_countClimbs 37 = .ok (.iconst 0, 1) := by decide +kernel
theorem dX1_countClimbs_38 : decode cX1_countClimbs 38 = .ok (.iastore, 1) := by decide +kernel
theorem dX1_countClimbs_39 : decode cX1_countClimbs 39 = .ok (.iload_n 3, 1) := by decide +kernel
theorem dX1_countClimbs_40 : decode cX1_countClimbs 40 = .ok (.iload 6, 2) := by decide +kernel
theorem dX1_countClimbs_42 : decode cX1_countClimbs 42 = .ok (.ishr, 1) := by decide +kernel
theorem dX1_countClimbs_43 : decode cX1_countClimbs 43 = .ok (.iconst 1, 1) := by decide +kernel
theorem dX1_countClimbs_44 : decode cX1_countClimbs 44 = .ok (.iand, 1) := by decide +kernel
theorem dX1_countClimbs_45 : decode cX1_countClimbs 45 = .ok (.ifCond .eq 62, 3) := by decide +kernel
theorem dX1_countClimbs_48 : decode cX1_countClimbs 48 = .ok (.iload 6, 2) := by decide +kernel
theorem dX1_countClimbs_50 : decode cX1_countClimbs 50 = .ok (.iload 4, 2) := by decide +kernel
theorem dX1_countClimbs_52 : decode cX1_countClimbs 52 = .ok (.if_icmp .ge 7, 3) := by decide +kernel
theorem dX1_countClimbs_55 : decode cX1_countClimbs 55 = .ok (.iconst 1, 1) := by decide +kernel
theorem dX1_countClimbs_56 : decode cX1_countClimbs 56 = .ok (.goto 4, 3) := by decide +kernel
theorem dX1_countClimbs_59 : decode cX1_countClimbs 59 = .ok (.iconst 0, 1) := by decide +kernel
theorem dX1_countClimbs_60 : decode cX1_countClimbs 60 = .ok (.istore 7, 2) := by decide +kernel
theorem dX1_countClimbs_62 : decode cX1_countClimbs 62 = .ok (.iload 6, 2) := by decide +kernel
theorem dX1_countClimbs_64 : decode cX1_countClimbs 64 = .ok (.iload 4, 2) := by decide +kernel
theorem dX1_countClimbs_66 : decode cX1_countClimbs 66 = .ok (.isub, 1) := by decide +kernel
theorem dX1_countClimbs_67 : decode cX1_countClimbs 67 = .ok (.iconst 0, 1) := by decide +kernel
theorem dX1_countClimbs_68 : decode cX1_countClimbs 68 = .ok (.invokestatic 47, 3) := by decide +kernel
theorem dX1_countClimbs_71 : decode cX1_countClimbs 71 = .ok (.istore 8, 2) := by decide +kernel
theorem dX1_countClimbs_73 : decode cX1_countClimbs 73 = .ok (.iload 8, 2) := by decide +kernel
theorem dX1_countClimbs_75 : decode cX1_countClimbs 75 = .ok (.iload 6, 2) := by decide +kernel
theorem dX1_countClimbs_77 : decode cX1_countClimbs 77 = .ok (.if_icmp .ge 21, 3) := by decide +kernel
theorem dX1_countClimbs_80 : decode cX1_countClimbs 80 = .ok (.iload 7, 2) := by decide +kernel
theorem dX1_countClimbs_82 : decode cX1_countClimbs 82 = .ok (.aload_n 0, 1) := by decide +kernel
theorem dX1_countClimbs_83 : decode cX1_countClimbs 83 = .ok (.getfield 15, 3) := by decide +kernel
theorem dX1_countClimbs_86 : decode cX1_countClimbs 86 = .ok (.iload 8, 2) := by decide +kernel
theorem dX1_countClimbs_88 : decode cX1_countClimbs 88 = .ok (.iaload, 1) := by decide +kernel
theorem dX1_countClimbs_89 : decode cX1_countClimbs 89 = .ok (.iadd, 1) := by decide +kernel
theorem dX1_countClimbs_90 : decode cX1_countClimbs 90 = .ok (.istore 7, 2) := by decide +kernel
theorem dX1_countClimbs_92 : decode cX1_countClimbs 92 = .ok (.iinc 8 1, 3) := by decide +kernel
theorem dX1_countClimbs_95 : decode cX1_countClimbs 95 = .ok (.goto (-22), 3) := by decide +kernel
theorem dX1_countClimbs_98 : decode cX1_countClimbs 98 = .ok (.aload_n 0, 1) := by decide +kernel
theorem dX1_countClimbs_99 : decode cX1_countClimbs 99 = .ok (.getfield 15, 3) := by decide +kernel
theorem dX1_countClimbs_102 : decode cX1_countClimbs 102 = .ok (.iload 6, 2) := by decide +kernel
theorem dX1_countClimbs_104 : decode cX1_countClimbs 104 = .ok (.iload 7, 2) := by decide +kernel
theorem dX1_countClimbs_106 : decode cX1_countClimbs 106 = .ok (.iastore, 1) := by decide +kernel
theorem dX1_countClimbs_107 : decode cX1_countClimbs 107 = .ok (.iinc 6 1, 3) := by decide +kernel
theorem dX1_countClimbs_110 : decode cX1_countClimbs 110 = .ok (.goto (-86), 3) := by decide +kernel
theorem dX1_countClimbs_113 : decode cX1_countClimbs 113 = .ok (.aload_n 0, 1) := by decide +kernel
theorem dX1_countClimbs_114 : decode cX1_countClimbs 114 = .ok (.getfield 15, 3) := by decide +kernel
theorem dX1_countClimbs_117 : decode cX1_countClimbs 117 = .ok (.iload 5, 2) := by decide +kernel
theorem dX1_countClimbs_119 : decode cX1_countClimbs 119 = .ok (.iaload, 1) := by decide +kernel
theorem dX1_countClimbs_120 : decode cX1_countClimbs 120 = .ok (.ireturn, 1) := by decide +kernel
theorem mkX1_countClimbs : mokV qX1_countClimbs 2 := ⟨⟨⟨⟨by decide, by decide, by decide +kernel⟩, by decide⟩, gd_mem 54 (by decide +kernel) (by decide +kernel), gd_mem 625 (by decide +kernel) (by decide +kernel)⟩, gd_mem 623 (by decide +kernel) (by decide +kernel), gd_mem 624 (by decide +kernel) (by decide +kernel)⟩
abbrev qX1_leastWorst : mMI := (yX1_leastWorst, cX1_leastWorst, 9, (some .int), 4)
theorem dX1_leastWorst_0 : decode cX1_leastWorst 0 = .ok (.aload_n 1, 1) := by decide +kernel
theorem dX1_leastWorst_1 : decode cX1_leastWorst 1 = .ok (.iload_n 2, 1) := by decide +kernel
theorem dX1_leastWorst_2 : decode cX1_leastWorst 2 = .ok (.invokevirtual 23, 3) := by decide +kernel
theorem dX1_leastWorst_5 : decode cX1_leastWorst 5 = .ok (.istore_n 3, 1) := by decide +kernel
theorem dX1_leastWorst_6 : decode cX1_leastWorst 6 = .ok (.aload_n 1, 1) := by decide +kernel
theorem dX1_leastWorst_7 : decode cX1_leastWorst 7 = .ok (.iload_n 2, 1) := by decide +kernel
theorem dX1_leastWorst_8 : decode cX1_leastWorst 8 = .ok (.invokevirtual 27, 3) := by decide +kernel
theorem dX1_leastWorst_11 : decode cX1_leastWorst 11 = .ok (.istore 4, 2) := by decide +kernel
theorem dX1_leastWorst_13 : decode cX1_leastWorst 13 = .ok (.aload_n 1, 1) := by decide +kernel
theorem dX1_leastWorst_14 : decode cX1_leastWorst 14 = .ok (.getfield 18, 3) := by decide +kernel
theorem dX1_leastWorst_17 : decode cX1_leastWorst 17 = .ok (.iload_n 2, 1) := by decide +kernel
theorem dX1_leastWorst_18 : decode cX1_leastWorst 18 = .ok (.iaload, 1) := by decide +kernel
theorem dX1_leastWorst_19 : decode cX1_leastWorst 19 = .ok (.istore 5, 2) := by decide +kernel
theorem dX1_leastWorst_21 : decode cX1_leastWorst 21 = .ok (.iconst 0, 1) := by decide +kernel
theorem dX1_leastWorst_22 : decode cX1_leastWorst 22 = .ok (.istore 6, 2) := by decide +kernel
theorem dX1_leastWorst_24 : decode cX1_leastWorst 24 = .ok (.iload 6, 2) := by decide +kernel
theorem dX1_leastWorst_26 : decode cX1_leastWorst 26 = .ok (.iload 5, 2) := by decide +kernel
theorem dX1_leastWorst_28 : decode cX1_leastWorst 28 = .ok (.if_icmp .gt 99, 3) := by decide +kernel
theorem dX1_leastWorst_31 : decode cX1_leastWorst 31 = .ok (.aload_n 0, 1) := by decide +kernel
theorem dX1_leastWorst_32 : decode cX1_leastWorst 32 = .ok (.getfield 15, 3) := by decide +kernel
theorem dX1_leastWorst_35 : decode cX1_leastWorst 35 = .ok (.iload 6, 2) := by decide +kernel
theorem dX1_leastWorst_37 : decode cX1_leastWorst 37 = .ok (.bipush 100, 2) := by decide +kernel
theorem dX1_leastWorst_39 : decode cX1_leastWorst 39 = .ok (.iastore, 1) := by decide +kernel
theorem dX1_leastWorst_40 : decode cX1_leastWorst 40 = .ok (.iload_n 3, 1) := by decide +kernel
theorem dX1_leastWorst_41 : decode cX1_leastWorst 41 = .ok (.iload 6, 2) := by decide +kernel
theorem dX1_leastWorst_43 : decode cX1_leastWorst 43 = .ok (.ishr, 1) := by decide +kernel
theorem dX1_leastWorst_44 : decode cX1_leastWorst 44 = .ok (.iconst 1, 1) := by decide +kernel
theorem dX1_leastWorst_45 : decode cX1_leastWorst 45 = .ok (.iand, 1) := by decide +kernel
theorem dX1_leastWorst_46 : decode cX1_leastWorst 46 = .ok (.ifCond .eq 75, 3) := by decide +kernel
theorem dX1_leastWorst_49 : decode cX1_leastWorst 49 = .ok (.iload 6, 2) := by decide +kernel
theorem dX1_leastWorst_51 : decode cX1_leastWorst 51 = .ok (.iload 4, 2) := by decide +kernel
theorem dX1_leastWorst_53 : decode cX1_leastWorst 53 = .ok (.if_icmp .ge 7, 3) := by decide +kernel
theorem dX1_leastWorst_56 : decode cX1_leastWorst 56 = .ok (.iconst 0, 1) := by decide +kernel
theorem dX1_leastWorst_57 : decode cX1_leastWorst 57 = .ok (.goto 5, 3) := by decide +kernel
theorem dX1_leastWorst_60 : decode cX1_leastWorst 60 = .ok (.bipush 100, 2) := by decide +kernel
theorem dX1_leastWorst_62 : decode cX1_leastWorst 62 = .ok (.istore 7, 2) := by decide +kernel
theorem dX1_leastWorst_64 : decode cX1_leastWorst 64 = .ok (.iload 6, 2) := by decide +kernel
theorem dX1_leastWorst_66 : decode cX1_leastWorst 66 = .ok (.iload 4, 2) := by decide +kernel
theorem dX1_leastWorst_68 : decode cX1_leastWorst 68 = .ok (.isub, 1) := by decide +kernel
theorem dX1_leastWorst_69 : decode cX1_leastWorst 69 = .ok (.iconst 0, 1) := by decide +kernel
theorem dX1_leastWorst_70 : decode cX1_leastWorst 70 = .ok (.invokestatic 47, 3) := by decide +kernel
theorem dX1_leastWorst_73 : decode cX1_leastWorst 73 = .ok (.istore 8, 2) := by decide +kernel
theorem dX1_leastWorst_75 : decode cX1_leastWorst 75 = .ok (.iload 8, 2) := by decide +kernel
theorem dX1_leastWorst_77 : decode cX1_leastWorst 77 = .ok (.iload 6, 2) := by decide +kernel
theorem dX1_leastWorst_79 : decode cX1_leastWorst 79 = .ok (.if_icmp .ge 23, 3) := by decide +kernel
theorem dX1_leastWorst_82 : decode cX1_leastWorst 82 = .ok (.iload 7, 2) := by decide +kernel
theorem dX1_leastWorst_84 : decode cX1_leastWorst 84 = .ok (.aload_n 0, 1) := by decide +kernel
theorem dX1_leastWorst_85 : decode cX1_leastWorst 85 = .ok (.getfield 15, 3) := by decide +kernel
theorem dX1_leastWorst_88 : decode cX1_leastWorst 88 = .ok (.iload 8, 2) := by decide +kernel
theorem dX1_leastWorst_90 : decode cX1_leastWorst 90 = .ok (.iaload, 1) := by decide +kernel
theorem dX1_leastWorst_91 : decode cX1_leastWorst 91 = .ok (.invokestatic 52, 3) := by decide +kernel
theorem dX1_leastWorst_94 : decode cX1_leastWorst 94 = .ok (.istore 7, 2) := by decide +kernel
theorem dX1_leastWorst_96 : decode cX1_leastWorst 96 = .ok (.iinc 8 1, 3) := by decide +kernel
theorem dX1_leastWorst_99 : decode cX1_leastWorst 99 = .ok (.goto (-24), 3) := by decide +kernel
theorem dX1_leastWorst_102 : decode cX1_leastWorst 102 = .ok (.aload_n 0, 1) := by decide +kernel
theorem dX1_leastWorst_103 : decode cX1_leastWorst 103 = .ok (.getfield 15, 3) := by decide +kernel
theorem dX1_leastWorst_106 : decode cX1_leastWorst 106 = .ok (.iload 6, 2) := by decide +kernel
theorem dX1_leastWorst_108 : decode cX1_leastWorst 108 = .ok (.iload 7, 2) := by decide +kernel
theorem dX1_leastWorst_110 : decode cX1_leastWorst 110 = .ok (.aload_n 1, 1) := by decide +kernel
theorem dX1_leastWorst_111 : decode cX1_leastWorst 111 = .ok (.getfield 55, 3) := by decide +kernel
theorem dX1_leastWorst_114 : decode cX1_leastWorst 114 = .ok (.iload 6, 2) := by decide +kernel
theorem dX1_leastWorst_116 : decode cX1_leastWorst 116 = .ok (.iaload, 1) := by decide +kernel
theorem dX1_leastWorst_117 : decode cX1_leastWorst 117 = .ok (.invokestatic 47, 3) := by decide +kernel
theorem dX1_leastWorst_120 : decode cX1_leastWorst 120 = .ok (.iastore, 1) := by decide +kernel
theorem dX1_leastWorst_121 : decode cX1_leastWorst 121 = .ok (.iinc 6 1, 3) := by decide +kernel
theorem dX1_leastWorst_124 : decode cX1_leastWorst 124 = .ok (.goto (-100), 3) := by decide +kernel
theorem dX1_leastWorst_127 : decode cX1_leastWorst 127 = .ok (.aload_n 0, 1) := by decide +kernel
theorem dX1_leastWorst_128 : decode cX1_leastWorst 128 = .ok (.getfield 15, 3) := by decide +kernel
theorem dX1_leastWorst_131 : decode cX1_leastWorst 131 = .ok (.iload 5, 2) := by decide +kernel
theorem dX1_leastWorst_133 : decode cX1_leastWorst 133 = .ok (.iaload, 1) := by decide +kernel
theorem dX1_leastWorst_134 : decode cX1_leastWorst 134 = .ok (.ireturn, 1) := by decide +kernel
theorem mkX1_leastWorst : mokV qX1_leastWorst 2 := ⟨⟨⟨⟨by decide, by decide, by decide +kernel⟩, by decide⟩, gd_mem 54 (by decide +kernel) (by decide +kernel), gd_mem 644 (by decide +kernel) (by decide +kernel)⟩, gd_mem 642 (by decide +kernel) (by decide +kernel), gd_mem 643 (by decide +kernel) (by decide +kernel)⟩
abbrev qX1_fewestWithin : mMI := (yX1_fewestWithin, cX1_fewestWithin, 7, (some .int), 4)
theorem dX1_fewestWithin_0 : decode cX1_fewestWithin 0 = .ok (.aload_n 1, 1) := by decide +kernel
theorem dX1_fewestWithin_1 : decode cX1_fewestWithin 1 = .ok (.iload_n 2, 1) := by decide +kernel
theorem dX1_fewestWithin_2 : decode cX1_fewestWithin 2 = .ok (.invokevirtual 23, 3) := by decide +kernel
theorem dX1_fewestWithin_5 : decode cX1_fewestWithin 5 = .ok (.istore 4, 2) := by decide +kernel
theorem dX1_fewestWithin_7 : decode cX1_fewestWithin 7 = .ok (.aload_n 1, 1) := by decide +kernel
theorem dX1_fewestWithin_8 : decode cX1_fewestWithin 8 = .ok (.getfield 18, 3) := by decide +kernel
theorem dX1_fewestWithin_11 : decode cX1_fewestWithin 11 = .ok (.iload_n 2, 1) := by decide +kernel
theorem dX1_fewestWithin_12 : decode cX1_fewestWithin 12 = .ok (.iaload, 1) := by decide +kernel
theorem dX1_fewestWithin_13 : decode cX1_fewestWithin 13 = .ok (.istore 5, 2) := by decide +kernel
theorem dX1_fewestWithin_15 : decode cX1_fewestWithin 15 = .ok (.iconst 0, 1) := by decide +kernel
theorem dX1_fewestWithin_16 : decode cX1_fewestWithin 16 = .ok (.istore 6, 2) := by decide +kernel
theorem dX1_fewestWithin_18 : decode cX1_fewestWithin 18 = .ok (.iload 6, 2) := by decide +kernel
theorem dX1_fewestWithin_20 : decode cX1_fewestWithin 20 = .ok (.aload_n 1, 1) := by decide +kernel
theorem dX1_fewestWithin_21 : decode cX1_fewestWithin 21 = .ok (.getfield 58, 3) := by decide +kernel
theorem dX1_fewestWithin_24 : decode cX1_fewestWithin 24 = .ok (.if_icmp .ge 31, 3) := by decide +kernel
theorem dX1_fewestWithin_27 : decode cX1_fewestWithin 27 = .ok (.aload_n 1, 1) := by decide +kernel
theorem dX1_fewestWithin_28 : decode cX1_fewestWithin 28 = .ok (.getfield 55, 3) := by decide +kernel
theorem dX1_fewestWithin_31 : decode cX1_fewestWithin 31 = .ok (.iload 6, 2) := by decide +kernel
theorem dX1_fewestWithin_33 : decode cX1_fewestWithin 33 = .ok (.iaload, 1) := by decide +kernel
theorem dX1_fewestWithin_34 : decode cX1_fewestWithin 34 = .ok (.iload_n 3, 1) := by decide +kernel
theorem dX1_fewestWithin_35 : decode cX1_fewestWithin 35 = .ok (.if_icmp .le 14, 3) := by decide +kernel
theorem dX1_fewestWithin_38 : decode cX1_fewestWithin 38 = .ok (.iload 4, 2) := by decide +kernel
theorem dX1_fewestWithin_40 : decode cX1_fewestWithin 40 = .ok (.iconst 1, 1) := by decide +kernel
theorem dX1_fewestWithin_41 : decode cX1_fewestWithin 41 = .ok (.iload 6, 2) := by decide +kernel
theorem dX1_fewestWithin_43 : decode cX1_fewestWithin 43 = .ok (.ishl, 1) := by decide +kernel
theorem dX1_fewestWithin_44 : decode cX1_fewestWithin 44 = .ok (.iconst (-1), 1) := by decide +kernel
theorem dX1_fewestWithin_45 : decode cX1_fewestWithin 45 = .ok (.ixor, 1) := by decide +kernel
theorem dX1_fewestWithin_46 : decode cX1_fewestWithin 46 = .ok (.iand, 1) := by decide +kernel
theorem dX1_fewestWithin_47 : decode cX1_fewestWithin 47 = .ok (.istore 4, 2) := by decide +kernel
theorem dX1_fewestWithin_49 : decode cX1_fewestWithin 49 = .ok (.iinc 6 1, 3) := by decide +kernel
theorem dX1_fewestWithin_52 : decode cX1_fewestWithin 52 = .ok (.goto (-34), 3) := by decide +kernel
theorem dX1_fewestWithin_55 : decode cX1_fewestWithin 55 = .ok (.iload 4, 2) := by decide +kernel
theorem dX1_fewestWithin_57 : decode cX1_fewestWithin 57 = .ok (.aload_n 1, 1) := by decide +kernel
theorem dX1_fewestWithin_58 : decode cX1_fewestWithin 58 = .ok (.iload_n 2, 1) := by decide +kernel
theorem dX1_fewestWithin_59 : decode cX1_fewestWithin 59 = .ok (.invokevirtual 27, 3) := by decide +kernel
theorem dX1_fewestWithin_62 : decode cX1_fewestWithin 62 = .ok (.iload 5, 2) := by decide +kernel
theorem dX1_fewestWithin_64 : decode cX1_fewestWithin 64 = .ok (.aload_n 0, 1) := by decide +kernel
theorem dX1_fewestWithin_65 : decode cX1_fewestWithin 65 = .ok (.getfield 9, 3) := by decide +kernel
theorem dX1_fewestWithin_68 : decode cX1_fewestWithin 68 = .ok (.invokestatic 30, 3) := by decide +kernel
theorem dX1_fewestWithin_71 : decode cX1_fewestWithin 71 = .ok (.aload_n 0, 1) := by decide +kernel
theorem dX1_fewestWithin_72 : decode cX1_fewestWithin 72 = .ok (.getfield 9, 3) := by decide +kernel
theorem dX1_fewestWithin_75 : decode cX1_fewestWithin 75 = .ok (.iload 5, 2) := by decide +kernel
theorem dX1_fewestWithin_77 : decode cX1_fewestWithin 77 = .ok (.iaload, 1) := by decide +kernel
theorem dX1_fewestWithin_78 : decode cX1_fewestWithin 78 = .ok (.invokestatic 42, 3) := by decide +kernel
theorem dX1_fewestWithin_81 : decode cX1_fewestWithin 81 = .ok (.ireturn, 1) := by decide +kernel
theorem mkX1_fewestWithin : mokV qX1_fewestWithin 3 := ⟨⟨⟨⟨by decide, by decide, by decide +kernel⟩, by decide⟩, gd_mem 54 (by decide +kernel) (by decide +kernel), gd_mem 649 (by decide +kernel) (by decide +kernel)⟩, gd_mem 647 (by decide +kernel) (by decide +kernel), gd_mem 648 (by decide +kernel) (by decide +kernel)⟩
abbrev qX1_goes : mMI := (yX1_goes, cX1_goes, 4, (some .boolean), 5)
theorem dX1_goes_0 : decode cX1_goes 0 = .ok (.aload_n 0, 1) := by decide +kernel
theorem dX1_goes_1 : decode cX1_goes 1 = .ok (.aload_n 1, 1) := by decide +kernel
theorem dX1_goes_2 : decode cX1_goes 2 = .ok (.iload_n 2, 1) := by decide +kernel
theorem dX1_goes_3 : decode cX1_goes 3 = .ok (.invokevirtual 62, 3) := by decide +kernel
theorem dX1_goes_6 : decode cX1_goes 6 = .ok (.istore_n 3, 1) := by decide +kernel
theorem dX1_goes_7 : decode cX1_goes 7 = .ok (.aload_n 1, 1) := by decide +kernel
theorem dX1_goes_8 : decode cX1_goes 8 = .ok (.iload_n 2, 1) := by decide +kernel
theorem dX1_goes_9 : decode cX1_goes 9 = .ok (.iload_n 3, 1) := by decide +kernel
theorem dX1_goes_10 : decode cX1_goes 10 = .ok (.invokevirtual 66, 3) := by decide +kernel
theorem dX1_goes_13 : decode cX1_goes 13 = .ok (.iload_n 3, 1) := by decide +kernel
theorem dX1_goes_14 : decode cX1_goes 14 = .ok (.ifCond .eq 7, 3) := by decide +kernel
theorem dX1_goes_17 : decode cX1_goes 17 = .ok (.iconst 1, 1) := by decide +kernel
theorem dX1_goes_18 : decode cX1_goes 18 = .ok (.goto 4, 3) := by decide +kernel
theorem dX1_goes_21 : decode cX1_goes 21 = .ok (.iconst 0, 1) := by decide +kernel
theorem dX1_goes_22 : decode cX1_goes 22 = .ok (.ireturn, 1) := by decide +kernel
theorem mkX1_goes : mokV qX1_goes 2 := ⟨⟨⟨⟨by decide, by decide, by decide +kernel⟩, by decide⟩, gd_mem 54 (by decide +kernel) (by decide +kernel), gd_mem 675 (by decide +kernel) (by decide +kernel)⟩, gd_mem 673 (by decide +kernel) (by decide +kernel), gd_mem 674 (by decide +kernel) (by decide +kernel)⟩
abbrev qX1_goDays : mMI := (yX1_goDays, cX1_goDays, 6, (some .int), 6)
theorem dX1_goDays_0 : decode cX1_goDays 0 = .ok (.iconst 0, 1) := by decide +kernel
theorem dX1_goDays_1 : decode cX1_goDays 1 = .ok (.istore_n 3, 1) := by decide +kernel
theorem dX1_goDays_2 : decode cX1_goDays 2 = .ok (.iconst 0, 1) := by decide +kernel
theorem dX1_goDays_3 : decode cX1_goDays 3 = .ok (.istore 4, 2) := by decide +kernel
theorem dX1_goDays_5 : decode cX1_goDays 5 = .ok (.iload 4, 2) := by decide +kernel
theorem dX1_goDays_7 : decode cX1_goDays 7 = .ok (.iload_n 2, 1) := by decide +kernel
theorem dX1_goDays_8 : decode cX1_goDays 8 = .ok (.if_icmp .ge 50, 3) := by decide +kernel
theorem dX1_goDays_11 : decode cX1_goDays 11 = .ok (.iconst 0, 1) := by decide +kernel
theorem dX1_goDays_12 : decode cX1_goDays 12 = .ok (.istore 5, 2) := by decide +kernel
theorem dX1_goDays_14 : decode cX1_goDays 14 = .ok (.iload 5, 2) := by decide +kernel
theorem dX1_goDays_16 : decode cX1_goDays 16 = .ok (.aload_n 1, 1) := by decide +kernel
theorem dX1_goDays_17 : decode cX1_goDays 17 = .ok (.getfield 70, 3) := by decide +kernel
theorem dX1_goDays_20 : decode cX1_goDays 20 = .ok (.if_icmp .ge 22, 3) := by decide +kernel
theorem dX1_goDays_23 : decode cX1_goDays 23 = .ok (.aload_n 0, 1) := by decide +kernel
theorem dX1_goDays_24 : decode cX1_goDays 24 = .ok (.aload_n 1, 1) := by decide +kernel
theorem dX1_goDays_25 : decode cX1_goDays 25 = .ok (.iload 5, 2) := by decide +kernel
theorem dX1_goDays_27 : decode cX1_goDays 27 = .ok (.invokevirtual 73, 3) := by decide +kernel
theorem dX1_goDays_30 : decode cX1_goDays 30 = .ok (.ifCond .eq 6, 3) := by decide +kernel
theorem dX1_goDays_33 : decode cX1_goDays 33 = .ok (.iinc 3 1, 3) := by decide +kernel
theorem dX1_goDays_36 : decode cX1_goDays 36 = .ok (.iinc 5 1, 3) := by decide +kernel
theorem dX1_goDays_39 : decode cX1_goDays 39 = .ok (.goto (-25), 3) := by decide +kernel
theorem dX1_goDays_42 : decode cX1_goDays 42 = .ok (.aload_n 1, 1) := by decide +kernel
theorem dX1_goDays_43 : decode cX1_goDays 43 = .ok (.dup, 1) := by decide +kernel
theorem dX1_goDays_44 : decode cX1_goDays 44 = .ok (.getfield 77, 3) := by decide +kernel
theorem dX1_goDays_47 : decode cX1_goDays 47 = .ok (.iconst 1, 1) := by decide +kernel
theorem dX1_goDays_48 : decode cX1_goDays 48 = .ok (.iadd, 1) := by decide +kernel
theorem dX1_goDays_49 : decode cX1_goDays 49 = .ok (.putfield 77, 3) := by decide +kernel
theorem dX1_goDays_52 : decode cX1_goDays 52 = .ok (.iinc 4 1, 3) := by decide +kernel
theorem dX1_goDays_55 : decode cX1_goDays 55 = .ok (.goto (-50), 3) := by decide +kernel
theorem dX1_goDays_58 : decode cX1_goDays 58 = .ok (.iload_n 3, 1) := by decide +kernel
theorem dX1_goDays_59 : decode cX1_goDays 59 = .ok (.ireturn, 1) := by decide +kernel
theorem mkX1_goDays : mokV qX1_goDays 2 := ⟨⟨⟨⟨by decide, by decide, by decide +kernel⟩, by decide⟩, gd_mem 54 (by decide +kernel) (by decide +kernel), gd_mem 671 (by decide +kernel) (by decide +kernel)⟩, gd_mem 669 (by decide +kernel) (by decide +kernel), gd_mem 670 (by decide +kernel) (by decide +kernel)⟩
theorem lmX1_42 : Cond.methodLink RX1 42 yJ6_bitCount_0f7a4 ∈ gdL := gd_mem 604 (by decide +kernel) (by decide +kernel)
def fX1_shorter (x0 : Int32) (x1 : Int32) (m : mMem) : mR := if x0 = (0 : Int32) then some (some (.int (x0 ||| x1)), m) else if x1 = (0 : Int32) then some (some (.int (x0 ||| x1)), m) else bI (fJ6_bitCount_0f7a4 x0 m) (fun z2 m1 => bI (fJ6_bitCount_0f7a4 x1 m1) (fun z5 m4 => li (z2 - z5) (fun y7 => if y7 = (0 : Int32) then li ((x0 ^^^ x1) &&& (-(x0 ^^^ x1))) (fun y8 => if (x0 &&& y8) = (0 : Int32) then some (some (.int x1), m4) else some (some (.int x0), m4)) else if (0 : Int32) ≤ y7 then some (some (.int x1), m4) else some (some (.int x0), m4))))
set_option maxRecDepth 100000 in
theorem bsX1_shorter (l : Launch) (x0 : Int32) (x1 : Int32) (m : mMem)  : BS l qX1_shorter [.int x0, .int x1] m (fX1_shorter x0 x1 m) := BS_of (by decide) (Nat.le_of_ble_eq_true rfl) (fun X _ => by
    show T qX1_shorter X (fX1_shorter x0 x1 m) 0 [(0, .int x0), (1, .int x1)] [] m
    unfold fX1_shorter
    refine T_iload_n 0 rfl rfl dX1_shorter_0 ?_
    refine T_if_eq 8 dX1_shorter_1 (by decide) (fun _ => ?_) (fun _ => ?_)
    · refine T_iload_n 0 rfl rfl dX1_shorter_8 ?_
      refine T_iload_n 1 rfl rfl dX1_shorter_9 ?_
      refine T_ior dX1_shorter_10 ?_
      exact T_iret rfl dX1_shorter_11
    · refine T_iload_n 1 rfl rfl dX1_shorter_4 ?_
      refine T_if_ne 12 dX1_shorter_5 (by decide) (fun _ => ?_) (fun _ => ?_)
      · refine T_iload_n 0 rfl rfl dX1_shorter_8 ?_
        refine T_iload_n 1 rfl rfl dX1_shorter_9 ?_
        refine T_ior dX1_shorter_10 ?_
        exact T_iret rfl dX1_shorter_11
      · refine T_iload_n 0 rfl rfl dX1_shorter_12 ?_
        refine T_cSI [.int x0] [] mkJ6_bitCount_0f7a4 lmX1_42 rfl (by decide) (Nat.le_of_ble_eq_true rfl) dX1_shorter_13 (bsJ6_bitCount_0f7a4 _ x0 m) (fun z2 m1 => ?_)
        refine T_iload_n 1 rfl rfl dX1_shorter_16 ?_
        refine T_cSI [.int x1] [.int z2] mkJ6_bitCount_0f7a4 lmX1_42 rfl (by decide) (Nat.le_of_ble_eq_true rfl) dX1_shorter_17 (bsJ6_bitCount_0f7a4 _ x1 m1) (fun z5 m4 => ?_)
        refine T_isub dX1_shorter_20 ?_
        refine T_istore_n (lv' := [(2, .int (z2 - z5)), (0, .int x0), (1, .int x1)]) rfl (Nat.le_of_ble_eq_true rfl) rfl dX1_shorter_21 ?_
        refine T_li (fun y7 => ?_)
        refine T_iload_n 0 rfl rfl dX1_shorter_22 ?_
        refine T_if_eq 36 dX1_shorter_23 (by decide) (fun _ => ?_) (fun _ => ?_)
        · refine T_iload_n 1 rfl rfl dX1_shorter_36 ?_
          refine T_iload_n 2 rfl rfl dX1_shorter_37 ?_
          refine T_ixor dX1_shorter_38 ?_
          refine T_iload_n 1 rfl rfl dX1_shorter_39 ?_
          refine T_iload_n 2 rfl rfl dX1_shorter_40 ?_
          refine T_ixor dX1_shorter_41 ?_
          refine T_ineg dX1_shorter_42 ?_
          refine T_iand dX1_shorter_43 ?_
          refine T_istore_n (lv' := [(3, .int ((x0 ^^^ x1) &&& (-(x0 ^^^ x1)))), (2, .int y7), (0, .int x0), (1, .int x1)]) rfl (Nat.le_of_ble_eq_true rfl) rfl dX1_shorter_44 ?_
          refine T_li (fun y8 => ?_)
          refine T_iload_n 2 rfl rfl dX1_shorter_45 ?_
          refine T_iload_n 0 rfl rfl dX1_shorter_46 ?_
          refine T_iand dX1_shorter_47 ?_
          refine T_if_eq 55 dX1_shorter_48 (by decide) (fun _ => ?_) (fun _ => ?_)
          · refine T_iload_n 3 rfl rfl dX1_shorter_55 ?_
            exact T_iret rfl dX1_shorter_56
          · refine T_iload_n 2 rfl rfl dX1_shorter_51 ?_
            refine T_goto 56 dX1_shorter_52 (by decide) ?_
            exact T_iret rfl dX1_shorter_56
        · refine T_iload_n 0 rfl rfl dX1_shorter_26 ?_
          refine T_if_ge 34 dX1_shorter_27 (by decide) (fun _ => ?_) (fun _ => ?_)
          · refine T_iload_n 2 rfl rfl dX1_shorter_34 ?_
            exact T_iret rfl dX1_shorter_35
          · refine T_iload_n 1 rfl rfl dX1_shorter_30 ?_
            refine T_goto 35 dX1_shorter_31 (by decide) ?_
            exact T_iret rfl dX1_shorter_35)
theorem lmX1_38 : Cond.methodLink RX1 38 yX1_shorter ∈ gdL := gd_mem 601 (by decide +kernel) (by decide +kernel)
def bX1_shortestOf_5 (r0 : Nat) (n0 : Nat) (x2 : Int32) (k5 : Int32 × Int32 × mMem → mR) (s : Int32 × Int32 × mMem) : mR := match s with
  | (x3, x4, m) => if x2 ≤ x4 then some (some (.int x3), m) else ga x4 n0 (bI (fX1_shorter x3 (m.1 r0 (x4).toNatClampNeg) m) (fun z2 m1 => li (x4 + (1 : Int32)) (fun y4 => k5 (z2, y4, m1))))
set_option maxRecDepth 100000 in
theorem tX1_shortestOf_5 (X : mCx) (r0 : Nat) (n0 : Nat) (x2 : Int32) (h0 : kd r0 = (10, n0)) : ∀ (n : Nat) (s : Int32 × Int32 × mMem), T qX1_shortestOf X (lp (bX1_shortestOf_5 r0 n0 x2) n s) 5 [(0, .ref r0), (2, .int x2), (3, .int s.1), (4, .int s.2.1)] [] s.2.2 :=
  T_lp (body := bX1_shortestOf_5 r0 n0 x2) (lv := fun s => [(0, .ref r0), (2, .int x2), (3, .int s.1), (4, .int s.2.1)]) (st := fun _ => []) (μ := fun s : Int32 × Int32 × mMem => s.2.2) (fun k5 hk5 s => by
    obtain ⟨x3, x4, m⟩ := s
    show T qX1_shortestOf X (bX1_shortestOf_5 r0 n0 x2 k5 (x3, x4, m)) 5 [(0, .ref r0), (2, .int x2), (3, .int x3), (4, .int x4)] [] m
    unfold bX1_shortestOf_5
    dsimp only
    refine T_iload 3 rfl dX1_shortestOf_5 ?_
    refine T_iload_n 1 rfl rfl dX1_shortestOf_7 ?_
    refine T_icmp_ge 26 dX1_shortestOf_8 (by decide) (fun _ => ?_) (fun _ => ?_)
    · refine T_iload_n 2 rfl rfl dX1_shortestOf_26 ?_
      exact T_iret rfl dX1_shortestOf_27
    · refine T_iload_n 2 rfl rfl dX1_shortestOf_11 ?_
      refine T_aload_n 0 rfl rfl dX1_shortestOf_12 ?_
      refine T_iload 3 rfl dX1_shortestOf_13 ?_
      refine T_iald h0 dX1_shortestOf_15 ?_
      refine T_cSI [.int x3, .int (m.1 r0 (x4).toNatClampNeg)] [] mkX1_shorter lmX1_38 rfl (by decide) (Nat.le_of_ble_eq_true rfl) dX1_shortestOf_16 (bsX1_shorter _ x3 (m.1 r0 (x4).toNatClampNeg) m) (fun z2 m1 => ?_)
      refine T_istore_n (lv' := [(3, .int z2), (0, .ref r0), (2, .int x2), (4, .int x4)]) rfl (Nat.le_of_ble_eq_true rfl) rfl dX1_shortestOf_19 ?_
      refine T_iinc (lv' := [(4, .int (x4 + (1 : Int32))), (3, .int z2), (0, .ref r0), (2, .int x2)]) 3 (1 : Int32) rfl (by decide) (Nat.le_of_ble_eq_true rfl) rfl dX1_shortestOf_20 ?_
      refine T_li (fun y4 => ?_)
      refine T_goto 5 dX1_shortestOf_23 (by decide) ?_
      exact T_sub [2, 3, 1, 0] rfl (hk5 (z2, y4, m1)))
def fX1_shortestOf (r0 : Nat) (n0 : Nat) (x1 : Int32) (x2 : Int32) (m : mMem) : mR := lp (bX1_shortestOf_5 r0 n0 x2) FU ((0 : Int32), x1, m)
set_option maxRecDepth 100000 in
theorem bsX1_shortestOf (l : Launch) (r0 : Nat) (n0 : Nat) (x1 : Int32) (x2 : Int32) (m : mMem) (h0 : kd r0 = (10, n0)) : BS l qX1_shortestOf [.ref r0, .int x1, .int x2] m (fX1_shortestOf r0 n0 x1 x2 m) := BS_of (by decide) (Nat.le_of_ble_eq_true rfl) (fun X _ => by
    show T qX1_shortestOf X (fX1_shortestOf r0 n0 x1 x2 m) 0 [(0, .ref r0), (1, .int x1), (2, .int x2)] [] m
    unfold fX1_shortestOf
    refine T_iconst (0 : Int32) (by decide) dX1_shortestOf_0 ?_
    refine T_istore_n (lv' := [(3, .int (0 : Int32)), (0, .ref r0), (1, .int x1), (2, .int x2)]) rfl (Nat.le_of_ble_eq_true rfl) rfl dX1_shortestOf_1 ?_
    refine T_iload_n 2 rfl rfl dX1_shortestOf_2 ?_
    refine T_istore (lv' := [(4, .int x1), (3, .int (0 : Int32)), (0, .ref r0), (1, .int x1), (2, .int x2)]) (Nat.le_of_ble_eq_true rfl) rfl dX1_shortestOf_3 ?_
    exact T_sub [2, 4, 1, 0] rfl (tX1_shortestOf_5 X r0 n0 x2 h0 FU ((0 : Int32), x1, m)))
theorem lmX1_34 : Cond.methodLink RX1 34 yX1_shortestOf ∈ gdL := gd_mem 598 (by decide +kernel) (by decide +kernel)
def jX1_findPaths_71 (k3 : Int32 × mMem → mR) (x0 : Int32) (x1 : Int32) (x2 : Int32) (r3 : Nat) (n3 : Nat) (x4 : Int32) (x6 : Int32) (xs0 : Int32) (rs1 : Nat) (ns1 : Nat) (m : mMem) : mR := ga xs0 ns1 (lt (si m rs1 (xs0).toNatClampNeg (x6 ||| ((1 : Int32) <<< (x4 &&& 31)))) (fun m3 => li (x4 + (1 : Int32)) (fun y4 => k3 (y4, m3))))
set_option maxRecDepth 100000 in
theorem uX1_findPaths_71 (X : mCx) (k3 : Int32 × mMem → mR) (x0 : Int32) (x1 : Int32) (x2 : Int32) (r3 : Nat) (n3 : Nat) (x4 : Int32) (x6 : Int32) (xs0 : Int32) (rs1 : Nat) (ns1 : Nat) (m : mMem) (h3 : kd r3 = (10, n3)) (hs1 : kd rs1 = (10, ns1)) (hk3 : ∀ s : Int32 × mMem, T qX1_findPaths X (k3 s) 3 [(0, .int x0), (1, .int x1), (2, .int x2), (3, .ref r3), (4, .int s.1)] [] s.2) : T qX1_findPaths X (jX1_findPaths_71 k3 x0 x1 x2 r3 n3 x4 x6 xs0 rs1 ns1 m) 71 [(0, .int x0), (1, .int x1), (2, .int x2), (3, .ref r3), (4, .int x4), (6, .int x6)] [.int xs0, .ref rs1] m := by
  unfold jX1_findPaths_71
  refine T_iload 5 rfl dX1_findPaths_71 ?_
  refine T_iconst (1 : Int32) (by decide) dX1_findPaths_73 ?_
  refine T_iload 4 rfl dX1_findPaths_74 ?_
  refine T_ishl dX1_findPaths_76 ?_
  refine T_ior dX1_findPaths_77 ?_
  refine T_goto 82 dX1_findPaths_78 (by decide) ?_
  refine T_iast _ rfl hs1 dX1_findPaths_82 ?_
  refine T_lt (fun m3 => ?_)
  refine T_iinc (lv' := [(4, .int (x4 + (1 : Int32))), (0, .int x0), (1, .int x1), (2, .int x2), (3, .ref r3), (6, .int x6)]) 4 (1 : Int32) rfl (by decide) (Nat.le_of_ble_eq_true rfl) rfl dX1_findPaths_83 ?_
  refine T_li (fun y4 => ?_)
  refine T_goto 3 dX1_findPaths_86 (by decide) ?_
  exact T_sub [1, 2, 3, 4, 0] rfl (hk3 (y4, m3))
def jX1_findPaths_50 (k3 : Int32 × mMem → mR) (x0 : Int32) (x1 : Int32) (x2 : Int32) (r3 : Nat) (n3 : Nat) (x4 : Int32) (x5 : Int32) (xs0 : Int32) (m : mMem) : mR := if x5 = (0 : Int32) then ga x4 n3 (lt (si m r3 (x4).toNatClampNeg (0 : Int32)) (fun m1 => li (x4 + (1 : Int32)) (fun y2 => k3 (y2, m1)))) else if x4 < x1 then jX1_findPaths_71 k3 x0 x1 x2 r3 n3 x4 xs0 x4 r3 n3 m else if xs0 = (0 : Int32) then ga x4 n3 (lt (si m r3 (x4).toNatClampNeg (0 : Int32)) (fun m5 => li (x4 + (1 : Int32)) (fun y6 => k3 (y6, m5)))) else jX1_findPaths_71 k3 x0 x1 x2 r3 n3 x4 xs0 x4 r3 n3 m
set_option maxRecDepth 100000 in
theorem uX1_findPaths_50 (X : mCx) (k3 : Int32 × mMem → mR) (x0 : Int32) (x1 : Int32) (x2 : Int32) (r3 : Nat) (n3 : Nat) (x4 : Int32) (x5 : Int32) (xs0 : Int32) (m : mMem) (h3 : kd r3 = (10, n3)) (hk3 : ∀ s : Int32 × mMem, T qX1_findPaths X (k3 s) 3 [(0, .int x0), (1, .int x1), (2, .int x2), (3, .ref r3), (4, .int s.1)] [] s.2) : T qX1_findPaths X (jX1_findPaths_50 k3 x0 x1 x2 r3 n3 x4 x5 xs0 m) 50 [(0, .int x0), (1, .int x1), (2, .int x2), (3, .ref r3), (4, .int x4), (5, .int x5)] [.int xs0] m := by
  unfold jX1_findPaths_50
  refine T_istore (lv' := [(6, .int xs0), (0, .int x0), (1, .int x1), (2, .int x2), (3, .ref r3), (4, .int x4), (5, .int x5)]) (Nat.le_of_ble_eq_true rfl) rfl dX1_findPaths_50 ?_
  refine T_aload_n 4 rfl rfl dX1_findPaths_52 ?_
  refine T_iload 5 rfl dX1_findPaths_53 ?_
  refine T_iload 6 rfl dX1_findPaths_55 ?_
  refine T_if_eq 81 dX1_findPaths_57 (by decide) (fun _ => ?_) (fun _ => ?_)
  · refine T_iconst (0 : Int32) (by decide) dX1_findPaths_81 ?_
    refine T_iast _ rfl h3 dX1_findPaths_82 ?_
    refine T_lt (fun m1 => ?_)
    refine T_iinc (lv' := [(4, .int (x4 + (1 : Int32))), (6, .int xs0), (0, .int x0), (1, .int x1), (2, .int x2), (3, .ref r3), (5, .int x5)]) 5 (1 : Int32) rfl (by decide) (Nat.le_of_ble_eq_true rfl) rfl dX1_findPaths_83 ?_
    refine T_li (fun y2 => ?_)
    refine T_goto 3 dX1_findPaths_86 (by decide) ?_
    exact T_sub [2, 3, 4, 5, 0] rfl (hk3 (y2, m1))
  · refine T_iload 5 rfl dX1_findPaths_60 ?_
    refine T_iload_n 2 rfl rfl dX1_findPaths_62 ?_
    refine T_icmp_lt 71 dX1_findPaths_63 (by decide) (fun _ => ?_) (fun _ => ?_)
    · exact T_sub [1, 2, 3, 4, 5, 0] rfl (uX1_findPaths_71 X k3 x0 x1 x2 r3 n3 x4 xs0 x4 r3 n3 m h3 h3 hk3)
    · refine T_iload 0 rfl dX1_findPaths_66 ?_
      refine T_if_eq 81 dX1_findPaths_68 (by decide) (fun _ => ?_) (fun _ => ?_)
      · refine T_iconst (0 : Int32) (by decide) dX1_findPaths_81 ?_
        refine T_iast _ rfl h3 dX1_findPaths_82 ?_
        refine T_lt (fun m5 => ?_)
        refine T_iinc (lv' := [(4, .int (x4 + (1 : Int32))), (6, .int xs0), (0, .int x0), (1, .int x1), (2, .int x2), (3, .ref r3), (5, .int x5)]) 5 (1 : Int32) rfl (by decide) (Nat.le_of_ble_eq_true rfl) rfl dX1_findPaths_83 ?_
        refine T_li (fun y6 => ?_)
        refine T_goto 3 dX1_findPaths_86 (by decide) ?_
        exact T_sub [2, 3, 4, 5, 0] rfl (hk3 (y6, m5))
      · exact T_sub [1, 2, 3, 4, 5, 0] rfl (uX1_findPaths_71 X k3 x0 x1 x2 r3 n3 x4 xs0 x4 r3 n3 m h3 h3 hk3)
def jX1_findPaths_49 (k3 : Int32 × mMem → mR) (x0 : Int32) (x1 : Int32) (x2 : Int32) (r3 : Nat) (n3 : Nat) (x4 : Int32) (x5 : Int32) (m : mMem) : mR := jX1_findPaths_50 k3 x0 x1 x2 r3 n3 x4 x5 (0 : Int32) m
set_option maxRecDepth 100000 in
theorem uX1_findPaths_49 (X : mCx) (k3 : Int32 × mMem → mR) (x0 : Int32) (x1 : Int32) (x2 : Int32) (r3 : Nat) (n3 : Nat) (x4 : Int32) (x5 : Int32) (m : mMem) (h3 : kd r3 = (10, n3)) (hk3 : ∀ s : Int32 × mMem, T qX1_findPaths X (k3 s) 3 [(0, .int x0), (1, .int x1), (2, .int x2), (3, .ref r3), (4, .int s.1)] [] s.2) : T qX1_findPaths X (jX1_findPaths_49 k3 x0 x1 x2 r3 n3 x4 x5 m) 49 [(0, .int x0), (1, .int x1), (2, .int x2), (3, .ref r3), (4, .int x4), (5, .int x5)] [] m := by
  unfold jX1_findPaths_49
  refine T_iconst (0 : Int32) (by decide) dX1_findPaths_49 ?_
  exact T_sub [0, 1, 2, 3, 4, 5] rfl (uX1_findPaths_50 X k3 x0 x1 x2 r3 n3 x4 x5 (0 : Int32) m h3 hk3)
def jX1_findPaths_23 (k3 : Int32 × mMem → mR) (x0 : Int32) (x1 : Int32) (x2 : Int32) (r3 : Nat) (n3 : Nat) (x4 : Int32) (xs0 : Int32) (m : mMem) : mR := if xs0 = (0 : Int32) then jX1_findPaths_49 k3 x0 x1 x2 r3 n3 x4 xs0 m else if x4 < x1 then jX1_findPaths_49 k3 x0 x1 x2 r3 n3 x4 xs0 m else bI (fX1_shortestOf r3 n3 (x4 - x1) x4 m) (fun z8 m7 => jX1_findPaths_50 k3 x0 x1 x2 r3 n3 x4 xs0 z8 m7)
set_option maxRecDepth 100000 in
theorem uX1_findPaths_23 (X : mCx) (k3 : Int32 × mMem → mR) (x0 : Int32) (x1 : Int32) (x2 : Int32) (r3 : Nat) (n3 : Nat) (x4 : Int32) (xs0 : Int32) (m : mMem) (h3 : kd r3 = (10, n3)) (hk3 : ∀ s : Int32 × mMem, T qX1_findPaths X (k3 s) 3 [(0, .int x0), (1, .int x1), (2, .int x2), (3, .ref r3), (4, .int s.1)] [] s.2) : T qX1_findPaths X (jX1_findPaths_23 k3 x0 x1 x2 r3 n3 x4 xs0 m) 23 [(0, .int x0), (1, .int x1), (2, .int x2), (3, .ref r3), (4, .int x4)] [.int xs0] m := by
  unfold jX1_findPaths_23
  refine T_istore (lv' := [(5, .int xs0), (0, .int x0), (1, .int x1), (2, .int x2), (3, .ref r3), (4, .int x4)]) (Nat.le_of_ble_eq_true rfl) rfl dX1_findPaths_23 ?_
  refine T_iload 0 rfl dX1_findPaths_25 ?_
  refine T_if_eq 49 dX1_findPaths_27 (by decide) (fun _ => ?_) (fun _ => ?_)
  · exact T_sub [1, 2, 3, 4, 5, 0] rfl (uX1_findPaths_49 X k3 x0 x1 x2 r3 n3 x4 xs0 m h3 hk3)
  · refine T_iload 5 rfl dX1_findPaths_30 ?_
    refine T_iload_n 2 rfl rfl dX1_findPaths_32 ?_
    refine T_icmp_lt 49 dX1_findPaths_33 (by decide) (fun _ => ?_) (fun _ => ?_)
    · exact T_sub [1, 2, 3, 4, 5, 0] rfl (uX1_findPaths_49 X k3 x0 x1 x2 r3 n3 x4 xs0 m h3 hk3)
    · refine T_aload_n 4 rfl rfl dX1_findPaths_36 ?_
      refine T_iload 5 rfl dX1_findPaths_37 ?_
      refine T_iload_n 2 rfl rfl dX1_findPaths_39 ?_
      refine T_isub dX1_findPaths_40 ?_
      refine T_iload 5 rfl dX1_findPaths_41 ?_
      refine T_cSI [.ref r3, .int (x4 - x1), .int x4] [] mkX1_shortestOf lmX1_34 rfl (by decide) (Nat.le_of_ble_eq_true rfl) dX1_findPaths_43 (bsX1_shortestOf _ r3 n3 (x4 - x1) x4 m h3) (fun z8 m7 => ?_)
      refine T_goto 50 dX1_findPaths_46 (by decide) ?_
      exact T_sub [1, 2, 3, 4, 5, 0] rfl (uX1_findPaths_50 X k3 x0 x1 x2 r3 n3 x4 xs0 z8 m7 h3 hk3)
def bX1_findPaths_3 (x0 : Int32) (x1 : Int32) (x2 : Int32) (r3 : Nat) (n3 : Nat) (k3 : Int32 × mMem → mR) (s : Int32 × mMem) : mR := match s with
  | (x4, m) => if x2 < x4 then some (none, m) else if ((x0 >>> (x4 &&& 31)) &&& (1 : Int32)) = (0 : Int32) then jX1_findPaths_23 k3 x0 x1 x2 r3 n3 x4 (0 : Int32) m else jX1_findPaths_23 k3 x0 x1 x2 r3 n3 x4 (1 : Int32) m
set_option maxRecDepth 100000 in
theorem tX1_findPaths_3 (X : mCx) (x0 : Int32) (x1 : Int32) (x2 : Int32) (r3 : Nat) (n3 : Nat) (h3 : kd r3 = (10, n3)) : ∀ (n : Nat) (s : Int32 × mMem), T qX1_findPaths X (lp (bX1_findPaths_3 x0 x1 x2 r3 n3) n s) 3 [(0, .int x0), (1, .int x1), (2, .int x2), (3, .ref r3), (4, .int s.1)] [] s.2 :=
  T_lp (body := bX1_findPaths_3 x0 x1 x2 r3 n3) (lv := fun s => [(0, .int x0), (1, .int x1), (2, .int x2), (3, .ref r3), (4, .int s.1)]) (st := fun _ => []) (μ := fun s : Int32 × mMem => s.2) (fun k3 hk3 s => by
    obtain ⟨x4, m⟩ := s
    show T qX1_findPaths X (bX1_findPaths_3 x0 x1 x2 r3 n3 k3 (x4, m)) 3 [(0, .int x0), (1, .int x1), (2, .int x2), (3, .ref r3), (4, .int x4)] [] m
    unfold bX1_findPaths_3
    dsimp only
    refine T_iload 4 rfl dX1_findPaths_3 ?_
    refine T_iload_n 2 rfl rfl dX1_findPaths_5 ?_
    refine T_icmp_gt 89 dX1_findPaths_6 (by decide) (fun _ => ?_) (fun _ => ?_)
    · exact T_vret rfl dX1_findPaths_89
    · refine T_iload_n 0 rfl rfl dX1_findPaths_9 ?_
      refine T_iload 4 rfl dX1_findPaths_10 ?_
      refine T_ishr dX1_findPaths_12 ?_
      refine T_iconst (1 : Int32) (by decide) dX1_findPaths_13 ?_
      refine T_iand dX1_findPaths_14 ?_
      refine T_if_eq 22 dX1_findPaths_15 (by decide) (fun _ => ?_) (fun _ => ?_)
      · refine T_iconst (0 : Int32) (by decide) dX1_findPaths_22 ?_
        exact T_sub [0, 1, 2, 3, 4] rfl (uX1_findPaths_23 X k3 x0 x1 x2 r3 n3 x4 (0 : Int32) m h3 hk3)
      · refine T_iconst (1 : Int32) (by decide) dX1_findPaths_18 ?_
        refine T_goto 23 dX1_findPaths_19 (by decide) ?_
        exact T_sub [0, 1, 2, 3, 4] rfl (uX1_findPaths_23 X k3 x0 x1 x2 r3 n3 x4 (1 : Int32) m h3 hk3))
def fX1_findPaths (x0 : Int32) (x1 : Int32) (x2 : Int32) (r3 : Nat) (n3 : Nat) (m : mMem) : mR := lp (bX1_findPaths_3 x0 x1 x2 r3 n3) FU ((0 : Int32), m)
set_option maxRecDepth 100000 in
theorem bsX1_findPaths (l : Launch) (x0 : Int32) (x1 : Int32) (x2 : Int32) (r3 : Nat) (n3 : Nat) (m : mMem) (h3 : kd r3 = (10, n3)) : BS l qX1_findPaths [.int x0, .int x1, .int x2, .ref r3] m (fX1_findPaths x0 x1 x2 r3 n3 m) := BS_of (by decide) (Nat.le_of_ble_eq_true rfl) (fun X _ => by
    show T qX1_findPaths X (fX1_findPaths x0 x1 x2 r3 n3 m) 0 [(0, .int x0), (1, .int x1), (2, .int x2), (3, .ref r3)] [] m
    unfold fX1_findPaths
    refine T_iconst (0 : Int32) (by decide) dX1_findPaths_0 ?_
    refine T_istore (lv' := [(4, .int (0 : Int32)), (0, .int x0), (1, .int x1), (2, .int x2), (3, .ref r3)]) (Nat.le_of_ble_eq_true rfl) rfl dX1_findPaths_1 ?_
    exact T_sub [1, 2, 3, 4, 0] rfl (tX1_findPaths_3 X x0 x1 x2 r3 n3 h3 FU ((0 : Int32), m)))
theorem lmX1_23 : Cond.methodLink RX1 23 yX4_treadBits ∈ gdL := gd_mem 593 (by decide +kernel) (by decide +kernel)
theorem lmX1_27 : Cond.methodLink RX1 27 yX4_reachOf ∈ gdL := gd_mem 594 (by decide +kernel) (by decide +kernel)
theorem lmX1_30 : Cond.methodLink RX1 30 yX1_findPaths ∈ gdL := gd_mem 595 (by decide +kernel) (by decide +kernel)
theorem lfX1_9 : Cond.fieldLink RX1 9 "RankStairs$Climber" "paths" "[I" ∈ gdL := gd_mem 197 (by decide +kernel) (by decide +kernel)
theorem gRX1_9 {q : mMI} {X : mCx} {tgt : mR} {pc : Nat} {lv : List (Nat × Value)} {st : List Value} {μ : mMem} {b : Nat} (hq : q.1.cls = RX1) (hb : kd b = (1, 0)) (z : Nat) (hz : rf b 0 = z) (hd : decode q.2.1 pc = .ok (.getfield 9, 3)) (h : T q X tgt (pc + 3) lv (.ref z :: st) μ) : T q X tgt pc lv (.ref b :: st) μ := T_getR (c := 1) rfl (by decide) rfl (by decide) (by rw [hq]; exact lfX1_9) hb z hz hd h
theorem lfX1_18 : Cond.fieldLink RX1 18 "RankStairs$House" "floorOf" "[I" ∈ gdL := gd_mem 160 (by decide +kernel) (by decide +kernel)
theorem gRX1_18 {q : mMI} {X : mCx} {tgt : mR} {pc : Nat} {lv : List (Nat × Value)} {st : List Value} {μ : mMem} {b : Nat} (hq : q.1.cls = RX1) (hb : kd b = (4, 0)) (z : Nat) (hz : rf b 11 = z) (hd : decode q.2.1 pc = .ok (.getfield 18, 3)) (h : T q X tgt (pc + 3) lv (.ref z :: st) μ) : T q X tgt pc lv (.ref b :: st) μ := T_getR (c := 4) rfl (by decide) rfl (by decide) (by rw [hq]; exact lfX1_18) hb z hz hd h
def fX1_shortest (r1 : Nat) (x2 : Int32) (m : mMem) : mR := ga x2 4 (li (m.1 (r1 + 7) (x2).toNatClampNeg) (fun y1 => bI (fX4_treadBits r1 x2 m) (fun z3 m2 => bI (fX4_reachOf r1 x2 m2) (fun z6 m5 => bV (fX1_findPaths z3 z6 y1 55 10 m5) (fun m8 => ga y1 10 (some (some (.int (m8.1 55 (y1).toNatClampNeg)), m8)))))))
set_option maxRecDepth 100000 in
theorem bsX1_shortest (l : Launch) (r1 : Nat) (x2 : Int32) (m : mMem) (h1 : kd r1 = (4, 0)) : BS l qX1_shortest [.ref 54, .ref r1, .int x2] m (fX1_shortest r1 x2 m) := BS_of (by decide) (Nat.le_of_ble_eq_true rfl) (fun X _ => by
    show T qX1_shortest X (fX1_shortest r1 x2 m) 0 [(0, .ref 54), (1, .ref r1), (2, .int x2)] [] m
    unfold fX1_shortest
    refine T_aload_n 1 rfl rfl dX1_shortest_0 ?_
    refine gRX1_18 rfl h1 (r1 + 7) (rfH11 h1) dX1_shortest_1 ?_
    refine T_iload_n 2 rfl rfl dX1_shortest_4 ?_
    refine T_iald (kdH11 h1) dX1_shortest_5 ?_
    refine T_istore_n (lv' := [(3, .int (m.1 (r1 + 7) (x2).toNatClampNeg)), (0, .ref 54), (1, .ref r1), (2, .int x2)]) rfl (Nat.le_of_ble_eq_true rfl) rfl dX1_shortest_6 ?_
    refine T_li (fun y1 => ?_)
    refine T_aload_n 2 rfl rfl dX1_shortest_7 ?_
    refine T_iload_n 3 rfl rfl dX1_shortest_8 ?_
    refine T_cVI (c := 4) [.int x2] [] mkX4_treadBits lmX1_23 rfl rfl (by decide) (Nat.le_of_ble_eq_true rfl) h1 dX1_shortest_9 (bsX4_treadBits _ r1 x2 m h1) (fun z3 m2 => ?_)
    refine T_aload_n 2 rfl rfl dX1_shortest_12 ?_
    refine T_iload_n 3 rfl rfl dX1_shortest_13 ?_
    refine T_cVI (c := 4) [.int x2] [.int z3] mkX4_reachOf lmX1_27 rfl rfl (by decide) (Nat.le_of_ble_eq_true rfl) h1 dX1_shortest_14 (bsX4_reachOf _ r1 x2 m2 h1) (fun z6 m5 => ?_)
    refine T_iload_n 0 rfl rfl dX1_shortest_17 ?_
    refine T_aload_n 1 rfl rfl dX1_shortest_18 ?_
    refine gRX1_9 rfl kd_54 55 rfl dX1_shortest_19 ?_
    refine T_cSV [.int z3, .int z6, .int y1, .ref 55] [] mkX1_findPaths lmX1_30 rfl (by decide) (Nat.le_of_ble_eq_true rfl) dX1_shortest_22 (bsX1_findPaths _ z3 z6 y1 55 10 m5 kd_55) (fun m8 => ?_)
    refine T_aload_n 1 rfl rfl dX1_shortest_25 ?_
    refine gRX1_9 rfl kd_54 55 rfl dX1_shortest_26 ?_
    refine T_iload_n 0 rfl rfl dX1_shortest_29 ?_
    refine T_iald kd_55 dX1_shortest_30 ?_
    exact T_iret rfl dX1_shortest_31)
theorem lmX1_47 : Cond.methodLink RX1 47 Lib.Math.max.name ∈ gdL := gd_mem 626 (by decide +kernel) (by decide +kernel)
theorem lfX1_15 : Cond.fieldLink RX1 15 "RankStairs$Climber" "row" "[I" ∈ gdL := gd_mem 198 (by decide +kernel) (by decide +kernel)
theorem gRX1_15 {q : mMI} {X : mCx} {tgt : mR} {pc : Nat} {lv : List (Nat × Value)} {st : List Value} {μ : mMem} {b : Nat} (hq : q.1.cls = RX1) (hb : kd b = (1, 0)) (z : Nat) (hz : rf b 1 = z) (hd : decode q.2.1 pc = .ok (.getfield 15, 3)) (h : T q X tgt (pc + 3) lv (.ref z :: st) μ) : T q X tgt pc lv (.ref b :: st) μ := T_getR (c := 1) rfl (by decide) rfl (by decide) (by rw [hq]; exact lfX1_15) hb z hz hd h
def bX1_countClimbs_73 (k24 : Int32 × mMem → mR) (x3 : Int32) (x4 : Int32) (x5 : Int32) (x6 : Int32) (k73 : Int32 × Int32 × mMem → mR) (s : Int32 × Int32 × mMem) : mR := match s with
  | (x7, x8, m) => if x6 ≤ x8 then ga x6 10 (lt (si m 56 (x6).toNatClampNeg x7) (fun m11 => li (x6 + (1 : Int32)) (fun y12 => k24 (y12, m11)))) else ga x8 10 (li (x7 + (m.1 56 (x8).toNatClampNeg)) (fun y13 => li (x8 + (1 : Int32)) (fun y14 => k73 (y13, y14, m))))
set_option maxRecDepth 100000 in
theorem tX1_countClimbs_73 (X : mCx) (k24 : Int32 × mMem → mR) (x3 : Int32) (x4 : Int32) (x5 : Int32) (x6 : Int32) (hk24 : ∀ s : Int32 × mMem, T qX1_countClimbs X (k24 s) 24 [(0, .ref 54), (3, .int x3), (4, .int x4), (5, .int x5), (6, .int s.1)] [] s.2) : ∀ (n : Nat) (s : Int32 × Int32 × mMem), T qX1_countClimbs X (lp (bX1_countClimbs_73 k24 x3 x4 x5 x6) n s) 73 [(0, .ref 54), (3, .int x3), (4, .int x4), (5, .int x5), (6, .int x6), (7, .int s.1), (8, .int s.2.1)] [] s.2.2 :=
  T_lp (body := bX1_countClimbs_73 k24 x3 x4 x5 x6) (lv := fun s => [(0, .ref 54), (3, .int x3), (4, .int x4), (5, .int x5), (6, .int x6), (7, .int s.1), (8, .int s.2.1)]) (st := fun _ => []) (μ := fun s : Int32 × Int32 × mMem => s.2.2) (fun k73 hk73 s => by
    obtain ⟨x7, x8, m⟩ := s
    show T qX1_countClimbs X (bX1_countClimbs_73 k24 x3 x4 x5 x6 k73 (x7, x8, m)) 73 [(0, .ref 54), (3, .int x3), (4, .int x4), (5, .int x5), (6, .int x6), (7, .int x7), (8, .int x8)] [] m
    unfold bX1_countClimbs_73
    dsimp only
    refine T_iload 6 rfl dX1_countClimbs_73 ?_
    refine T_iload 4 rfl dX1_countClimbs_75 ?_
    refine T_icmp_ge 98 dX1_countClimbs_77 (by decide) (fun _ => ?_) (fun _ => ?_)
    · refine T_aload_n 0 rfl rfl dX1_countClimbs_98 ?_
      refine gRX1_15 rfl kd_54 56 rfl dX1_countClimbs_99 ?_
      refine T_iload 4 rfl dX1_countClimbs_102 ?_
      refine T_iload 5 rfl dX1_countClimbs_104 ?_
      refine T_iast _ rfl kd_56 dX1_countClimbs_106 ?_
      refine T_lt (fun m11 => ?_)
      refine T_iinc (lv' := [(6, .int (x6 + (1 : Int32))), (0, .ref 54), (3, .int x3), (4, .int x4), (5, .int x5), (7, .int x7), (8, .int x8)]) 4 (1 : Int32) rfl (by decide) (Nat.le_of_ble_eq_true rfl) rfl dX1_countClimbs_107 ?_
      refine T_li (fun y12 => ?_)
      refine T_goto 24 dX1_countClimbs_110 (by decide) ?_
      exact T_sub [1, 2, 3, 4, 0] rfl (hk24 (y12, m11))
    · refine T_iload 5 rfl dX1_countClimbs_80 ?_
      refine T_aload_n 0 rfl rfl dX1_countClimbs_82 ?_
      refine gRX1_15 rfl kd_54 56 rfl dX1_countClimbs_83 ?_
      refine T_iload 6 rfl dX1_countClimbs_86 ?_
      refine T_iald kd_56 dX1_countClimbs_88 ?_
      refine T_iadd dX1_countClimbs_89 ?_
      refine T_istore (lv' := [(7, .int (x7 + (m.1 56 (x8).toNatClampNeg))), (0, .ref 54), (3, .int x3), (4, .int x4), (5, .int x5), (6, .int x6), (8, .int x8)]) (Nat.le_of_ble_eq_true rfl) rfl dX1_countClimbs_90 ?_
      refine T_li (fun y13 => ?_)
      refine T_iinc (lv' := [(8, .int (x8 + (1 : Int32))), (7, .int y13), (0, .ref 54), (3, .int x3), (4, .int x4), (5, .int x5), (6, .int x6)]) 6 (1 : Int32) rfl (by decide) (Nat.le_of_ble_eq_true rfl) rfl dX1_countClimbs_92 ?_
      refine T_li (fun y14 => ?_)
      refine T_goto 73 dX1_countClimbs_95 (by decide) ?_
      exact T_sub [2, 3, 4, 5, 6, 1, 0] rfl (hk73 (y13, y14, m)))
def jX1_countClimbs_60 (k24 : Int32 × mMem → mR) (x3 : Int32) (x4 : Int32) (x5 : Int32) (x6 : Int32) (xs0 : Int32) (m : mMem) : mR := li (imax (x6 - x4) (0 : Int32)) (fun y10 => lp (bX1_countClimbs_73 k24 x3 x4 x5 x6) FU (xs0, y10, m))
set_option maxRecDepth 100000 in
theorem uX1_countClimbs_60 (X : mCx) (k24 : Int32 × mMem → mR) (x3 : Int32) (x4 : Int32) (x5 : Int32) (x6 : Int32) (xs0 : Int32) (m : mMem) (hk24 : ∀ s : Int32 × mMem, T qX1_countClimbs X (k24 s) 24 [(0, .ref 54), (3, .int x3), (4, .int x4), (5, .int x5), (6, .int s.1)] [] s.2) : T qX1_countClimbs X (jX1_countClimbs_60 k24 x3 x4 x5 x6 xs0 m) 60 [(0, .ref 54), (3, .int x3), (4, .int x4), (5, .int x5), (6, .int x6)] [.int xs0] m := by
  unfold jX1_countClimbs_60
  refine T_istore (lv' := [(7, .int xs0), (0, .ref 54), (3, .int x3), (4, .int x4), (5, .int x5), (6, .int x6)]) (Nat.le_of_ble_eq_true rfl) rfl dX1_countClimbs_60 ?_
  refine T_iload 5 rfl dX1_countClimbs_62 ?_
  refine T_iload 3 rfl dX1_countClimbs_64 ?_
  refine T_isub dX1_countClimbs_66 ?_
  refine T_iconst (0 : Int32) (by decide) dX1_countClimbs_67 ?_
  refine T_mmax lmX1_47 (by decide) (Nat.le_of_ble_eq_true rfl) dX1_countClimbs_68 ?_
  refine T_istore (lv' := [(8, .int (imax (x6 - x4) (0 : Int32))), (7, .int xs0), (0, .ref 54), (3, .int x3), (4, .int x4), (5, .int x5), (6, .int x6)]) (Nat.le_of_ble_eq_true rfl) rfl dX1_countClimbs_71 ?_
  refine T_li (fun y10 => ?_)
  exact T_sub [2, 3, 4, 5, 6, 1, 0] rfl (tX1_countClimbs_73 X k24 x3 x4 x5 x6 hk24 FU (xs0, y10, m))
def bX1_countClimbs_24 (x3 : Int32) (x4 : Int32) (x5 : Int32) (k24 : Int32 × mMem → mR) (s : Int32 × mMem) : mR := match s with
  | (x6, m) => if x5 < x6 then ga x5 10 (some (some (.int (m.1 56 (x5).toNatClampNeg)), m)) else ga x6 10 (lt (si m 56 (x6).toNatClampNeg (0 : Int32)) (fun m8 => if ((x3 >>> (x6 &&& 31)) &&& (1 : Int32)) = (0 : Int32) then li (x6 + (1 : Int32)) (fun y9 => k24 (y9, m8)) else if x4 ≤ x6 then jX1_countClimbs_60 k24 x3 x4 x5 x6 (0 : Int32) m8 else jX1_countClimbs_60 k24 x3 x4 x5 x6 (1 : Int32) m8))
set_option maxRecDepth 100000 in
theorem tX1_countClimbs_24 (X : mCx) (x3 : Int32) (x4 : Int32) (x5 : Int32)  : ∀ (n : Nat) (s : Int32 × mMem), T qX1_countClimbs X (lp (bX1_countClimbs_24 x3 x4 x5) n s) 24 [(0, .ref 54), (3, .int x3), (4, .int x4), (5, .int x5), (6, .int s.1)] [] s.2 :=
  T_lp (body := bX1_countClimbs_24 x3 x4 x5) (lv := fun s => [(0, .ref 54), (3, .int x3), (4, .int x4), (5, .int x5), (6, .int s.1)]) (st := fun _ => []) (μ := fun s : Int32 × mMem => s.2) (fun k24 hk24 s => by
    obtain ⟨x6, m⟩ := s
    show T qX1_countClimbs X (bX1_countClimbs_24 x3 x4 x5 k24 (x6, m)) 24 [(0, .ref 54), (3, .int x3), (4, .int x4), (5, .int x5), (6, .int x6)] [] m
    unfold bX1_countClimbs_24
    dsimp only
    refine T_iload 4 rfl dX1_countClimbs_24 ?_
    refine T_iload 3 rfl dX1_countClimbs_26 ?_
    refine T_icmp_gt 113 dX1_countClimbs_28 (by decide) (fun _ => ?_) (fun _ => ?_)
    · refine T_aload_n 0 rfl rfl dX1_countClimbs_113 ?_
      refine gRX1_15 rfl kd_54 56 rfl dX1_countClimbs_114 ?_
      refine T_iload 3 rfl dX1_countClimbs_117 ?_
      refine T_iald kd_56 dX1_countClimbs_119 ?_
      exact T_iret rfl dX1_countClimbs_120
    · refine T_aload_n 0 rfl rfl dX1_countClimbs_31 ?_
      refine gRX1_15 rfl kd_54 56 rfl dX1_countClimbs_32 ?_
      refine T_iload 4 rfl dX1_countClimbs_35 ?_
      refine T_iconst (0 : Int32) (by decide) dX1_countClimbs_37 ?_
      refine T_iast _ rfl kd_56 dX1_countClimbs_38 ?_
      refine T_lt (fun m8 => ?_)
      refine T_iload_n 1 rfl rfl dX1_countClimbs_39 ?_
      refine T_iload 4 rfl dX1_countClimbs_40 ?_
      refine T_ishr dX1_countClimbs_42 ?_
      refine T_iconst (1 : Int32) (by decide) dX1_countClimbs_43 ?_
      refine T_iand dX1_countClimbs_44 ?_
      refine T_if_eq 107 dX1_countClimbs_45 (by decide) (fun _ => ?_) (fun _ => ?_)
      · refine T_iinc (lv' := [(6, .int (x6 + (1 : Int32))), (0, .ref 54), (3, .int x3), (4, .int x4), (5, .int x5)]) 4 (1 : Int32) rfl (by decide) (Nat.le_of_ble_eq_true rfl) rfl dX1_countClimbs_107 ?_
        refine T_li (fun y9 => ?_)
        refine T_goto 24 dX1_countClimbs_110 (by decide) ?_
        exact T_sub [1, 2, 3, 4, 0] rfl (hk24 (y9, m8))
      · refine T_iload 4 rfl dX1_countClimbs_48 ?_
        refine T_iload 2 rfl dX1_countClimbs_50 ?_
        refine T_icmp_ge 59 dX1_countClimbs_52 (by decide) (fun _ => ?_) (fun _ => ?_)
        · refine T_iconst (0 : Int32) (by decide) dX1_countClimbs_59 ?_
          exact T_sub [0, 1, 2, 3, 4] rfl (uX1_countClimbs_60 X k24 x3 x4 x5 x6 (0 : Int32) m8 hk24)
        · refine T_iconst (1 : Int32) (by decide) dX1_countClimbs_55 ?_
          refine T_goto 60 dX1_countClimbs_56 (by decide) ?_
          exact T_sub [0, 1, 2, 3, 4] rfl (uX1_countClimbs_60 X k24 x3 x4 x5 x6 (1 : Int32) m8 hk24))
def fX1_countClimbs (r1 : Nat) (x2 : Int32) (m : mMem) : mR := bI (fX4_treadBits r1 x2 m) (fun z2 m1 => bI (fX4_reachOf r1 x2 m1) (fun z5 m4 => ga x2 4 (li (m4.1 (r1 + 7) (x2).toNatClampNeg) (fun y7 => lp (bX1_countClimbs_24 z2 z5 y7) FU ((0 : Int32), m4)))))
set_option maxRecDepth 100000 in
theorem bsX1_countClimbs (l : Launch) (r1 : Nat) (x2 : Int32) (m : mMem) (h1 : kd r1 = (4, 0)) : BS l qX1_countClimbs [.ref 54, .ref r1, .int x2] m (fX1_countClimbs r1 x2 m) := BS_of (by decide) (Nat.le_of_ble_eq_true rfl) (fun X _ => by
    show T qX1_countClimbs X (fX1_countClimbs r1 x2 m) 0 [(0, .ref 54), (1, .ref r1), (2, .int x2)] [] m
    unfold fX1_countClimbs
    refine T_aload_n 1 rfl rfl dX1_countClimbs_0 ?_
    refine T_iload_n 2 rfl rfl dX1_countClimbs_1 ?_
    refine T_cVI (c := 4) [.int x2] [] mkX4_treadBits lmX1_23 rfl rfl (by decide) (Nat.le_of_ble_eq_true rfl) h1 dX1_countClimbs_2 (bsX4_treadBits _ r1 x2 m h1) (fun z2 m1 => ?_)
    refine T_istore_n (lv' := [(3, .int z2), (0, .ref 54), (1, .ref r1), (2, .int x2)]) rfl (Nat.le_of_ble_eq_true rfl) rfl dX1_countClimbs_5 ?_
    refine T_aload_n 2 rfl rfl dX1_countClimbs_6 ?_
    refine T_iload_n 3 rfl rfl dX1_countClimbs_7 ?_
    refine T_cVI (c := 4) [.int x2] [] mkX4_reachOf lmX1_27 rfl rfl (by decide) (Nat.le_of_ble_eq_true rfl) h1 dX1_countClimbs_8 (bsX4_reachOf _ r1 x2 m1 h1) (fun z5 m4 => ?_)
    refine T_istore (lv' := [(4, .int z5), (3, .int z2), (0, .ref 54), (1, .ref r1), (2, .int x2)]) (Nat.le_of_ble_eq_true rfl) rfl dX1_countClimbs_11 ?_
    refine T_aload_n 3 rfl rfl dX1_countClimbs_13 ?_
    refine gRX1_18 rfl h1 (r1 + 7) (rfH11 h1) dX1_countClimbs_14 ?_
    refine T_iload_n 4 rfl rfl dX1_countClimbs_17 ?_
    refine T_iald (kdH11 h1) dX1_countClimbs_18 ?_
    refine T_istore (lv' := [(5, .int (m4.1 (r1 + 7) (x2).toNatClampNeg)), (4, .int z5), (3, .int z2), (0, .ref 54), (1, .ref r1), (2, .int x2)]) (Nat.le_of_ble_eq_true rfl) rfl dX1_countClimbs_19 ?_
    refine T_li (fun y7 => ?_)
    refine T_iconst (0 : Int32) (by decide) dX1_countClimbs_21 ?_
    refine T_istore (lv' := [(6, .int (0 : Int32)), (5, .int y7), (4, .int z5), (3, .int z2), (0, .ref 54), (1, .ref r1), (2, .int x2)]) (Nat.le_of_ble_eq_true rfl) rfl dX1_countClimbs_22 ?_
    exact T_sub [4, 3, 2, 1, 0] rfl (tX1_countClimbs_24 X z2 z5 y7  FU ((0 : Int32), m4)))
theorem lmX1_52 : Cond.methodLink RX1 52 Lib.Math.min.name ∈ gdL := gd_mem 645 (by decide +kernel) (by decide +kernel)
theorem lfX1_55 : Cond.fieldLink RX1 55 "RankStairs$House" "wears" "[I" ∈ gdL := gd_mem 152 (by decide +kernel) (by decide +kernel)
theorem gRX1_55 {q : mMI} {X : mCx} {tgt : mR} {pc : Nat} {lv : List (Nat × Value)} {st : List Value} {μ : mMem} {b : Nat} (hq : q.1.cls = RX1) (hb : kd b = (4, 0)) (z : Nat) (hz : rf b 7 = z) (hd : decode q.2.1 pc = .ok (.getfield 55, 3)) (h : T q X tgt (pc + 3) lv (.ref z :: st) μ) : T q X tgt pc lv (.ref b :: st) μ := T_getR (c := 4) rfl (by decide) rfl (by decide) (by rw [hq]; exact lfX1_55) hb z hz hd h
def bX1_leastWorst_75 (k24 : Int32 × mMem → mR) (r1 : Nat) (x3 : Int32) (x4 : Int32) (x5 : Int32) (x6 : Int32) (k75 : Int32 × Int32 × mMem → mR) (s : Int32 × Int32 × mMem) : mR := match s with
  | (x7, x8, m) => if x6 ≤ x8 then ga x6 10 (ga x6 10 (lt (si m 56 (x6).toNatClampNeg (imax x7 (m.1 (r1 + 3) (x6).toNatClampNeg))) (fun m11 => li (x6 + (1 : Int32)) (fun y12 => k24 (y12, m11))))) else ga x8 10 (li (imin x7 (m.1 56 (x8).toNatClampNeg)) (fun y13 => li (x8 + (1 : Int32)) (fun y14 => k75 (y13, y14, m))))
set_option maxRecDepth 100000 in
theorem tX1_leastWorst_75 (X : mCx) (k24 : Int32 × mMem → mR) (r1 : Nat) (x3 : Int32) (x4 : Int32) (x5 : Int32) (x6 : Int32) (h1 : kd r1 = (4, 0)) (hk24 : ∀ s : Int32 × mMem, T qX1_leastWorst X (k24 s) 24 [(0, .ref 54), (1, .ref r1), (3, .int x3), (4, .int x4), (5, .int x5), (6, .int s.1)] [] s.2) : ∀ (n : Nat) (s : Int32 × Int32 × mMem), T qX1_leastWorst X (lp (bX1_leastWorst_75 k24 r1 x3 x4 x5 x6) n s) 75 [(0, .ref 54), (1, .ref r1), (3, .int x3), (4, .int x4), (5, .int x5), (6, .int x6), (7, .int s.1), (8, .int s.2.1)] [] s.2.2 :=
  T_lp (body := bX1_leastWorst_75 k24 r1 x3 x4 x5 x6) (lv := fun s => [(0, .ref 54), (1, .ref r1), (3, .int x3), (4, .int x4), (5, .int x5), (6, .int x6), (7, .int s.1), (8, .int s.2.1)]) (st := fun _ => []) (μ := fun s : Int32 × Int32 × mMem => s.2.2) (fun k75 hk75 s => by
    obtain ⟨x7, x8, m⟩ := s
    show T qX1_leastWorst X (bX1_leastWorst_75 k24 r1 x3 x4 x5 x6 k75 (x7, x8, m)) 75 [(0, .ref 54), (1, .ref r1), (3, .int x3), (4, .int x4), (5, .int x5), (6, .int x6), (7, .int x7), (8, .int x8)] [] m
    unfold bX1_leastWorst_75
    dsimp only
    refine T_iload 7 rfl dX1_leastWorst_75 ?_
    refine T_iload 5 rfl dX1_leastWorst_77 ?_
    refine T_icmp_ge 102 dX1_leastWorst_79 (by decide) (fun _ => ?_) (fun _ => ?_)
    · refine T_aload_n 0 rfl rfl dX1_leastWorst_102 ?_
      refine gRX1_15 rfl kd_54 56 rfl dX1_leastWorst_103 ?_
      refine T_iload 5 rfl dX1_leastWorst_106 ?_
      refine T_iload 6 rfl dX1_leastWorst_108 ?_
      refine T_aload_n 1 rfl rfl dX1_leastWorst_110 ?_
      refine gRX1_55 rfl h1 (r1 + 3) (rfH7 h1) dX1_leastWorst_111 ?_
      refine T_iload 5 rfl dX1_leastWorst_114 ?_
      refine T_iald (kdH7 h1) dX1_leastWorst_116 ?_
      refine T_mmax lmX1_47 (by decide) (Nat.le_of_ble_eq_true rfl) dX1_leastWorst_117 ?_
      refine T_iast _ rfl kd_56 dX1_leastWorst_120 ?_
      refine T_lt (fun m11 => ?_)
      refine T_iinc (lv' := [(6, .int (x6 + (1 : Int32))), (0, .ref 54), (1, .ref r1), (3, .int x3), (4, .int x4), (5, .int x5), (7, .int x7), (8, .int x8)]) 5 (1 : Int32) rfl (by decide) (Nat.le_of_ble_eq_true rfl) rfl dX1_leastWorst_121 ?_
      refine T_li (fun y12 => ?_)
      refine T_goto 24 dX1_leastWorst_124 (by decide) ?_
      exact T_sub [1, 2, 3, 4, 5, 0] rfl (hk24 (y12, m11))
    · refine T_iload 6 rfl dX1_leastWorst_82 ?_
      refine T_aload_n 0 rfl rfl dX1_leastWorst_84 ?_
      refine gRX1_15 rfl kd_54 56 rfl dX1_leastWorst_85 ?_
      refine T_iload 7 rfl dX1_leastWorst_88 ?_
      refine T_iald kd_56 dX1_leastWorst_90 ?_
      refine T_mmin lmX1_52 (by decide) (Nat.le_of_ble_eq_true rfl) dX1_leastWorst_91 ?_
      refine T_istore (lv' := [(7, .int (imin x7 (m.1 56 (x8).toNatClampNeg))), (0, .ref 54), (1, .ref r1), (3, .int x3), (4, .int x4), (5, .int x5), (6, .int x6), (8, .int x8)]) (Nat.le_of_ble_eq_true rfl) rfl dX1_leastWorst_94 ?_
      refine T_li (fun y13 => ?_)
      refine T_iinc (lv' := [(8, .int (x8 + (1 : Int32))), (7, .int y13), (0, .ref 54), (1, .ref r1), (3, .int x3), (4, .int x4), (5, .int x5), (6, .int x6)]) 7 (1 : Int32) rfl (by decide) (Nat.le_of_ble_eq_true rfl) rfl dX1_leastWorst_96 ?_
      refine T_li (fun y14 => ?_)
      refine T_goto 75 dX1_leastWorst_99 (by decide) ?_
      exact T_sub [2, 3, 4, 5, 6, 7, 1, 0] rfl (hk75 (y13, y14, m)))
def jX1_leastWorst_62 (k24 : Int32 × mMem → mR) (r1 : Nat) (x3 : Int32) (x4 : Int32) (x5 : Int32) (x6 : Int32) (xs0 : Int32) (m : mMem) : mR := li (imax (x6 - x4) (0 : Int32)) (fun y10 => lp (bX1_leastWorst_75 k24 r1 x3 x4 x5 x6) FU (xs0, y10, m))
set_option maxRecDepth 100000 in
theorem uX1_leastWorst_62 (X : mCx) (k24 : Int32 × mMem → mR) (r1 : Nat) (x3 : Int32) (x4 : Int32) (x5 : Int32) (x6 : Int32) (xs0 : Int32) (m : mMem) (h1 : kd r1 = (4, 0)) (hk24 : ∀ s : Int32 × mMem, T qX1_leastWorst X (k24 s) 24 [(0, .ref 54), (1, .ref r1), (3, .int x3), (4, .int x4), (5, .int x5), (6, .int s.1)] [] s.2) : T qX1_leastWorst X (jX1_leastWorst_62 k24 r1 x3 x4 x5 x6 xs0 m) 62 [(0, .ref 54), (1, .ref r1), (3, .int x3), (4, .int x4), (5, .int x5), (6, .int x6)] [.int xs0] m := by
  unfold jX1_leastWorst_62
  refine T_istore (lv' := [(7, .int xs0), (0, .ref 54), (1, .ref r1), (3, .int x3), (4, .int x4), (5, .int x5), (6, .int x6)]) (Nat.le_of_ble_eq_true rfl) rfl dX1_leastWorst_62 ?_
  refine T_iload 6 rfl dX1_leastWorst_64 ?_
  refine T_iload 4 rfl dX1_leastWorst_66 ?_
  refine T_isub dX1_leastWorst_68 ?_
  refine T_iconst (0 : Int32) (by decide) dX1_leastWorst_69 ?_
  refine T_mmax lmX1_47 (by decide) (Nat.le_of_ble_eq_true rfl) dX1_leastWorst_70 ?_
  refine T_istore (lv' := [(8, .int (imax (x6 - x4) (0 : Int32))), (7, .int xs0), (0, .ref 54), (1, .ref r1), (3, .int x3), (4, .int x4), (5, .int x5), (6, .int x6)]) (Nat.le_of_ble_eq_true rfl) rfl dX1_leastWorst_73 ?_
  refine T_li (fun y10 => ?_)
  exact T_sub [2, 3, 4, 5, 6, 7, 1, 0] rfl (tX1_leastWorst_75 X k24 r1 x3 x4 x5 x6 h1 hk24 FU (xs0, y10, m))
def bX1_leastWorst_24 (r1 : Nat) (x3 : Int32) (x4 : Int32) (x5 : Int32) (k24 : Int32 × mMem → mR) (s : Int32 × mMem) : mR := match s with
  | (x6, m) => if x5 < x6 then ga x5 10 (some (some (.int (m.1 56 (x5).toNatClampNeg)), m)) else ga x6 10 (lt (si m 56 (x6).toNatClampNeg (100 : Int32)) (fun m8 => if ((x3 >>> (x6 &&& 31)) &&& (1 : Int32)) = (0 : Int32) then li (x6 + (1 : Int32)) (fun y9 => k24 (y9, m8)) else if x4 ≤ x6 then jX1_leastWorst_62 k24 r1 x3 x4 x5 x6 (100 : Int32) m8 else jX1_leastWorst_62 k24 r1 x3 x4 x5 x6 (0 : Int32) m8))
set_option maxRecDepth 100000 in
theorem tX1_leastWorst_24 (X : mCx) (r1 : Nat) (x3 : Int32) (x4 : Int32) (x5 : Int32) (h1 : kd r1 = (4, 0)) : ∀ (n : Nat) (s : Int32 × mMem), T qX1_leastWorst X (lp (bX1_leastWorst_24 r1 x3 x4 x5) n s) 24 [(0, .ref 54), (1, .ref r1), (3, .int x3), (4, .int x4), (5, .int x5), (6, .int s.1)] [] s.2 :=
  T_lp (body := bX1_leastWorst_24 r1 x3 x4 x5) (lv := fun s => [(0, .ref 54), (1, .ref r1), (3, .int x3), (4, .int x4), (5, .int x5), (6, .int s.1)]) (st := fun _ => []) (μ := fun s : Int32 × mMem => s.2) (fun k24 hk24 s => by
    obtain ⟨x6, m⟩ := s
    show T qX1_leastWorst X (bX1_leastWorst_24 r1 x3 x4 x5 k24 (x6, m)) 24 [(0, .ref 54), (1, .ref r1), (3, .int x3), (4, .int x4), (5, .int x5), (6, .int x6)] [] m
    unfold bX1_leastWorst_24
    dsimp only
    refine T_iload 5 rfl dX1_leastWorst_24 ?_
    refine T_iload 4 rfl dX1_leastWorst_26 ?_
    refine T_icmp_gt 127 dX1_leastWorst_28 (by decide) (fun _ => ?_) (fun _ => ?_)
    · refine T_aload_n 0 rfl rfl dX1_leastWorst_127 ?_
      refine gRX1_15 rfl kd_54 56 rfl dX1_leastWorst_128 ?_
      refine T_iload 4 rfl dX1_leastWorst_131 ?_
      refine T_iald kd_56 dX1_leastWorst_133 ?_
      exact T_iret rfl dX1_leastWorst_134
    · refine T_aload_n 0 rfl rfl dX1_leastWorst_31 ?_
      refine gRX1_15 rfl kd_54 56 rfl dX1_leastWorst_32 ?_
      refine T_iload 5 rfl dX1_leastWorst_35 ?_
      refine T_bipush (100 : Int32) (by decide) dX1_leastWorst_37 ?_
      refine T_iast _ rfl kd_56 dX1_leastWorst_39 ?_
      refine T_lt (fun m8 => ?_)
      refine T_iload_n 2 rfl rfl dX1_leastWorst_40 ?_
      refine T_iload 5 rfl dX1_leastWorst_41 ?_
      refine T_ishr dX1_leastWorst_43 ?_
      refine T_iconst (1 : Int32) (by decide) dX1_leastWorst_44 ?_
      refine T_iand dX1_leastWorst_45 ?_
      refine T_if_eq 121 dX1_leastWorst_46 (by decide) (fun _ => ?_) (fun _ => ?_)
      · refine T_iinc (lv' := [(6, .int (x6 + (1 : Int32))), (0, .ref 54), (1, .ref r1), (3, .int x3), (4, .int x4), (5, .int x5)]) 5 (1 : Int32) rfl (by decide) (Nat.le_of_ble_eq_true rfl) rfl dX1_leastWorst_121 ?_
        refine T_li (fun y9 => ?_)
        refine T_goto 24 dX1_leastWorst_124 (by decide) ?_
        exact T_sub [1, 2, 3, 4, 5, 0] rfl (hk24 (y9, m8))
      · refine T_iload 5 rfl dX1_leastWorst_49 ?_
        refine T_iload 3 rfl dX1_leastWorst_51 ?_
        refine T_icmp_ge 60 dX1_leastWorst_53 (by decide) (fun _ => ?_) (fun _ => ?_)
        · refine T_bipush (100 : Int32) (by decide) dX1_leastWorst_60 ?_
          exact T_sub [0, 1, 2, 3, 4, 5] rfl (uX1_leastWorst_62 X k24 r1 x3 x4 x5 x6 (100 : Int32) m8 h1 hk24)
        · refine T_iconst (0 : Int32) (by decide) dX1_leastWorst_56 ?_
          refine T_goto 62 dX1_leastWorst_57 (by decide) ?_
          exact T_sub [0, 1, 2, 3, 4, 5] rfl (uX1_leastWorst_62 X k24 r1 x3 x4 x5 x6 (0 : Int32) m8 h1 hk24))
def fX1_leastWorst (r1 : Nat) (x2 : Int32) (m : mMem) : mR := bI (fX4_treadBits r1 x2 m) (fun z2 m1 => bI (fX4_reachOf r1 x2 m1) (fun z5 m4 => ga x2 4 (li (m4.1 (r1 + 7) (x2).toNatClampNeg) (fun y7 => lp (bX1_leastWorst_24 r1 z2 z5 y7) FU ((0 : Int32), m4)))))
set_option maxRecDepth 100000 in
theorem bsX1_leastWorst (l : Launch) (r1 : Nat) (x2 : Int32) (m : mMem) (h1 : kd r1 = (4, 0)) : BS l qX1_leastWorst [.ref 54, .ref r1, .int x2] m (fX1_leastWorst r1 x2 m) := BS_of (by decide) (Nat.le_of_ble_eq_true rfl) (fun X _ => by
    show T qX1_leastWorst X (fX1_leastWorst r1 x2 m) 0 [(0, .ref 54), (1, .ref r1), (2, .int x2)] [] m
    unfold fX1_leastWorst
    refine T_aload_n 1 rfl rfl dX1_leastWorst_0 ?_
    refine T_iload_n 2 rfl rfl dX1_leastWorst_1 ?_
    refine T_cVI (c := 4) [.int x2] [] mkX4_treadBits lmX1_23 rfl rfl (by decide) (Nat.le_of_ble_eq_true rfl) h1 dX1_leastWorst_2 (bsX4_treadBits _ r1 x2 m h1) (fun z2 m1 => ?_)
    refine T_istore_n (lv' := [(3, .int z2), (0, .ref 54), (1, .ref r1), (2, .int x2)]) rfl (Nat.le_of_ble_eq_true rfl) rfl dX1_leastWorst_5 ?_
    refine T_aload_n 2 rfl rfl dX1_leastWorst_6 ?_
    refine T_iload_n 3 rfl rfl dX1_leastWorst_7 ?_
    refine T_cVI (c := 4) [.int x2] [] mkX4_reachOf lmX1_27 rfl rfl (by decide) (Nat.le_of_ble_eq_true rfl) h1 dX1_leastWorst_8 (bsX4_reachOf _ r1 x2 m1 h1) (fun z5 m4 => ?_)
    refine T_istore (lv' := [(4, .int z5), (3, .int z2), (0, .ref 54), (1, .ref r1), (2, .int x2)]) (Nat.le_of_ble_eq_true rfl) rfl dX1_leastWorst_11 ?_
    refine T_aload_n 3 rfl rfl dX1_leastWorst_13 ?_
    refine gRX1_18 rfl h1 (r1 + 7) (rfH11 h1) dX1_leastWorst_14 ?_
    refine T_iload_n 4 rfl rfl dX1_leastWorst_17 ?_
    refine T_iald (kdH11 h1) dX1_leastWorst_18 ?_
    refine T_istore (lv' := [(5, .int (m4.1 (r1 + 7) (x2).toNatClampNeg)), (4, .int z5), (3, .int z2), (0, .ref 54), (1, .ref r1), (2, .int x2)]) (Nat.le_of_ble_eq_true rfl) rfl dX1_leastWorst_19 ?_
    refine T_li (fun y7 => ?_)
    refine T_iconst (0 : Int32) (by decide) dX1_leastWorst_21 ?_
    refine T_istore (lv' := [(6, .int (0 : Int32)), (5, .int y7), (4, .int z5), (3, .int z2), (0, .ref 54), (1, .ref r1), (2, .int x2)]) (Nat.le_of_ble_eq_true rfl) rfl dX1_leastWorst_22 ?_
    exact T_sub [4, 5, 3, 2, 1, 0] rfl (tX1_leastWorst_24 X r1 z2 z5 y7 h1 FU ((0 : Int32), m4)))
theorem lfX1_58 : Cond.fieldLink RX1 58 "RankStairs$House" "steps" "I" ∈ gdL := gd_mem 128 (by decide +kernel) (by decide +kernel)
theorem gIX1_58 {q : mMI} {X : mCx} {tgt : mR} {pc : Nat} {lv : List (Nat × Value)} {st : List Value} {μ : mMem} {b : Nat} (hq : q.1.cls = RX1) (hb : kd b = (4, 0)) (hd : decode q.2.1 pc = .ok (.getfield 58, 3)) (h : T q X tgt (pc + 3) lv (.int (μ.1 b 0) :: st) μ) : T q X tgt pc lv (.ref b :: st) μ := T_getI (c := 4) rfl (by decide) rfl (by decide) (by rw [hq]; exact lfX1_58) hb hd h
theorem pIX1_58 {q : mMI} {X : mCx} {tgt : mR} {pc : Nat} {lv : List (Nat × Value)} {st : List Value} {μ : mMem} {b : Nat} {x : Int32} (hq : q.1.cls = RX1) (hn : narrow .int (.int x) = .int x) (hfit : fits .int (.int x) = true) (hb : kd b = (4, 0)) (hd : decode q.2.1 pc = .ok (.putfield 58, 3)) (h : T q X tgt (pc + 3) lv st (si μ b 0 x)) : T q X tgt pc lv (.int x :: .ref b :: st) μ := T_put (c := 4) rfl (by decide) rfl (by decide) (by rw [hq]; exact lfX1_58) (by decide) hn hfit hb hd h
def bX1_fewestWithin_18 (r1 : Nat) (x2 : Int32) (x3 : Int32) (x5 : Int32) (k18 : Int32 × Int32 × mMem → mR) (s : Int32 × Int32 × mMem) : mR := match s with
  | (x4, x6, m) => if (m.1 r1 0) ≤ x6 then bI (fX4_reachOf r1 x2 m) (fun z6 m5 => bV (fX1_findPaths x4 z6 x5 55 10 m5) (fun m8 => ga x5 10 (bI (fJ6_bitCount_0f7a4 (m8.1 55 (x5).toNatClampNeg) m8) (fun z10 m9 => some (some (.int z10), m9))))) else ga x6 10 (if (m.1 (r1 + 3) (x6).toNatClampNeg) ≤ x3 then li (x6 + (1 : Int32)) (fun y12 => k18 (x4, y12, m)) else li (x4 &&& (((1 : Int32) <<< (x6 &&& 31)) ^^^ (-1 : Int32))) (fun y13 => li (x6 + (1 : Int32)) (fun y14 => k18 (y13, y14, m))))
set_option maxRecDepth 100000 in
theorem tX1_fewestWithin_18 (X : mCx) (r1 : Nat) (x2 : Int32) (x3 : Int32) (x5 : Int32) (h1 : kd r1 = (4, 0)) : ∀ (n : Nat) (s : Int32 × Int32 × mMem), T qX1_fewestWithin X (lp (bX1_fewestWithin_18 r1 x2 x3 x5) n s) 18 [(0, .ref 54), (1, .ref r1), (2, .int x2), (3, .int x3), (4, .int s.1), (5, .int x5), (6, .int s.2.1)] [] s.2.2 :=
  T_lp (body := bX1_fewestWithin_18 r1 x2 x3 x5) (lv := fun s => [(0, .ref 54), (1, .ref r1), (2, .int x2), (3, .int x3), (4, .int s.1), (5, .int x5), (6, .int s.2.1)]) (st := fun _ => []) (μ := fun s : Int32 × Int32 × mMem => s.2.2) (fun k18 hk18 s => by
    obtain ⟨x4, x6, m⟩ := s
    show T qX1_fewestWithin X (bX1_fewestWithin_18 r1 x2 x3 x5 k18 (x4, x6, m)) 18 [(0, .ref 54), (1, .ref r1), (2, .int x2), (3, .int x3), (4, .int x4), (5, .int x5), (6, .int x6)] [] m
    unfold bX1_fewestWithin_18
    dsimp only
    refine T_iload 6 rfl dX1_fewestWithin_18 ?_
    refine T_aload_n 1 rfl rfl dX1_fewestWithin_20 ?_
    refine gIX1_58 rfl h1 dX1_fewestWithin_21 ?_
    refine T_icmp_ge 55 dX1_fewestWithin_24 (by decide) (fun _ => ?_) (fun _ => ?_)
    · refine T_iload 4 rfl dX1_fewestWithin_55 ?_
      refine T_aload_n 1 rfl rfl dX1_fewestWithin_57 ?_
      refine T_iload_n 2 rfl rfl dX1_fewestWithin_58 ?_
      refine T_cVI (c := 4) [.int x2] [.int x4] mkX4_reachOf lmX1_27 rfl rfl (by decide) (Nat.le_of_ble_eq_true rfl) h1 dX1_fewestWithin_59 (bsX4_reachOf _ r1 x2 m h1) (fun z6 m5 => ?_)
      refine T_iload 5 rfl dX1_fewestWithin_62 ?_
      refine T_aload_n 0 rfl rfl dX1_fewestWithin_64 ?_
      refine gRX1_9 rfl kd_54 55 rfl dX1_fewestWithin_65 ?_
      refine T_cSV [.int x4, .int z6, .int x5, .ref 55] [] mkX1_findPaths lmX1_30 rfl (by decide) (Nat.le_of_ble_eq_true rfl) dX1_fewestWithin_68 (bsX1_findPaths _ x4 z6 x5 55 10 m5 kd_55) (fun m8 => ?_)
      refine T_aload_n 0 rfl rfl dX1_fewestWithin_71 ?_
      refine gRX1_9 rfl kd_54 55 rfl dX1_fewestWithin_72 ?_
      refine T_iload 5 rfl dX1_fewestWithin_75 ?_
      refine T_iald kd_55 dX1_fewestWithin_77 ?_
      refine T_cSI [.int (m8.1 55 (x5).toNatClampNeg)] [] mkJ6_bitCount_0f7a4 lmX1_42 rfl (by decide) (Nat.le_of_ble_eq_true rfl) dX1_fewestWithin_78 (bsJ6_bitCount_0f7a4 _ (m8.1 55 (x5).toNatClampNeg) m8) (fun z10 m9 => ?_)
      exact T_iret rfl dX1_fewestWithin_81
    · refine T_aload_n 1 rfl rfl dX1_fewestWithin_27 ?_
      refine gRX1_55 rfl h1 (r1 + 3) (rfH7 h1) dX1_fewestWithin_28 ?_
      refine T_iload 6 rfl dX1_fewestWithin_31 ?_
      refine T_iald (kdH7 h1) dX1_fewestWithin_33 ?_
      refine T_iload_n 3 rfl rfl dX1_fewestWithin_34 ?_
      refine T_icmp_le 49 dX1_fewestWithin_35 (by decide) (fun _ => ?_) (fun _ => ?_)
      · refine T_iinc (lv' := [(6, .int (x6 + (1 : Int32))), (0, .ref 54), (1, .ref r1), (2, .int x2), (3, .int x3), (4, .int x4), (5, .int x5)]) 6 (1 : Int32) rfl (by decide) (Nat.le_of_ble_eq_true rfl) rfl dX1_fewestWithin_49 ?_
        refine T_li (fun y12 => ?_)
        refine T_goto 18 dX1_fewestWithin_52 (by decide) ?_
        exact T_sub [1, 2, 3, 4, 5, 6, 0] rfl (hk18 (x4, y12, m))
      · refine T_iload 4 rfl dX1_fewestWithin_38 ?_
        refine T_iconst (1 : Int32) (by decide) dX1_fewestWithin_40 ?_
        refine T_iload 6 rfl dX1_fewestWithin_41 ?_
        refine T_ishl dX1_fewestWithin_43 ?_
        refine T_iconst (-1 : Int32) (by decide) dX1_fewestWithin_44 ?_
        refine T_ixor dX1_fewestWithin_45 ?_
        refine T_iand dX1_fewestWithin_46 ?_
        refine T_istore (lv' := [(4, .int (x4 &&& (((1 : Int32) <<< (x6 &&& 31)) ^^^ (-1 : Int32)))), (0, .ref 54), (1, .ref r1), (2, .int x2), (3, .int x3), (5, .int x5), (6, .int x6)]) (Nat.le_of_ble_eq_true rfl) rfl dX1_fewestWithin_47 ?_
        refine T_li (fun y13 => ?_)
        refine T_iinc (lv' := [(6, .int (x6 + (1 : Int32))), (4, .int y13), (0, .ref 54), (1, .ref r1), (2, .int x2), (3, .int x3), (5, .int x5)]) 6 (1 : Int32) rfl (by decide) (Nat.le_of_ble_eq_true rfl) rfl dX1_fewestWithin_49 ?_
        refine T_li (fun y14 => ?_)
        refine T_goto 18 dX1_fewestWithin_52 (by decide) ?_
        exact T_sub [2, 3, 4, 5, 1, 6, 0] rfl (hk18 (y13, y14, m)))
def fX1_fewestWithin (r1 : Nat) (x2 : Int32) (x3 : Int32) (m : mMem) : mR := bI (fX4_treadBits r1 x2 m) (fun z2 m1 => ga x2 4 (li (m1.1 (r1 + 7) (x2).toNatClampNeg) (fun y4 => lp (bX1_fewestWithin_18 r1 x2 x3 y4) FU (z2, (0 : Int32), m1))))
set_option maxRecDepth 100000 in
theorem bsX1_fewestWithin (l : Launch) (r1 : Nat) (x2 : Int32) (x3 : Int32) (m : mMem) (h1 : kd r1 = (4, 0)) : BS l qX1_fewestWithin [.ref 54, .ref r1, .int x2, .int x3] m (fX1_fewestWithin r1 x2 x3 m) := BS_of (by decide) (Nat.le_of_ble_eq_true rfl) (fun X _ => by
    show T qX1_fewestWithin X (fX1_fewestWithin r1 x2 x3 m) 0 [(0, .ref 54), (1, .ref r1), (2, .int x2), (3, .int x3)] [] m
    unfold fX1_fewestWithin
    refine T_aload_n 1 rfl rfl dX1_fewestWithin_0 ?_
    refine T_iload_n 2 rfl rfl dX1_fewestWithin_1 ?_
    refine T_cVI (c := 4) [.int x2] [] mkX4_treadBits lmX1_23 rfl rfl (by decide) (Nat.le_of_ble_eq_true rfl) h1 dX1_fewestWithin_2 (bsX4_treadBits _ r1 x2 m h1) (fun z2 m1 => ?_)
    refine T_istore (lv' := [(4, .int z2), (0, .ref 54), (1, .ref r1), (2, .int x2), (3, .int x3)]) (Nat.le_of_ble_eq_true rfl) rfl dX1_fewestWithin_5 ?_
    refine T_aload_n 2 rfl rfl dX1_fewestWithin_7 ?_
    refine gRX1_18 rfl h1 (r1 + 7) (rfH11 h1) dX1_fewestWithin_8 ?_
    refine T_iload_n 3 rfl rfl dX1_fewestWithin_11 ?_
    refine T_iald (kdH11 h1) dX1_fewestWithin_12 ?_
    refine T_istore (lv' := [(5, .int (m1.1 (r1 + 7) (x2).toNatClampNeg)), (4, .int z2), (0, .ref 54), (1, .ref r1), (2, .int x2), (3, .int x3)]) (Nat.le_of_ble_eq_true rfl) rfl dX1_fewestWithin_13 ?_
    refine T_li (fun y4 => ?_)
    refine T_iconst (0 : Int32) (by decide) dX1_fewestWithin_15 ?_
    refine T_istore (lv' := [(6, .int (0 : Int32)), (5, .int y4), (4, .int z2), (0, .ref 54), (1, .ref r1), (2, .int x2), (3, .int x3)]) (Nat.le_of_ble_eq_true rfl) rfl dX1_fewestWithin_16 ?_
    exact T_sub [3, 4, 5, 6, 2, 1, 0] rfl (tX1_fewestWithin_18 X r1 x2 x3 y4 h1 FU (z2, (0 : Int32), m1)))
theorem lmX1_62 : Cond.methodLink RX1 62 yX1_shortest ∈ gdL := gd_mem 676 (by decide +kernel) (by decide +kernel)
theorem lmX1_66 : Cond.methodLink RX1 66 yX4_wearBy ∈ gdL := gd_mem 677 (by decide +kernel) (by decide +kernel)
def fX1_goes (r1 : Nat) (x2 : Int32) (m : mMem) : mR := bI (fX1_shortest r1 x2 m) (fun z2 m1 => bV (fX4_wearBy r1 x2 z2 m1) (fun m4 => if z2 = (0 : Int32) then some (some (.int (0 : Int32)), m4) else some (some (.int (1 : Int32)), m4)))
set_option maxRecDepth 100000 in
theorem bsX1_goes (l : Launch) (r1 : Nat) (x2 : Int32) (m : mMem) (h1 : kd r1 = (4, 0)) : BS l qX1_goes [.ref 54, .ref r1, .int x2] m (fX1_goes r1 x2 m) := BS_of (by decide) (Nat.le_of_ble_eq_true rfl) (fun X _ => by
    show T qX1_goes X (fX1_goes r1 x2 m) 0 [(0, .ref 54), (1, .ref r1), (2, .int x2)] [] m
    unfold fX1_goes
    refine T_aload_n 0 rfl rfl dX1_goes_0 ?_
    refine T_aload_n 1 rfl rfl dX1_goes_1 ?_
    refine T_iload_n 2 rfl rfl dX1_goes_2 ?_
    refine T_cVI (c := 1) [.ref r1, .int x2] [] mkX1_shortest lmX1_62 rfl rfl (by decide) (Nat.le_of_ble_eq_true rfl) kd_54 dX1_goes_3 (bsX1_shortest _ r1 x2 m h1) (fun z2 m1 => ?_)
    refine T_istore_n (lv' := [(3, .int z2), (0, .ref 54), (1, .ref r1), (2, .int x2)]) rfl (Nat.le_of_ble_eq_true rfl) rfl dX1_goes_6 ?_
    refine T_aload_n 2 rfl rfl dX1_goes_7 ?_
    refine T_iload_n 3 rfl rfl dX1_goes_8 ?_
    refine T_iload_n 0 rfl rfl dX1_goes_9 ?_
    refine T_cVV (c := 4) [.int x2, .int z2] [] mkX4_wearBy lmX1_66 rfl rfl (by decide) (Nat.le_of_ble_eq_true rfl) h1 dX1_goes_10 (bsX4_wearBy _ r1 x2 z2 m1 h1) (fun m4 => ?_)
    refine T_iload_n 0 rfl rfl dX1_goes_13 ?_
    refine T_if_eq 21 dX1_goes_14 (by decide) (fun _ => ?_) (fun _ => ?_)
    · refine T_iconst (0 : Int32) (by decide) dX1_goes_21 ?_
      exact T_zretc (by decide) rfl dX1_goes_22
    · refine T_iconst (1 : Int32) (by decide) dX1_goes_17 ?_
      refine T_goto 22 dX1_goes_18 (by decide) ?_
      exact T_zretc (by decide) rfl dX1_goes_22)
theorem lmX1_73 : Cond.methodLink RX1 73 yX1_goes ∈ gdL := gd_mem 672 (by decide +kernel) (by decide +kernel)
theorem lfX1_70 : Cond.fieldLink RX1 70 "RankStairs$House" "lodgers" "I" ∈ gdL := gd_mem 134 (by decide +kernel) (by decide +kernel)
theorem gIX1_70 {q : mMI} {X : mCx} {tgt : mR} {pc : Nat} {lv : List (Nat × Value)} {st : List Value} {μ : mMem} {b : Nat} (hq : q.1.cls = RX1) (hb : kd b = (4, 0)) (hd : decode q.2.1 pc = .ok (.getfield 70, 3)) (h : T q X tgt (pc + 3) lv (.int (μ.1 b 1) :: st) μ) : T q X tgt pc lv (.ref b :: st) μ := T_getI (c := 4) rfl (by decide) rfl (by decide) (by rw [hq]; exact lfX1_70) hb hd h
theorem pIX1_70 {q : mMI} {X : mCx} {tgt : mR} {pc : Nat} {lv : List (Nat × Value)} {st : List Value} {μ : mMem} {b : Nat} {x : Int32} (hq : q.1.cls = RX1) (hn : narrow .int (.int x) = .int x) (hfit : fits .int (.int x) = true) (hb : kd b = (4, 0)) (hd : decode q.2.1 pc = .ok (.putfield 70, 3)) (h : T q X tgt (pc + 3) lv st (si μ b 1 x)) : T q X tgt pc lv (.int x :: .ref b :: st) μ := T_put (c := 4) rfl (by decide) rfl (by decide) (by rw [hq]; exact lfX1_70) (by decide) hn hfit hb hd h
theorem lfX1_77 : Cond.fieldLink RX1 77 "RankStairs$House" "dayNumber" "I" ∈ gdL := gd_mem 143 (by decide +kernel) (by decide +kernel)
theorem gIX1_77 {q : mMI} {X : mCx} {tgt : mR} {pc : Nat} {lv : List (Nat × Value)} {st : List Value} {μ : mMem} {b : Nat} (hq : q.1.cls = RX1) (hb : kd b = (4, 0)) (hd : decode q.2.1 pc = .ok (.getfield 77, 3)) (h : T q X tgt (pc + 3) lv (.int (μ.1 b 4) :: st) μ) : T q X tgt pc lv (.ref b :: st) μ := T_getI (c := 4) rfl (by decide) rfl (by decide) (by rw [hq]; exact lfX1_77) hb hd h
theorem pIX1_77 {q : mMI} {X : mCx} {tgt : mR} {pc : Nat} {lv : List (Nat × Value)} {st : List Value} {μ : mMem} {b : Nat} {x : Int32} (hq : q.1.cls = RX1) (hn : narrow .int (.int x) = .int x) (hfit : fits .int (.int x) = true) (hb : kd b = (4, 0)) (hd : decode q.2.1 pc = .ok (.putfield 77, 3)) (h : T q X tgt (pc + 3) lv st (si μ b 4 x)) : T q X tgt pc lv (.int x :: .ref b :: st) μ := T_put (c := 4) rfl (by decide) rfl (by decide) (by rw [hq]; exact lfX1_77) (by decide) hn hfit hb hd h
def bX1_goDays_14 (k5 : Int32 × Int32 × mMem → mR) (r1 : Nat) (x2 : Int32) (x4 : Int32) (k14 : Int32 × Int32 × mMem → mR) (s : Int32 × Int32 × mMem) : mR := match s with
  | (x3, x5, m) => if (m.1 r1 1) ≤ x5 then lt (si m r1 4 ((m.1 r1 4) + (1 : Int32))) (fun m1 => li (x4 + (1 : Int32)) (fun y2 => k5 (x3, y2, m1))) else bI (fX1_goes r1 x5 m) (fun z4 m3 => if z4 = (0 : Int32) then li (x5 + (1 : Int32)) (fun y6 => k14 (x3, y6, m3)) else li (x3 + (1 : Int32)) (fun y7 => li (x5 + (1 : Int32)) (fun y8 => k14 (y7, y8, m3))))
set_option maxRecDepth 100000 in
theorem tX1_goDays_14 (X : mCx) (k5 : Int32 × Int32 × mMem → mR) (r1 : Nat) (x2 : Int32) (x4 : Int32) (h1 : kd r1 = (4, 0)) (hk5 : ∀ s : Int32 × Int32 × mMem, T qX1_goDays X (k5 s) 5 [(0, .ref 54), (1, .ref r1), (2, .int x2), (3, .int s.1), (4, .int s.2.1)] [] s.2.2) : ∀ (n : Nat) (s : Int32 × Int32 × mMem), T qX1_goDays X (lp (bX1_goDays_14 k5 r1 x2 x4) n s) 14 [(0, .ref 54), (1, .ref r1), (2, .int x2), (3, .int s.1), (4, .int x4), (5, .int s.2.1)] [] s.2.2 :=
  T_lp (body := bX1_goDays_14 k5 r1 x2 x4) (lv := fun s => [(0, .ref 54), (1, .ref r1), (2, .int x2), (3, .int s.1), (4, .int x4), (5, .int s.2.1)]) (st := fun _ => []) (μ := fun s : Int32 × Int32 × mMem => s.2.2) (fun k14 hk14 s => by
    obtain ⟨x3, x5, m⟩ := s
    show T qX1_goDays X (bX1_goDays_14 k5 r1 x2 x4 k14 (x3, x5, m)) 14 [(0, .ref 54), (1, .ref r1), (2, .int x2), (3, .int x3), (4, .int x4), (5, .int x5)] [] m
    unfold bX1_goDays_14
    dsimp only
    refine T_iload 5 rfl dX1_goDays_14 ?_
    refine T_aload_n 1 rfl rfl dX1_goDays_16 ?_
    refine gIX1_70 rfl h1 dX1_goDays_17 ?_
    refine T_icmp_ge 42 dX1_goDays_20 (by decide) (fun _ => ?_) (fun _ => ?_)
    · refine T_aload_n 1 rfl rfl dX1_goDays_42 ?_
      refine T_dup rfl dX1_goDays_43 ?_
      refine gIX1_77 rfl h1 dX1_goDays_44 ?_
      refine T_iconst (1 : Int32) (by decide) dX1_goDays_47 ?_
      refine T_iadd dX1_goDays_48 ?_
      refine pIX1_77 rfl rfl rfl h1 dX1_goDays_49 ?_
      refine T_lt (fun m1 => ?_)
      refine T_iinc (lv' := [(4, .int (x4 + (1 : Int32))), (0, .ref 54), (1, .ref r1), (2, .int x2), (3, .int x3), (5, .int x5)]) 4 (1 : Int32) rfl (by decide) (Nat.le_of_ble_eq_true rfl) rfl dX1_goDays_52 ?_
      refine T_li (fun y2 => ?_)
      refine T_goto 5 dX1_goDays_55 (by decide) ?_
      exact T_sub [1, 2, 3, 4, 0] rfl (hk5 (x3, y2, m1))
    · refine T_aload_n 0 rfl rfl dX1_goDays_23 ?_
      refine T_aload_n 1 rfl rfl dX1_goDays_24 ?_
      refine T_iload 5 rfl dX1_goDays_25 ?_
      refine T_cVI (c := 1) [.ref r1, .int x5] [] mkX1_goes lmX1_73 rfl rfl (by decide) (Nat.le_of_ble_eq_true rfl) kd_54 dX1_goDays_27 (bsX1_goes _ r1 x5 m h1) (fun z4 m3 => ?_)
      refine T_if_eq 36 dX1_goDays_30 (by decide) (fun _ => ?_) (fun _ => ?_)
      · refine T_iinc (lv' := [(5, .int (x5 + (1 : Int32))), (0, .ref 54), (1, .ref r1), (2, .int x2), (3, .int x3), (4, .int x4)]) 5 (1 : Int32) rfl (by decide) (Nat.le_of_ble_eq_true rfl) rfl dX1_goDays_36 ?_
        refine T_li (fun y6 => ?_)
        refine T_goto 14 dX1_goDays_39 (by decide) ?_
        exact T_sub [1, 2, 3, 4, 5, 0] rfl (hk14 (x3, y6, m3))
      · refine T_iinc (lv' := [(3, .int (x3 + (1 : Int32))), (0, .ref 54), (1, .ref r1), (2, .int x2), (4, .int x4), (5, .int x5)]) 3 (1 : Int32) rfl (by decide) (Nat.le_of_ble_eq_true rfl) rfl dX1_goDays_33 ?_
        refine T_li (fun y7 => ?_)
        refine T_iinc (lv' := [(5, .int (x5 + (1 : Int32))), (3, .int y7), (0, .ref 54), (1, .ref r1), (2, .int x2), (4, .int x4)]) 5 (1 : Int32) rfl (by decide) (Nat.le_of_ble_eq_true rfl) rfl dX1_goDays_36 ?_
        refine T_li (fun y8 => ?_)
        refine T_goto 14 dX1_goDays_39 (by decide) ?_
        exact T_sub [2, 3, 4, 1, 5, 0] rfl (hk14 (y7, y8, m3)))
def bX1_goDays_5 (r1 : Nat) (x2 : Int32) (k5 : Int32 × Int32 × mMem → mR) (s : Int32 × Int32 × mMem) : mR := match s with
  | (x3, x4, m) => if x2 ≤ x4 then some (some (.int x3), m) else lp (bX1_goDays_14 k5 r1 x2 x4) FU (x3, (0 : Int32), m)
set_option maxRecDepth 100000 in
theorem tX1_goDays_5 (X : mCx) (r1 : Nat) (x2 : Int32) (h1 : kd r1 = (4, 0)) : ∀ (n : Nat) (s : Int32 × Int32 × mMem), T qX1_goDays X (lp (bX1_goDays_5 r1 x2) n s) 5 [(0, .ref 54), (1, .ref r1), (2, .int x2), (3, .int s.1), (4, .int s.2.1)] [] s.2.2 :=
  T_lp (body := bX1_goDays_5 r1 x2) (lv := fun s => [(0, .ref 54), (1, .ref r1), (2, .int x2), (3, .int s.1), (4, .int s.2.1)]) (st := fun _ => []) (μ := fun s : Int32 × Int32 × mMem => s.2.2) (fun k5 hk5 s => by
    obtain ⟨x3, x4, m⟩ := s
    show T qX1_goDays X (bX1_goDays_5 r1 x2 k5 (x3, x4, m)) 5 [(0, .ref 54), (1, .ref r1), (2, .int x2), (3, .int x3), (4, .int x4)] [] m
    unfold bX1_goDays_5
    dsimp only
    refine T_iload 4 rfl dX1_goDays_5 ?_
    refine T_iload_n 2 rfl rfl dX1_goDays_7 ?_
    refine T_icmp_ge 58 dX1_goDays_8 (by decide) (fun _ => ?_) (fun _ => ?_)
    · refine T_iload_n 3 rfl rfl dX1_goDays_58 ?_
      exact T_iret rfl dX1_goDays_59
    · refine T_iconst (0 : Int32) (by decide) dX1_goDays_11 ?_
      refine T_istore (lv' := [(5, .int (0 : Int32)), (0, .ref 54), (1, .ref r1), (2, .int x2), (3, .int x3), (4, .int x4)]) (Nat.le_of_ble_eq_true rfl) rfl dX1_goDays_12 ?_
      exact T_sub [1, 2, 3, 4, 5, 0] rfl (tX1_goDays_14 X k5 r1 x2 x4 h1 hk5 FU (x3, (0 : Int32), m)))
def fX1_goDays (r1 : Nat) (x2 : Int32) (m : mMem) : mR := lp (bX1_goDays_5 r1 x2) FU ((0 : Int32), (0 : Int32), m)
set_option maxRecDepth 100000 in
theorem bsX1_goDays (l : Launch) (r1 : Nat) (x2 : Int32) (m : mMem) (h1 : kd r1 = (4, 0)) : BS l qX1_goDays [.ref 54, .ref r1, .int x2] m (fX1_goDays r1 x2 m) := BS_of (by decide) (Nat.le_of_ble_eq_true rfl) (fun X _ => by
    show T qX1_goDays X (fX1_goDays r1 x2 m) 0 [(0, .ref 54), (1, .ref r1), (2, .int x2)] [] m
    unfold fX1_goDays
    refine T_iconst (0 : Int32) (by decide) dX1_goDays_0 ?_
    refine T_istore_n (lv' := [(3, .int (0 : Int32)), (0, .ref 54), (1, .ref r1), (2, .int x2)]) rfl (Nat.le_of_ble_eq_true rfl) rfl dX1_goDays_1 ?_
    refine T_iconst (0 : Int32) (by decide) dX1_goDays_2 ?_
    refine T_istore (lv' := [(4, .int (0 : Int32)), (3, .int (0 : Int32)), (0, .ref 54), (1, .ref r1), (2, .int x2)]) (Nat.le_of_ble_eq_true rfl) rfl dX1_goDays_3 ?_
    exact T_sub [2, 3, 4, 1, 0] rfl (tX1_goDays_5 X r1 x2 h1 FU ((0 : Int32), (0 : Int32), m)))
