abbrev qX8_in : mMI := (yX8_in, cX8_in, 6, (some .boolean), 0)
theorem dX8_in_0 : decode cX8_in 0 = .ok (.lload_n 0, 1) := by decide +kernel
theorem dX8_in_1 : decode cX8_in 1 = .ok (.lload_n 2, 1) := by decide +kernel
theorem dX8_in_2 : decode cX8_in 2 = .ok (.lcmp, 1) := by decide +kernel
theorem dX8_in_3 : decode cX8_in 3 = .ok (.ifCond .lt 14, 3) := by decide +kernel
theorem dX8_in_6 : decode cX8_in 6 = .ok (.lload_n 0, 1) := by decide +kernel
theorem dX8_in_7 : decode cX8_in 7 = .ok (.lload 4, 2) := by decide +kernel
theorem dX8_in_9 : decode cX8_in 9 = .ok (.lcmp, 1) := by decide +kernel
theorem dX8_in_10 : decode cX8_in 10 = .ok (.ifCond .gt 7, 3) := by decide +kernel
theorem dX8_in_13 : decode cX8_in 13 = .ok (.iconst 1, 1) := by decide +kernel
theorem dX8_in_14 : decode cX8_in 14 = .ok (.goto 4, 3) := by decide +kernel
theorem dX8_in_17 : decode cX8_in 17 = .ok (.iconst 0, 1) := by decide +kernel
theorem dX8_in_18 : decode cX8_in 18 = .ok (.ireturn, 1) := by decide +kernel
theorem mkX8_in : mokS qX8_in 3 := ⟨⟨⟨⟨by decide, by decide, by decide +kernel⟩, by decide⟩, gd_mem 59 (by decide +kernel) (by decide +kernel), gd_mem 997 (by decide +kernel) (by decide +kernel)⟩, gd_mem 996 (by decide +kernel) (by decide +kernel)⟩
abbrev qX8_byteAt : mMI := (yX8_byteAt, cX8_byteAt, 2, (some .int), 0)
theorem dX8_byteAt_0 : decode cX8_byteAt 0 = .ok (.iload_n 1, 1) := by decide +kernel
theorem dX8_byteAt_1 : decode cX8_byteAt 1 = .ok (.aload_n 0, 1) := by decide +kernel
theorem dX8_byteAt_2 : decode cX8_byteAt 2 = .ok (.getfield 71, 3) := by decide +kernel
theorem dX8_byteAt_5 : decode cX8_byteAt 5 = .ok (.if_icmp .ge 12, 3) := by decide +kernel
theorem dX8_byteAt_8 : decode cX8_byteAt 8 = .ok (.aload_n 0, 1) := by decide +kernel
theorem dX8_byteAt_9 : decode cX8_byteAt 9 = .ok (.getfield 28, 3) := by decide +kernel
theorem dX8_byteAt_12 : decode cX8_byteAt 12 = .ok (.iload_n 1, 1) := by decide +kernel
theorem dX8_byteAt_13 : decode cX8_byteAt 13 = .ok (.iaload, 1) := by decide +kernel
theorem dX8_byteAt_14 : decode cX8_byteAt 14 = .ok (.goto 5, 3) := by decide +kernel
theorem dX8_byteAt_17 : decode cX8_byteAt 17 = .ok (.bipush (-4), 2) := by decide +kernel
theorem dX8_byteAt_19 : decode cX8_byteAt 19 = .ok (.ireturn, 1) := by decide +kernel
theorem mkX8_byteAt : mokV qX8_byteAt 1 := ⟨⟨⟨⟨by decide, by decide, by decide +kernel⟩, by decide⟩, gd_mem 59 (by decide +kernel) (by decide +kernel), gd_mem 1013 (by decide +kernel) (by decide +kernel)⟩, gd_mem 1012 (by decide +kernel) (by decide +kernel), gd_mem 20 (by decide +kernel) (by decide +kernel)⟩
abbrev qX8_fails : mMI := (yX8_fails, cX8_fails, 2, none, 0)
theorem dX8_fails_0 : decode cX8_fails 0 = .ok (.aload_n 0, 1) := by decide +kernel
theorem dX8_fails_1 : decode cX8_fails 1 = .ok (.getfield 75, 3) := by decide +kernel
theorem dX8_fails_4 : decode cX8_fails 4 = .ok (.ifCond .ne 16, 3) := by decide +kernel
theorem dX8_fails_7 : decode cX8_fails 7 = .ok (.aload_n 0, 1) := by decide +kernel
theorem dX8_fails_8 : decode cX8_fails 8 = .ok (.iload_n 1, 1) := by decide +kernel
theorem dX8_fails_9 : decode cX8_fails 9 = .ok (.putfield 75, 3) := by decide +kernel
theorem dX8_fails_12 : decode cX8_fails 12 = .ok (.aload_n 0, 1) := by decide +kernel
theorem dX8_fails_13 : decode cX8_fails 13 = .ok (.aload_n 0, 1) := by decide +kernel
theorem dX8_fails_14 : decode cX8_fails 14 = .ok (.getfield 78, 3) := by decide +kernel
theorem dX8_fails_17 : decode cX8_fails 17 = .ok (.putfield 81, 3) := by decide +kernel
theorem dX8_fails_20 : decode cX8_fails 20 = .ok (.return_, 1) := by decide +kernel
theorem mkX8_fails : mokV qX8_fails 1 := ⟨⟨⟨⟨by decide, by decide, by decide +kernel⟩, by decide⟩, gd_mem 59 (by decide +kernel) (by decide +kernel), gd_mem 1021 (by decide +kernel) (by decide +kernel)⟩, gd_mem 1020 (by decide +kernel) (by decide +kernel), gd_mem 21 (by decide +kernel) (by decide +kernel)⟩
abbrev qX8_fault : mMI := (yX8_fault, cX8_fault, 1, (some .int), 0)
theorem dX8_fault_0 : decode cX8_fault 0 = .ok (.aload_n 0, 1) := by decide +kernel
theorem dX8_fault_1 : decode cX8_fault 1 = .ok (.getfield 140, 3) := by decide +kernel
theorem dX8_fault_4 : decode cX8_fault 4 = .ok (.ireturn, 1) := by decide +kernel
theorem mkX8_fault : mokV qX8_fault 0 := ⟨⟨⟨⟨by decide, by decide, by decide +kernel⟩, by decide⟩, gd_mem 59 (by decide +kernel) (by decide +kernel), gd_mem 1042 (by decide +kernel) (by decide +kernel)⟩, gd_mem 1040 (by decide +kernel) (by decide +kernel), gd_mem 1041 (by decide +kernel) (by decide +kernel)⟩
abbrev qX8_holdOn : mMI := (yX8_holdOn, cX8_holdOn, 2, (some .int), 0)
theorem dX8_holdOn_0 : decode cX8_holdOn 0 = .ok (.aload_n 0, 1) := by decide +kernel
theorem dX8_holdOn_1 : decode cX8_holdOn 1 = .ok (.getfield 7, 3) := by decide +kernel
theorem dX8_holdOn_4 : decode cX8_holdOn 4 = .ok (.iload_n 1, 1) := by decide +kernel
theorem dX8_holdOn_5 : decode cX8_holdOn 5 = .ok (.bipush 33, 2) := by decide +kernel
theorem dX8_holdOn_7 : decode cX8_holdOn 7 = .ok (.iadd, 1) := by decide +kernel
theorem dX8_holdOn_8 : decode cX8_holdOn 8 = .ok (.iaload, 1) := by decide +kernel
theorem dX8_holdOn_9 : decode cX8_holdOn 9 = .ok (.bipush 30, 2) := by decide +kernel
theorem dX8_holdOn_11 : decode cX8_holdOn 11 = .ok (.iadd, 1) := by decide +kernel
theorem dX8_holdOn_12 : decode cX8_holdOn 12 = .ok (.ireturn, 1) := by decide +kernel
theorem mkX8_holdOn : mokV qX8_holdOn 1 := ⟨⟨⟨⟨by decide, by decide, by decide +kernel⟩, by decide⟩, gd_mem 59 (by decide +kernel) (by decide +kernel), gd_mem 1050 (by decide +kernel) (by decide +kernel)⟩, gd_mem 1049 (by decide +kernel) (by decide +kernel), gd_mem 26 (by decide +kernel) (by decide +kernel)⟩
abbrev qX8_rankOn : mMI := (yX8_rankOn, cX8_rankOn, 4, (some .int), 0)
theorem dX8_rankOn_0 : decode cX8_rankOn 0 = .ok (.aload_n 0, 1) := by decide +kernel
theorem dX8_rankOn_1 : decode cX8_rankOn 1 = .ok (.getfield 7, 3) := by decide +kernel
theorem dX8_rankOn_4 : decode cX8_rankOn 4 = .ok (.iload_n 1, 1) := by decide +kernel
theorem dX8_rankOn_5 : decode cX8_rankOn 5 = .ok (.iconst 2, 1) := by decide +kernel
theorem dX8_rankOn_6 : decode cX8_rankOn 6 = .ok (.iload_n 2, 1) := by decide +kernel
theorem dX8_rankOn_7 : decode cX8_rankOn 7 = .ok (.imul, 1) := by decide +kernel
theorem dX8_rankOn_8 : decode cX8_rankOn 8 = .ok (.iadd, 1) := by decide +kernel
theorem dX8_rankOn_9 : decode cX8_rankOn 9 = .ok (.iaload, 1) := by decide +kernel
theorem dX8_rankOn_10 : decode cX8_rankOn 10 = .ok (.bipush 10, 2) := by decide +kernel
theorem dX8_rankOn_12 : decode cX8_rankOn 12 = .ok (.idiv, 1) := by decide +kernel
theorem dX8_rankOn_13 : decode cX8_rankOn 13 = .ok (.aload_n 0, 1) := by decide +kernel
theorem dX8_rankOn_14 : decode cX8_rankOn 14 = .ok (.getfield 13, 3) := by decide +kernel
theorem dX8_rankOn_17 : decode cX8_rankOn 17 = .ok (.iload_n 2, 1) := by decide +kernel
theorem dX8_rankOn_18 : decode cX8_rankOn 18 = .ok (.iaload, 1) := by decide +kernel
theorem dX8_rankOn_19 : decode cX8_rankOn 19 = .ok (.ifCond .ne 7, 3) := by decide +kernel
theorem dX8_rankOn_22 : decode cX8_rankOn 22 = .ok (.iconst 0, 1) := by decide +kernel
theorem dX8_rankOn_23 : decode cX8_rankOn 23 = .ok (.goto 4, 3) := by decide +kernel
theorem dX8_rankOn_26 : decode cX8_rankOn 26 = .ok (.iconst 1, 1) := by decide +kernel
theorem dX8_rankOn_27 : decode cX8_rankOn 27 = .ok (.iadd, 1) := by decide +kernel
theorem dX8_rankOn_28 : decode cX8_rankOn 28 = .ok (.istore_n 3, 1) := by decide +kernel
theorem dX8_rankOn_29 : decode cX8_rankOn 29 = .ok (.aload_n 0, 1) := by decide +kernel
theorem dX8_rankOn_30 : decode cX8_rankOn 30 = .ok (.getfield 13, 3) := by decide +kernel
theorem dX8_rankOn_33 : decode cX8_rankOn 33 = .ok (.iload_n 2, 1) := by decide +kernel
theorem dX8_rankOn_34 : decode cX8_rankOn 34 = .ok (.iaload, 1) := by decide +kernel
theorem dX8_rankOn_35 : decode cX8_rankOn 35 = .ok (.iconst 2, 1) := by decide +kernel
theorem dX8_rankOn_36 : decode cX8_rankOn 36 = .ok (.if_icmp .ne 7, 3) := by decide +kernel
theorem dX8_rankOn_39 : decode cX8_rankOn 39 = .ok (.iconst 0, 1) := by decide +kernel
theorem dX8_rankOn_40 : decode cX8_rankOn 40 = .ok (.goto 13, 3) := by decide +kernel
theorem dX8_rankOn_43 : decode cX8_rankOn 43 = .ok (.iload_n 3, 1) := by decide +kernel
theorem dX8_rankOn_44 : decode cX8_rankOn 44 = .ok (.iconst 3, 1) := by decide +kernel
theorem dX8_rankOn_45 : decode cX8_rankOn 45 = .ok (.if_icmp .le 7, 3) := by decide +kernel
theorem dX8_rankOn_48 : decode cX8_rankOn 48 = .ok (.iconst 3, 1) := by decide +kernel
theorem dX8_rankOn_49 : decode cX8_rankOn 49 = .ok (.goto 4, 3) := by decide +kernel
theorem dX8_rankOn_52 : decode cX8_rankOn 52 = .ok (.iload_n 3, 1) := by decide +kernel
theorem dX8_rankOn_53 : decode cX8_rankOn 53 = .ok (.ireturn, 1) := by decide +kernel
theorem mkX8_rankOn : mokV qX8_rankOn 2 := ⟨⟨⟨⟨by decide, by decide, by decide +kernel⟩, by decide⟩, gd_mem 59 (by decide +kernel) (by decide +kernel), gd_mem 1062 (by decide +kernel) (by decide +kernel)⟩, gd_mem 1061 (by decide +kernel) (by decide +kernel), gd_mem 28 (by decide +kernel) (by decide +kernel)⟩
abbrev qX8_isLoaded : mMI := (yX8_isLoaded, cX8_isLoaded, 3, (some .boolean), 0)
theorem dX8_isLoaded_0 : decode cX8_isLoaded 0 = .ok (.aload_n 0, 1) := by decide +kernel
theorem dX8_isLoaded_1 : decode cX8_isLoaded 1 = .ok (.getfield 7, 3) := by decide +kernel
theorem dX8_isLoaded_4 : decode cX8_isLoaded 4 = .ok (.iload_n 1, 1) := by decide +kernel
theorem dX8_isLoaded_5 : decode cX8_isLoaded 5 = .ok (.bipush 20, 2) := by decide +kernel
theorem dX8_isLoaded_7 : decode cX8_isLoaded 7 = .ok (.iadd, 1) := by decide +kernel
theorem dX8_isLoaded_8 : decode cX8_isLoaded 8 = .ok (.iconst 3, 1) := by decide +kernel
theorem dX8_isLoaded_9 : decode cX8_isLoaded 9 = .ok (.iload_n 2, 1) := by decide +kernel
theorem dX8_isLoaded_10 : decode cX8_isLoaded 10 = .ok (.imul, 1) := by decide +kernel
theorem dX8_isLoaded_11 : decode cX8_isLoaded 11 = .ok (.iadd, 1) := by decide +kernel
theorem dX8_isLoaded_12 : decode cX8_isLoaded 12 = .ok (.iconst 1, 1) := by decide +kernel
theorem dX8_isLoaded_13 : decode cX8_isLoaded 13 = .ok (.iadd, 1) := by decide +kernel
theorem dX8_isLoaded_14 : decode cX8_isLoaded 14 = .ok (.iaload, 1) := by decide +kernel
theorem dX8_isLoaded_15 : decode cX8_isLoaded 15 = .ok (.iconst 5, 1) := by decide +kernel
theorem dX8_isLoaded_16 : decode cX8_isLoaded 16 = .ok (.if_icmp .lt 7, 3) := by decide +kernel
theorem dX8_isLoaded_19 : decode cX8_isLoaded 19 = .ok (.iconst 1, 1) := by decide +kernel
theorem dX8_isLoaded_20 : decode cX8_isLoaded 20 = .ok (.goto 4, 3) := by decide +kernel
theorem dX8_isLoaded_23 : decode cX8_isLoaded 23 = .ok (.iconst 0, 1) := by decide +kernel
theorem dX8_isLoaded_24 : decode cX8_isLoaded 24 = .ok (.ireturn, 1) := by decide +kernel
theorem mkX8_isLoaded : mokV qX8_isLoaded 2 := ⟨⟨⟨⟨by decide, by decide, by decide +kernel⟩, by decide⟩, gd_mem 59 (by decide +kernel) (by decide +kernel), gd_mem 1082 (by decide +kernel) (by decide +kernel)⟩, gd_mem 1081 (by decide +kernel) (by decide +kernel), gd_mem 32 (by decide +kernel) (by decide +kernel)⟩
abbrev qX8_sets : mMI := (yX8_sets, cX8_sets, 5, (some .int), 0)
theorem dX8_sets_0 : decode cX8_sets 0 = .ok (.iload_n 1, 1) := by decide +kernel
theorem dX8_sets_1 : decode cX8_sets 1 = .ok (.ifCond .ne 5, 3) := by decide +kernel
theorem dX8_sets_4 : decode cX8_sets 4 = .ok (.iconst (-1), 1) := by decide +kernel
theorem dX8_sets_5 : decode cX8_sets 5 = .ok (.ireturn, 1) := by decide +kernel
theorem dX8_sets_6 : decode cX8_sets 6 = .ok (.aload_n 0, 1) := by decide +kernel
theorem dX8_sets_7 : decode cX8_sets 7 = .ok (.getfield 7, 3) := by decide +kernel
theorem dX8_sets_10 : decode cX8_sets 10 = .ok (.iload_n 2, 1) := by decide +kernel
theorem dX8_sets_11 : decode cX8_sets 11 = .ok (.iaload, 1) := by decide +kernel
theorem dX8_sets_12 : decode cX8_sets 12 = .ok (.istore 4, 2) := by decide +kernel
theorem dX8_sets_14 : decode cX8_sets 14 = .ok (.aload_n 0, 1) := by decide +kernel
theorem dX8_sets_15 : decode cX8_sets 15 = .ok (.getfield 7, 3) := by decide +kernel
theorem dX8_sets_18 : decode cX8_sets 18 = .ok (.iload_n 2, 1) := by decide +kernel
theorem dX8_sets_19 : decode cX8_sets 19 = .ok (.iload_n 3, 1) := by decide +kernel
theorem dX8_sets_20 : decode cX8_sets 20 = .ok (.iastore, 1) := by decide +kernel
theorem dX8_sets_21 : decode cX8_sets 21 = .ok (.iload 4, 2) := by decide +kernel
theorem dX8_sets_23 : decode cX8_sets 23 = .ok (.ireturn, 1) := by decide +kernel
theorem mkX8_sets : mokV qX8_sets 3 := ⟨⟨⟨⟨by decide, by decide, by decide +kernel⟩, by decide⟩, gd_mem 59 (by decide +kernel) (by decide +kernel), gd_mem 1099 (by decide +kernel) (by decide +kernel)⟩, gd_mem 1098 (by decide +kernel) (by decide +kernel), gd_mem 35 (by decide +kernel) (by decide +kernel)⟩
abbrev qX8_wornOver : mMI := (yX8_wornOver, cX8_wornOver, 4, (some .int), 0)
theorem dX8_wornOver_0 : decode cX8_wornOver 0 = .ok (.iconst 0, 1) := by decide +kernel
theorem dX8_wornOver_1 : decode cX8_wornOver 1 = .ok (.istore_n 2, 1) := by decide +kernel
theorem dX8_wornOver_2 : decode cX8_wornOver 2 = .ok (.iconst 0, 1) := by decide +kernel
theorem dX8_wornOver_3 : decode cX8_wornOver 3 = .ok (.istore_n 3, 1) := by decide +kernel
theorem dX8_wornOver_4 : decode cX8_wornOver 4 = .ok (.iload_n 3, 1) := by decide +kernel
theorem dX8_wornOver_5 : decode cX8_wornOver 5 = .ok (.aload_n 0, 1) := by decide +kernel
theorem dX8_wornOver_6 : decode cX8_wornOver 6 = .ok (.getfield 143, 3) := by decide +kernel
theorem dX8_wornOver_9 : decode cX8_wornOver 9 = .ok (.if_icmp .ge 33, 3) := by decide +kernel
theorem dX8_wornOver_12 : decode cX8_wornOver 12 = .ok (.iload_n 2, 1) := by decide +kernel
theorem dX8_wornOver_13 : decode cX8_wornOver 13 = .ok (.aload_n 0, 1) := by decide +kernel
theorem dX8_wornOver_14 : decode cX8_wornOver 14 = .ok (.getfield 7, 3) := by decide +kernel
theorem dX8_wornOver_17 : decode cX8_wornOver 17 = .ok (.iconst 2, 1) := by decide +kernel
theorem dX8_wornOver_18 : decode cX8_wornOver 18 = .ok (.iload_n 3, 1) := by decide +kernel
theorem dX8_wornOver_19 : decode cX8_wornOver 19 = .ok (.imul, 1) := by decide +kernel
theorem dX8_wornOver_20 : decode cX8_wornOver 20 = .ok (.iconst 1, 1) := by decide +kernel
theorem dX8_wornOver_21 : decode cX8_wornOver 21 = .ok (.iadd, 1) := by decide +kernel
theorem dX8_wornOver_22 : decode cX8_wornOver 22 = .ok (.iaload, 1) := by decide +kernel
theorem dX8_wornOver_23 : decode cX8_wornOver 23 = .ok (.iload_n 1, 1) := by decide +kernel
theorem dX8_wornOver_24 : decode cX8_wornOver 24 = .ok (.if_icmp .le 9, 3) := by decide +kernel
theorem dX8_wornOver_27 : decode cX8_wornOver 27 = .ok (.iconst 1, 1) := by decide +kernel
theorem dX8_wornOver_28 : decode cX8_wornOver 28 = .ok (.iload_n 3, 1) := by decide +kernel
theorem dX8_wornOver_29 : decode cX8_wornOver 29 = .ok (.ishl, 1) := by decide +kernel
theorem dX8_wornOver_30 : decode cX8_wornOver 30 = .ok (.goto 4, 3) := by decide +kernel
theorem dX8_wornOver_33 : decode cX8_wornOver 33 = .ok (.iconst 0, 1) := by decide +kernel
theorem dX8_wornOver_34 : decode cX8_wornOver 34 = .ok (.ior, 1) := by decide +kernel
theorem dX8_wornOver_35 : decode cX8_wornOver 35 = .ok (.istore_n 2, 1) := by decide +kernel
theorem dX8_wornOver_36 : decode cX8_wornOver 36 = .ok (.iinc 3 1, 3) := by decide +kernel
theorem dX8_wornOver_39 : decode cX8_wornOver 39 = .ok (.goto (-35), 3) := by decide +kernel
theorem dX8_wornOver_42 : decode cX8_wornOver 42 = .ok (.iload_n 2, 1) := by decide +kernel
theorem dX8_wornOver_43 : decode cX8_wornOver 43 = .ok (.ireturn, 1) := by decide +kernel
theorem mkX8_wornOver : mokV qX8_wornOver 1 := ⟨⟨⟨⟨by decide, by decide, by decide +kernel⟩, by decide⟩, gd_mem 59 (by decide +kernel) (by decide +kernel), gd_mem 1156 (by decide +kernel) (by decide +kernel)⟩, gd_mem 1155 (by decide +kernel) (by decide +kernel), gd_mem 38 (by decide +kernel) (by decide +kernel)⟩
abbrev qX8_copies : mMI := (yX8_copies, cX8_copies, 4, none, 0)
theorem dX8_copies_0 : decode cX8_copies 0 = .ok (.iconst 0, 1) := by decide +kernel
theorem dX8_copies_1 : decode cX8_copies 1 = .ok (.istore_n 3, 1) := by decide +kernel
theorem dX8_copies_2 : decode cX8_copies 2 = .ok (.iload_n 3, 1) := by decide +kernel
theorem dX8_copies_3 : decode cX8_copies 3 = .ok (.bipush 35, 2) := by decide +kernel
theorem dX8_copies_5 : decode cX8_copies 5 = .ok (.if_icmp .ge 25, 3) := by decide +kernel
theorem dX8_copies_8 : decode cX8_copies 8 = .ok (.aload_n 0, 1) := by decide +kernel
theorem dX8_copies_9 : decode cX8_copies 9 = .ok (.getfield 7, 3) := by decide +kernel
theorem dX8_copies_12 : decode cX8_copies 12 = .ok (.iload_n 2, 1) := by decide +kernel
theorem dX8_copies_13 : decode cX8_copies 13 = .ok (.iload_n 3, 1) := by decide +kernel
theorem dX8_copies_14 : decode cX8_copies 14 = .ok (.iadd, 1) := by decide +kernel
theorem dX8_copies_15 : decode cX8_copies 15 = .ok (.aload_n 0, 1) := by decide +kernel
theorem dX8_copies_16 : decode cX8_copies 16 = .ok (.getfield 7, 3) := by decide +kernel
theorem dX8_copies_19 : decode cX8_copies 19 = .ok (.iload_n 1, 1) := by decide +kernel
theorem dX8_copies_20 : decode cX8_copies 20 = .ok (.iload_n 3, 1) := by decide +kernel
theorem dX8_copies_21 : decode cX8_copies 21 = .ok (.iadd, 1) := by decide +kernel
theorem dX8_copies_22 : decode cX8_copies 22 = .ok (.iaload, 1) := by decide +kernel
theorem dX8_copies_23 : decode cX8_copies 23 = .ok (.iastore, 1) := by decide +kernel
theorem dX8_copies_24 : decode cX8_copies 24 = .ok (.iinc 3 1, 3) := by decide +kernel
theorem dX8_copies_27 : decode cX8_copies 27 = .ok (.goto (-25), 3) := by decide +kernel
theorem dX8_copies_30 : decode cX8_copies 30 = .ok (.return_, 1) := by decide +kernel
theorem mkX8_copies : mokV qX8_copies 2 := ⟨⟨⟨⟨by decide, by decide, by decide +kernel⟩, by decide⟩, gd_mem 59 (by decide +kernel) (by decide +kernel), gd_mem 1192 (by decide +kernel) (by decide +kernel)⟩, gd_mem 1191 (by decide +kernel) (by decide +kernel), gd_mem 43 (by decide +kernel) (by decide +kernel)⟩
abbrev qX8_bitsOf : mMI := (yX8_bitsOf, cX8_bitsOf, 3, (some .int), 0)
theorem dX8_bitsOf_0 : decode cX8_bitsOf 0 = .ok (.iconst 0, 1) := by decide +kernel
theorem dX8_bitsOf_1 : decode cX8_bitsOf 1 = .ok (.istore_n 1, 1) := by decide +kernel
theorem dX8_bitsOf_2 : decode cX8_bitsOf 2 = .ok (.iconst 0, 1) := by decide +kernel
theorem dX8_bitsOf_3 : decode cX8_bitsOf 3 = .ok (.istore_n 2, 1) := by decide +kernel
theorem dX8_bitsOf_4 : decode cX8_bitsOf 4 = .ok (.iload_n 2, 1) := by decide +kernel
theorem dX8_bitsOf_5 : decode cX8_bitsOf 5 = .ok (.bipush 10, 2) := by decide +kernel
theorem dX8_bitsOf_7 : decode cX8_bitsOf 7 = .ok (.if_icmp .ge 17, 3) := by decide +kernel
theorem dX8_bitsOf_10 : decode cX8_bitsOf 10 = .ok (.iload_n 1, 1) := by decide +kernel
theorem dX8_bitsOf_11 : decode cX8_bitsOf 11 = .ok (.iload_n 0, 1) := by decide +kernel
theorem dX8_bitsOf_12 : decode cX8_bitsOf 12 = .ok (.iload_n 2, 1) := by decide +kernel
theorem dX8_bitsOf_13 : decode cX8_bitsOf 13 = .ok (.ishr, 1) := by decide +kernel
theorem dX8_bitsOf_14 : decode cX8_bitsOf 14 = .ok (.iconst 1, 1) := by decide +kernel
theorem dX8_bitsOf_15 : decode cX8_bitsOf 15 = .ok (.iand, 1) := by decide +kernel
theorem dX8_bitsOf_16 : decode cX8_bitsOf 16 = .ok (.iadd, 1) := by decide +kernel
theorem dX8_bitsOf_17 : decode cX8_bitsOf 17 = .ok (.istore_n 1, 1) := by decide +kernel
theorem dX8_bitsOf_18 : decode cX8_bitsOf 18 = .ok (.iinc 2 1, 3) := by decide +kernel
theorem dX8_bitsOf_21 : decode cX8_bitsOf 21 = .ok (.goto (-17), 3) := by decide +kernel
theorem dX8_bitsOf_24 : decode cX8_bitsOf 24 = .ok (.iload_n 1, 1) := by decide +kernel
theorem dX8_bitsOf_25 : decode cX8_bitsOf 25 = .ok (.ireturn, 1) := by decide +kernel
theorem mkX8_bitsOf : mokS qX8_bitsOf 1 := ⟨⟨⟨⟨by decide, by decide, by decide +kernel⟩, by decide⟩, gd_mem 59 (by decide +kernel) (by decide +kernel), gd_mem 1223 (by decide +kernel) (by decide +kernel)⟩, gd_mem 1222 (by decide +kernel) (by decide +kernel)⟩
abbrev qX8_laysFloors : mMI := (yX8_laysFloors, cX8_laysFloors, 6, (some .boolean), 0)
theorem dX8_laysFloors_0 : decode cX8_laysFloors 0 = .ok (.iload_n 1, 1) := by decide +kernel
theorem dX8_laysFloors_1 : decode cX8_laysFloors 1 = .ok (.istore_n 2, 1) := by decide +kernel
theorem dX8_laysFloors_2 : decode cX8_laysFloors 2 = .ok (.iconst 0, 1) := by decide +kernel
theorem dX8_laysFloors_3 : decode cX8_laysFloors 3 = .ok (.istore_n 3, 1) := by decide +kernel
theorem dX8_laysFloors_4 : decode cX8_laysFloors 4 = .ok (.iconst 1, 1) := by decide +kernel
theorem dX8_laysFloors_5 : decode cX8_laysFloors 5 = .ok (.istore 4, 2) := by decide +kernel
theorem dX8_laysFloors_7 : decode cX8_laysFloors 7 = .ok (.aload_n 0, 1) := by decide +kernel
theorem dX8_laysFloors_8 : decode cX8_laysFloors 8 = .ok (.getfield 146, 3) := by decide +kernel
theorem dX8_laysFloors_11 : decode cX8_laysFloors 11 = .ok (.iconst 1, 1) := by decide +kernel
theorem dX8_laysFloors_12 : decode cX8_laysFloors 12 = .ok (.isub, 1) := by decide +kernel
theorem dX8_laysFloors_13 : decode cX8_laysFloors 13 = .ok (.istore 5, 2) := by decide +kernel
theorem dX8_laysFloors_15 : decode cX8_laysFloors 15 = .ok (.iload 5, 2) := by decide +kernel
theorem dX8_laysFloors_17 : decode cX8_laysFloors 17 = .ok (.ifCond .lt 75, 3) := by decide +kernel
theorem dX8_laysFloors_20 : decode cX8_laysFloors 20 = .ok (.aload_n 0, 1) := by decide +kernel
theorem dX8_laysFloors_21 : decode cX8_laysFloors 21 = .ok (.getfield 46, 3) := by decide +kernel
theorem dX8_laysFloors_24 : decode cX8_laysFloors 24 = .ok (.iload 5, 2) := by decide +kernel
theorem dX8_laysFloors_26 : decode cX8_laysFloors 26 = .ok (.iload_n 2, 1) := by decide +kernel
theorem dX8_laysFloors_27 : decode cX8_laysFloors 27 = .ok (.iconst 4, 1) := by decide +kernel
theorem dX8_laysFloors_28 : decode cX8_laysFloors 28 = .ok (.irem, 1) := by decide +kernel
theorem dX8_laysFloors_29 : decode cX8_laysFloors 29 = .ok (.iastore, 1) := by decide +kernel
theorem dX8_laysFloors_30 : decode cX8_laysFloors 30 = .ok (.iload_n 2, 1) := by decide +kernel
theorem dX8_laysFloors_31 : decode cX8_laysFloors 31 = .ok (.iconst 4, 1) := by decide +kernel
theorem dX8_laysFloors_32 : decode cX8_laysFloors 32 = .ok (.idiv, 1) := by decide +kernel
theorem dX8_laysFloors_33 : decode cX8_laysFloors 33 = .ok (.istore_n 2, 1) := by decide +kernel
theorem dX8_laysFloors_34 : decode cX8_laysFloors 34 = .ok (.iload 4, 2) := by decide +kernel
theorem dX8_laysFloors_36 : decode cX8_laysFloors 36 = .ok (.ifCond .eq 35, 3) := by decide +kernel
theorem dX8_laysFloors_39 : decode cX8_laysFloors 39 = .ok (.aload_n 0, 1) := by decide +kernel
theorem dX8_laysFloors_40 : decode cX8_laysFloors 40 = .ok (.getfield 46, 3) := by decide +kernel
theorem dX8_laysFloors_43 : decode cX8_laysFloors 43 = .ok (.iload 5, 2) := by decide +kernel
theorem dX8_laysFloors_45 : decode cX8_laysFloors 45 = .ok (.iaload, 1) := by decide +kernel
theorem dX8_laysFloors_46 : decode cX8_laysFloors 46 = .ok (.aload_n 0, 1) := by decide +kernel
theorem dX8_laysFloors_47 : decode cX8_laysFloors 47 = .ok (.getfield 146, 3) := by decide +kernel
theorem dX8_laysFloors_50 : decode cX8_laysFloors 50 = .ok (.if_icmp .ge 21, 3) := by decide +kernel
theorem dX8_laysFloors_53 : decode cX8_laysFloors 53 = .ok (.iload_n 3, 1) := by decide +kernel
theorem dX8_laysFloors_54 : decode cX8_laysFloors 54 = .ok (.aload_n 0, 1) := by decide +kernel
theorem dX8_laysFloors_55 : decode cX8_laysFloors 55 = .ok (.getfield 46, 3) := by decide +kernel
theorem dX8_laysFloors_58 : decode cX8_laysFloors 58 = .ok (.iload 5, 2) := by decide +kernel
theorem dX8_laysFloors_60 : decode cX8_laysFloors 60 = .ok (.iaload, 1) := by decide +kernel
theorem dX8_laysFloors_61 : decode cX8_laysFloors 61 = .ok (.ishr, 1) := by decide +kernel
theorem dX8_laysFloors_62 : decode cX8_laysFloors 62 = .ok (.iconst 1, 1) := by decide +kernel
theorem dX8_laysFloors_63 : decode cX8_laysFloors 63 = .ok (.iand, 1) := by decide +kernel
theorem dX8_laysFloors_64 : decode cX8_laysFloors 64 = .ok (.ifCond .ne 7, 3) := by decide +kernel
theorem dX8_laysFloors_67 : decode cX8_laysFloors 67 = .ok (.iconst 1, 1) := by decide +kernel
theorem dX8_laysFloors_68 : decode cX8_laysFloors 68 = .ok (.goto 4, 3) := by decide +kernel
theorem dX8_laysFloors_71 : decode cX8_laysFloors 71 = .ok (.iconst 0, 1) := by decide +kernel
theorem dX8_laysFloors_72 : decode cX8_laysFloors 72 = .ok (.istore 4, 2) := by decide +kernel
theorem dX8_laysFloors_74 : decode cX8_laysFloors 74 = .ok (.iload_n 3, 1) := by decide +kernel
theorem dX8_laysFloors_75 : decode cX8_laysFloors 75 = .ok (.iconst 1, 1) := by decide +kernel
theorem dX8_laysFloors_76 : decode cX8_laysFloors 76 = .ok (.aload_n 0, 1) := by decide +kernel
theorem dX8_laysFloors_77 : decode cX8_laysFloors 77 = .ok (.getfield 46, 3) := by decide +kernel
theorem dX8_laysFloors_80 : decode cX8_laysFloors 80 = .ok (.iload 5, 2) := by decide +kernel
theorem dX8_laysFloors_82 : decode cX8_laysFloors 82 = .ok (.iaload, 1) := by decide +kernel
theorem dX8_laysFloors_83 : decode cX8_laysFloors 83 = .ok (.ishl, 1) := by decide +kernel
theorem dX8_laysFloors_84 : decode cX8_laysFloors 84 = .ok (.ior, 1) := by decide +kernel
theorem dX8_laysFloors_85 : decode cX8_laysFloors 85 = .ok (.istore_n 3, 1) := by decide +kernel
theorem dX8_laysFloors_86 : decode cX8_laysFloors 86 = .ok (.iinc 5 (-1), 3) := by decide +kernel
theorem dX8_laysFloors_89 : decode cX8_laysFloors 89 = .ok (.goto (-74), 3) := by decide +kernel
theorem dX8_laysFloors_92 : decode cX8_laysFloors 92 = .ok (.iconst 0, 1) := by decide +kernel
theorem dX8_laysFloors_93 : decode cX8_laysFloors 93 = .ok (.istore 5, 2) := by decide +kernel
theorem dX8_laysFloors_95 : decode cX8_laysFloors 95 = .ok (.iload 5, 2) := by decide +kernel
theorem dX8_laysFloors_97 : decode cX8_laysFloors 97 = .ok (.aload_n 0, 1) := by decide +kernel
theorem dX8_laysFloors_98 : decode cX8_laysFloors 98 = .ok (.getfield 146, 3) := by decide +kernel
theorem dX8_laysFloors_101 : decode cX8_laysFloors 101 = .ok (.if_icmp .ge 48, 3) := by decide +kernel
theorem dX8_laysFloors_104 : decode cX8_laysFloors 104 = .ok (.iload 4, 2) := by decide +kernel
theorem dX8_laysFloors_106 : decode cX8_laysFloors 106 = .ok (.ifCond .eq 43, 3) := by decide +kernel
theorem dX8_laysFloors_109 : decode cX8_laysFloors 109 = .ok (.aload_n 0, 1) := by decide +kernel
theorem dX8_laysFloors_110 : decode cX8_laysFloors 110 = .ok (.getfield 7, 3) := by decide +kernel
theorem dX8_laysFloors_113 : decode cX8_laysFloors 113 = .ok (.sipush 195, 3) := by decide +kernel
theorem dX8_laysFloors_116 : decode cX8_laysFloors 116 = .ok (.iconst 3, 1) := by decide +kernel
theorem dX8_laysFloors_117 : decode cX8_laysFloors 117 = .ok (.iload 5, 2) := by decide +kernel
theorem dX8_laysFloors_119 : decode cX8_laysFloors 119 = .ok (.imul, 1) := by decide +kernel
theorem dX8_laysFloors_120 : decode cX8_laysFloors 120 = .ok (.iadd, 1) := by decide +kernel
theorem dX8_laysFloors_121 : decode cX8_laysFloors 121 = .ok (.iconst 2, 1) := by decide +kernel
theorem dX8_laysFloors_122 : decode cX8_laysFloors 122 = .ok (.iadd, 1) := by decide +kernel
theorem dX8_laysFloors_123 : decode cX8_laysFloors 123 = .ok (.aload_n 0, 1) := by decide +kernel
theorem dX8_laysFloors_124 : decode cX8_laysFloors 124 = .ok (.getfield 7, 3) := by decide +kernel
theorem dX8_laysFloors_127 : decode cX8_laysFloors 127 = .ok (.bipush 20, 2) := by decide +kernel
theorem dX8_laysFloors_129 : decode cX8_laysFloors 129 = .ok (.iconst 3, 1) := by decide +kernel
theorem dX8_laysFloors_130 : decode cX8_laysFloors 130 = .ok (.aload_n 0, 1) := by decide +kernel
theorem dX8_laysFloors_131 : decode cX8_laysFloors 131 = .ok (.getfield 46, 3) := by decide +kernel
theorem dX8_laysFloors_134 : decode cX8_laysFloors 134 = .ok (.iload 5, 2) := by decide +kernel
theorem dX8_laysFloors_136 : decode cX8_laysFloors 136 = .ok (.iaload, 1) := by decide +kernel
theorem dX8_laysFloors_137 : decode cX8_laysFloors 137 = .ok (.imul, 1) := by decide +kernel
theorem dX8_laysFloors_138 : decode cX8_laysFloors 138 = .ok (.iadd, 1) := by decide +kernel
theorem dX8_laysFloors_139 : decode cX8_laysFloors 139 = .ok (.iconst 2, 1) := by decide +kernel
theorem dX8_laysFloors_140 : decode cX8_laysFloors 140 = .ok (.iadd, 1) := by decide +kernel
theorem dX8_laysFloors_141 : decode cX8_laysFloors 141 = .ok (.iaload, 1) := by decide +kernel
theorem dX8_laysFloors_142 : decode cX8_laysFloors 142 = .ok (.iastore, 1) := by decide +kernel
theorem dX8_laysFloors_143 : decode cX8_laysFloors 143 = .ok (.iinc 5 1, 3) := by decide +kernel
theorem dX8_laysFloors_146 : decode cX8_laysFloors 146 = .ok (.goto (-51), 3) := by decide +kernel
theorem dX8_laysFloors_149 : decode cX8_laysFloors 149 = .ok (.iload 4, 2) := by decide +kernel
theorem dX8_laysFloors_151 : decode cX8_laysFloors 151 = .ok (.ireturn, 1) := by decide +kernel
theorem mkX8_laysFloors : mokV qX8_laysFloors 1 := ⟨⟨⟨⟨by decide, by decide, by decide +kernel⟩, by decide⟩, gd_mem 59 (by decide +kernel) (by decide +kernel), gd_mem 1231 (by decide +kernel) (by decide +kernel)⟩, gd_mem 1230 (by decide +kernel) (by decide +kernel), gd_mem 45 (by decide +kernel) (by decide +kernel)⟩
abbrev qX8_lowest : mMI := (yX8_lowest, cX8_lowest, 11, (some .long), 0)
theorem dX8_lowest_0 : decode cX8_lowest 0 = .ok (.lload_n 0, 1) := by decide +kernel
theorem dX8_lowest_1 : decode cX8_lowest 1 = .ok (.lstore 5, 2) := by decide +kernel
theorem dX8_lowest_3 : decode cX8_lowest 3 = .ok (.lload_n 2, 1) := by decide +kernel
theorem dX8_lowest_4 : decode cX8_lowest 4 = .ok (.lstore 7, 2) := by decide +kernel
theorem dX8_lowest_6 : decode cX8_lowest 6 = .ok (.lload 7, 2) := by decide +kernel
theorem dX8_lowest_8 : decode cX8_lowest 8 = .ok (.lconst 0, 1) := by decide +kernel
theorem dX8_lowest_9 : decode cX8_lowest 9 = .ok (.lcmp, 1) := by decide +kernel
theorem dX8_lowest_10 : decode cX8_lowest 10 = .ok (.ifCond .eq 21, 3) := by decide +kernel
theorem dX8_lowest_13 : decode cX8_lowest 13 = .ok (.lload 5, 2) := by decide +kernel
theorem dX8_lowest_15 : decode cX8_lowest 15 = .ok (.lload 7, 2) := by decide +kernel
theorem dX8_lowest_17 : decode cX8_lowest 17 = .ok (.lrem, 1) := by decide +kernel
theorem dX8_lowest_18 : decode cX8_lowest 18 = .ok (.lstore 9, 2) := by decide +kernel
theorem dX8_lowest_20 : decode cX8_lowest 20 = .ok (.lload 7, 2) := by decide +kernel
theorem dX8_lowest_22 : decode cX8_lowest 22 = .ok (.lstore 5, 2) := by decide +kernel
theorem dX8_lowest_24 : decode cX8_lowest 24 = .ok (.lload 9, 2) := by decide +kernel
theorem dX8_lowest_26 : decode cX8_lowest 26 = .ok (.lstore 7, 2) := by decide +kernel
theorem dX8_lowest_28 : decode cX8_lowest 28 = .ok (.goto (-22), 3) := by decide +kernel
theorem dX8_lowest_31 : decode cX8_lowest 31 = .ok (.iload 4, 2) := by decide +kernel
theorem dX8_lowest_33 : decode cX8_lowest 33 = .ok (.ifCond .ne 7, 3) := by decide +kernel
theorem dX8_lowest_36 : decode cX8_lowest 36 = .ok (.lload_n 0, 1) := by decide +kernel
theorem dX8_lowest_37 : decode cX8_lowest 37 = .ok (.goto 4, 3) := by decide +kernel
theorem dX8_lowest_40 : decode cX8_lowest 40 = .ok (.lload_n 2, 1) := by decide +kernel
theorem dX8_lowest_41 : decode cX8_lowest 41 = .ok (.lload 5, 2) := by decide +kernel
theorem dX8_lowest_43 : decode cX8_lowest 43 = .ok (.ldiv, 1) := by decide +kernel
theorem dX8_lowest_44 : decode cX8_lowest 44 = .ok (.lreturn, 1) := by decide +kernel
theorem mkX8_lowest : mokS qX8_lowest 3 := ⟨⟨⟨⟨by decide, by decide, by decide +kernel⟩, by decide⟩, gd_mem 59 (by decide +kernel) (by decide +kernel), gd_mem 1242 (by decide +kernel) (by decide +kernel)⟩, gd_mem 1241 (by decide +kernel) (by decide +kernel)⟩
abbrev qX8_allFloors : mMI := (yX8_allFloors, cX8_allFloors, 3, (some .int), 0)
theorem dX8_allFloors_0 : decode cX8_allFloors 0 = .ok (.iconst 1, 1) := by decide +kernel
theorem dX8_allFloors_1 : decode cX8_allFloors 1 = .ok (.istore_n 1, 1) := by decide +kernel
theorem dX8_allFloors_2 : decode cX8_allFloors 2 = .ok (.iconst 0, 1) := by decide +kernel
theorem dX8_allFloors_3 : decode cX8_allFloors 3 = .ok (.istore_n 2, 1) := by decide +kernel
theorem dX8_allFloors_4 : decode cX8_allFloors 4 = .ok (.iload_n 2, 1) := by decide +kernel
theorem dX8_allFloors_5 : decode cX8_allFloors 5 = .ok (.aload_n 0, 1) := by decide +kernel
theorem dX8_allFloors_6 : decode cX8_allFloors 6 = .ok (.getfield 146, 3) := by decide +kernel
theorem dX8_allFloors_9 : decode cX8_allFloors 9 = .ok (.if_icmp .ge 16, 3) := by decide +kernel
theorem dX8_allFloors_12 : decode cX8_allFloors 12 = .ok (.iload_n 1, 1) := by decide +kernel
theorem dX8_allFloors_13 : decode cX8_allFloors 13 = .ok (.aload_n 0, 1) := by decide +kernel
theorem dX8_allFloors_14 : decode cX8_allFloors 14 = .ok (.getfield 143, 3) := by decide +kernel
theorem dX8_allFloors_17 : decode cX8_allFloors 17 = .ok (.imul, 1) := by decide +kernel
theorem dX8_allFloors_18 : decode cX8_allFloors 18 = .ok (.istore_n 1, 1) := by decide +kernel
theorem dX8_allFloors_19 : decode cX8_allFloors 19 = .ok (.iinc 2 1, 3) := by decide +kernel
theorem dX8_allFloors_22 : decode cX8_allFloors 22 = .ok (.goto (-18), 3) := by decide +kernel
theorem dX8_allFloors_25 : decode cX8_allFloors 25 = .ok (.iload_n 1, 1) := by decide +kernel
theorem dX8_allFloors_26 : decode cX8_allFloors 26 = .ok (.ireturn, 1) := by decide +kernel
theorem mkX8_allFloors : mokV qX8_allFloors 0 := ⟨⟨⟨⟨by decide, by decide, by decide +kernel⟩, by decide⟩, gd_mem 59 (by decide +kernel) (by decide +kernel), gd_mem 1264 (by decide +kernel) (by decide +kernel)⟩, gd_mem 1263 (by decide +kernel) (by decide +kernel), gd_mem 47 (by decide +kernel) (by decide +kernel)⟩
abbrev qX8_floorOf : mMI := (yX8_floorOf, cX8_floorOf, 5, (some .int), 0)
theorem dX8_floorOf_0 : decode cX8_floorOf 0 = .ok (.iload_n 1, 1) := by decide +kernel
theorem dX8_floorOf_1 : decode cX8_floorOf 1 = .ok (.istore_n 3, 1) := by decide +kernel
theorem dX8_floorOf_2 : decode cX8_floorOf 2 = .ok (.aload_n 0, 1) := by decide +kernel
theorem dX8_floorOf_3 : decode cX8_floorOf 3 = .ok (.getfield 146, 3) := by decide +kernel
theorem dX8_floorOf_6 : decode cX8_floorOf 6 = .ok (.iconst 1, 1) := by decide +kernel
theorem dX8_floorOf_7 : decode cX8_floorOf 7 = .ok (.isub, 1) := by decide +kernel
theorem dX8_floorOf_8 : decode cX8_floorOf 8 = .ok (.istore 4, 2) := by decide +kernel
theorem dX8_floorOf_10 : decode cX8_floorOf 10 = .ok (.iload 4, 2) := by decide +kernel
theorem dX8_floorOf_12 : decode cX8_floorOf 12 = .ok (.iload_n 2, 1) := by decide +kernel
theorem dX8_floorOf_13 : decode cX8_floorOf 13 = .ok (.if_icmp .le 16, 3) := by decide +kernel
theorem dX8_floorOf_16 : decode cX8_floorOf 16 = .ok (.iload_n 3, 1) := by decide +kernel
theorem dX8_floorOf_17 : decode cX8_floorOf 17 = .ok (.aload_n 0, 1) := by decide +kernel
theorem dX8_floorOf_18 : decode cX8_floorOf 18 = .ok (.getfield 143, 3) := by decide +kernel
theorem dX8_floorOf_21 : decode cX8_floorOf 21 = .ok (.idiv, 1) := by decide +kernel
theorem dX8_floorOf_22 : decode cX8_floorOf 22 = .ok (.istore_n 3, 1) := by decide +kernel
theorem dX8_floorOf_23 : decode cX8_floorOf 23 = .ok (.iinc 4 (-1), 3) := by decide +kernel
theorem dX8_floorOf_26 : decode cX8_floorOf 26 = .ok (.goto (-16), 3) := by decide +kernel
theorem dX8_floorOf_29 : decode cX8_floorOf 29 = .ok (.iload_n 3, 1) := by decide +kernel
theorem dX8_floorOf_30 : decode cX8_floorOf 30 = .ok (.aload_n 0, 1) := by decide +kernel
theorem dX8_floorOf_31 : decode cX8_floorOf 31 = .ok (.getfield 143, 3) := by decide +kernel
theorem dX8_floorOf_34 : decode cX8_floorOf 34 = .ok (.irem, 1) := by decide +kernel
theorem dX8_floorOf_35 : decode cX8_floorOf 35 = .ok (.ireturn, 1) := by decide +kernel
theorem mkX8_floorOf : mokV qX8_floorOf 2 := ⟨⟨⟨⟨by decide, by decide, by decide +kernel⟩, by decide⟩, gd_mem 59 (by decide +kernel) (by decide +kernel), gd_mem 1272 (by decide +kernel) (by decide +kernel)⟩, gd_mem 1271 (by decide +kernel) (by decide +kernel), gd_mem 49 (by decide +kernel) (by decide +kernel)⟩
abbrev qX8_torn : mMI := (yX8_torn, cX8_torn, 1, (some .int), 0)
theorem dX8_torn_0 : decode cX8_torn 0 = .ok (.aload_n 0, 1) := by decide +kernel
theorem dX8_torn_1 : decode cX8_torn 1 = .ok (.getfield 261, 3) := by decide +kernel
theorem dX8_torn_4 : decode cX8_torn 4 = .ok (.ireturn, 1) := by decide +kernel
theorem mkX8_torn : mokV qX8_torn 0 := ⟨⟨⟨⟨by decide, by decide, by decide +kernel⟩, by decide⟩, gd_mem 59 (by decide +kernel) (by decide +kernel), gd_mem 1307 (by decide +kernel) (by decide +kernel)⟩, gd_mem 1305 (by decide +kernel) (by decide +kernel), gd_mem 1306 (by decide +kernel) (by decide +kernel)⟩
abbrev qX8_feed : mMI := (yX8_feed, cX8_feed, 2, (some .int), 1)
theorem dX8_feed_0 : decode cX8_feed 0 = .ok (.iload_n 1, 1) := by decide +kernel
theorem dX8_feed_1 : decode cX8_feed 1 = .ok (.i2l, 1) := by decide +kernel
theorem dX8_feed_2 : decode cX8_feed 2 = .ok (.lconst 0, 1) := by decide +kernel
theorem dX8_feed_3 : decode cX8_feed 3 = .ok (.ldc2_w 65, 3) := by decide +kernel
theorem dX8_feed_6 : decode cX8_feed 6 = .ok (.invokestatic 67, 3) := by decide +kernel
theorem dX8_feed_9 : decode cX8_feed 9 = .ok (.ifCond .ne 5, 3) := by decide +kernel
theorem dX8_feed_12 : decode cX8_feed 12 = .ok (.iconst (-1), 1) := by decide +kernel
theorem dX8_feed_13 : decode cX8_feed 13 = .ok (.ireturn, 1) := by decide +kernel
theorem dX8_feed_14 : decode cX8_feed 14 = .ok (.aload_n 0, 1) := by decide +kernel
theorem dX8_feed_15 : decode cX8_feed 15 = .ok (.getfield 71, 3) := by decide +kernel
theorem dX8_feed_18 : decode cX8_feed 18 = .ok (.sipush 160, 3) := by decide +kernel
theorem dX8_feed_21 : decode cX8_feed 21 = .ok (.if_icmp .ne 6, 3) := by decide +kernel
theorem dX8_feed_24 : decode cX8_feed 24 = .ok (.bipush (-3), 2) := by decide +kernel
theorem dX8_feed_26 : decode cX8_feed 26 = .ok (.ireturn, 1) := by decide +kernel
theorem dX8_feed_27 : decode cX8_feed 27 = .ok (.aload_n 0, 1) := by decide +kernel
theorem dX8_feed_28 : decode cX8_feed 28 = .ok (.getfield 28, 3) := by decide +kernel
theorem dX8_feed_31 : decode cX8_feed 31 = .ok (.aload_n 0, 1) := by decide +kernel
theorem dX8_feed_32 : decode cX8_feed 32 = .ok (.getfield 71, 3) := by decide +kernel
theorem dX8_feed_35 : decode cX8_feed 35 = .ok (.iload_n 1, 1) := by decide +kernel
theorem dX8_feed_36 : decode cX8_feed 36 = .ok (.iastore, 1) := by decide +kernel
theorem dX8_feed_37 : decode cX8_feed 37 = .ok (.aload_n 0, 1) := by decide +kernel
theorem dX8_feed_38 : decode cX8_feed 38 = .ok (.dup, 1) := by decide +kernel
theorem dX8_feed_39 : decode cX8_feed 39 = .ok (.getfield 71, 3) := by decide +kernel
theorem dX8_feed_42 : decode cX8_feed 42 = .ok (.iconst 1, 1) := by decide +kernel
theorem dX8_feed_43 : decode cX8_feed 43 = .ok (.iadd, 1) := by decide +kernel
theorem dX8_feed_44 : decode cX8_feed 44 = .ok (.putfield 71, 3) := by decide +kernel
theorem dX8_feed_47 : decode cX8_feed 47 = .ok (.aload_n 0, 1) := by decide +kernel
theorem dX8_feed_48 : decode cX8_feed 48 = .ok (.getfield 71, 3) := by decide +kernel
theorem dX8_feed_51 : decode cX8_feed 51 = .ok (.ireturn, 1) := by decide +kernel
theorem mkX8_feed : mokV qX8_feed 1 := ⟨⟨⟨⟨by decide, by decide, by decide +kernel⟩, by decide⟩, gd_mem 59 (by decide +kernel) (by decide +kernel), gd_mem 993 (by decide +kernel) (by decide +kernel)⟩, gd_mem 991 (by decide +kernel) (by decide +kernel), gd_mem 992 (by decide +kernel) (by decide +kernel)⟩
abbrev qX8_end : mMI := (yX8_end, cX8_end, 3, (some .int), 1)
theorem dX8_end_0 : decode cX8_end 0 = .ok (.iload_n 1, 1) := by decide +kernel
theorem dX8_end_1 : decode cX8_end 1 = .ok (.i2l, 1) := by decide +kernel
theorem dX8_end_2 : decode cX8_end 2 = .ok (.lconst 0, 1) := by decide +kernel
theorem dX8_end_3 : decode cX8_end 3 = .ok (.aload_n 0, 1) := by decide +kernel
theorem dX8_end_4 : decode cX8_end 4 = .ok (.getfield 71, 3) := by decide +kernel
theorem dX8_end_7 : decode cX8_end 7 = .ok (.i2l, 1) := by decide +kernel
theorem dX8_end_8 : decode cX8_end 8 = .ok (.invokestatic 67, 3) := by decide +kernel
theorem dX8_end_11 : decode cX8_end 11 = .ok (.ifCond .ne 5, 3) := by decide +kernel
theorem dX8_end_14 : decode cX8_end 14 = .ok (.iconst (-1), 1) := by decide +kernel
theorem dX8_end_15 : decode cX8_end 15 = .ok (.ireturn, 1) := by decide +kernel
theorem dX8_end_16 : decode cX8_end 16 = .ok (.aload_n 0, 1) := by decide +kernel
theorem dX8_end_17 : decode cX8_end 17 = .ok (.getfield 71, 3) := by decide +kernel
theorem dX8_end_20 : decode cX8_end 20 = .ok (.istore_n 2, 1) := by decide +kernel
theorem dX8_end_21 : decode cX8_end 21 = .ok (.aload_n 0, 1) := by decide +kernel
theorem dX8_end_22 : decode cX8_end 22 = .ok (.iload_n 1, 1) := by decide +kernel
theorem dX8_end_23 : decode cX8_end 23 = .ok (.putfield 71, 3) := by decide +kernel
theorem dX8_end_26 : decode cX8_end 26 = .ok (.iload_n 2, 1) := by decide +kernel
theorem dX8_end_27 : decode cX8_end 27 = .ok (.ireturn, 1) := by decide +kernel
theorem mkX8_end : mokV qX8_end 1 := ⟨⟨⟨⟨by decide, by decide, by decide +kernel⟩, by decide⟩, gd_mem 59 (by decide +kernel) (by decide +kernel), gd_mem 1001 (by decide +kernel) (by decide +kernel)⟩, gd_mem 999 (by decide +kernel) (by decide +kernel), gd_mem 1000 (by decide +kernel) (by decide +kernel)⟩
abbrev qX8_nameHere : mMI := (yX8_nameHere, cX8_nameHere, 4, (some .int), 1)
theorem dX8_nameHere_0 : decode cX8_nameHere 0 = .ok (.iconst 0, 1) := by decide +kernel
theorem dX8_nameHere_1 : decode cX8_nameHere 1 = .ok (.istore_n 1, 1) := by decide +kernel
theorem dX8_nameHere_2 : decode cX8_nameHere 2 = .ok (.iload_n 1, 1) := by decide +kernel
theorem dX8_nameHere_3 : decode cX8_nameHere 3 = .ok (.bipush 7, 2) := by decide +kernel
theorem dX8_nameHere_5 : decode cX8_nameHere 5 = .ok (.if_icmp .ge 113, 3) := by decide +kernel
theorem dX8_nameHere_8 : decode cX8_nameHere 8 = .ok (.aload_n 0, 1) := by decide +kernel
theorem dX8_nameHere_9 : decode cX8_nameHere 9 = .ok (.getfield 84, 3) := by decide +kernel
theorem dX8_nameHere_12 : decode cX8_nameHere 12 = .ok (.iconst 1, 1) := by decide +kernel
theorem dX8_nameHere_13 : decode cX8_nameHere 13 = .ok (.if_icmp .ne 105, 3) := by decide +kernel
theorem dX8_nameHere_16 : decode cX8_nameHere 16 = .ok (.aload_n 0, 1) := by decide +kernel
theorem dX8_nameHere_17 : decode cX8_nameHere 17 = .ok (.getfield 87, 3) := by decide +kernel
theorem dX8_nameHere_20 : decode cX8_nameHere 20 = .ok (.aload_n 0, 1) := by decide +kernel
theorem dX8_nameHere_21 : decode cX8_nameHere 21 = .ok (.getfield 78, 3) := by decide +kernel
theorem dX8_nameHere_24 : decode cX8_nameHere 24 = .ok (.isub, 1) := by decide +kernel
theorem dX8_nameHere_25 : decode cX8_nameHere 25 = .ok (.aload_n 0, 1) := by decide +kernel
theorem dX8_nameHere_26 : decode cX8_nameHere 26 = .ok (.getfield 31, 3) := by decide +kernel
theorem dX8_nameHere_29 : decode cX8_nameHere 29 = .ok (.iload_n 1, 1) := by decide +kernel
theorem dX8_nameHere_30 : decode cX8_nameHere 30 = .ok (.iconst 1, 1) := by decide +kernel
theorem dX8_nameHere_31 : decode cX8_nameHere 31 = .ok (.iadd, 1) := by decide +kernel
theorem dX8_nameHere_32 : decode cX8_nameHere 32 = .ok (.iaload, 1) := by decide +kernel
theorem dX8_nameHere_33 : decode cX8_nameHere 33 = .ok (.aload_n 0, 1) := by decide +kernel
theorem dX8_nameHere_34 : decode cX8_nameHere 34 = .ok (.getfield 31, 3) := by decide +kernel
theorem dX8_nameHere_37 : decode cX8_nameHere 37 = .ok (.iload_n 1, 1) := by decide +kernel
theorem dX8_nameHere_38 : decode cX8_nameHere 38 = .ok (.iaload, 1) := by decide +kernel
theorem dX8_nameHere_39 : decode cX8_nameHere 39 = .ok (.isub, 1) := by decide +kernel
theorem dX8_nameHere_40 : decode cX8_nameHere 40 = .ok (.if_icmp .ne 7, 3) := by decide +kernel
theorem dX8_nameHere_43 : decode cX8_nameHere 43 = .ok (.iconst 1, 1) := by decide +kernel
theorem dX8_nameHere_44 : decode cX8_nameHere 44 = .ok (.goto 4, 3) := by decide +kernel
theorem dX8_nameHere_47 : decode cX8_nameHere 47 = .ok (.iconst 0, 1) := by decide +kernel
theorem dX8_nameHere_48 : decode cX8_nameHere 48 = .ok (.istore_n 2, 1) := by decide +kernel
theorem dX8_nameHere_49 : decode cX8_nameHere 49 = .ok (.iconst 0, 1) := by decide +kernel
theorem dX8_nameHere_50 : decode cX8_nameHere 50 = .ok (.istore_n 3, 1) := by decide +kernel
theorem dX8_nameHere_51 : decode cX8_nameHere 51 = .ok (.iload_n 2, 1) := by decide +kernel
theorem dX8_nameHere_52 : decode cX8_nameHere 52 = .ok (.ifCond .eq 54, 3) := by decide +kernel
theorem dX8_nameHere_55 : decode cX8_nameHere 55 = .ok (.iload_n 3, 1) := by decide +kernel
theorem dX8_nameHere_56 : decode cX8_nameHere 56 = .ok (.aload_n 0, 1) := by decide +kernel
theorem dX8_nameHere_57 : decode cX8_nameHere 57 = .ok (.getfield 87, 3) := by decide +kernel
theorem dX8_nameHere_60 : decode cX8_nameHere 60 = .ok (.aload_n 0, 1) := by decide +kernel
theorem dX8_nameHere_61 : decode cX8_nameHere 61 = .ok (.getfield 78, 3) := by decide +kernel
theorem dX8_nameHere_64 : decode cX8_nameHere 64 = .ok (.isub, 1) := by decide +kernel
theorem dX8_nameHere_65 : decode cX8_nameHere 65 = .ok (.if_icmp .ge 41, 3) := by decide +kernel
theorem dX8_nameHere_68 : decode cX8_nameHere 68 = .ok (.aload_n 0, 1) := by decide +kernel
theorem dX8_nameHere_69 : decode cX8_nameHere 69 = .ok (.aload_n 0, 1) := by decide +kernel
theorem dX8_nameHere_70 : decode cX8_nameHere 70 = .ok (.getfield 78, 3) := by decide +kernel
theorem dX8_nameHere_73 : decode cX8_nameHere 73 = .ok (.iload_n 3, 1) := by decide +kernel
theorem dX8_nameHere_74 : decode cX8_nameHere 74 = .ok (.iadd, 1) := by decide +kernel
theorem dX8_nameHere_75 : decode cX8_nameHere 75 = .ok (.invokevirtual 90, 3) := by decide +kernel
theorem dX8_nameHere_78 : decode cX8_nameHere 78 = .ok (.aload_n 0, 1) := by decide +kernel
theorem dX8_nameHere_79 : decode cX8_nameHere 79 = .ok (.getfield 34, 3) := by decide +kernel
theorem dX8_nameHere_82 : decode cX8_nameHere 82 = .ok (.aload_n 0, 1) := by decide +kernel
theorem dX8_nameHere_83 : decode cX8_nameHere 83 = .ok (.getfield 31, 3) := by decide +kernel
theorem dX8_nameHere_86 : decode cX8_nameHere 86 = .ok (.iload_n 1, 1) := by decide +kernel
theorem dX8_nameHere_87 : decode cX8_nameHere 87 = .ok (.iaload, 1) := by decide +kernel
theorem dX8_nameHere_88 : decode cX8_nameHere 88 = .ok (.iload_n 3, 1) := by decide +kernel
theorem dX8_nameHere_89 : decode cX8_nameHere 89 = .ok (.iadd, 1) := by decide +kernel
theorem dX8_nameHere_90 : decode cX8_nameHere 90 = .ok (.iaload, 1) := by decide +kernel
theorem dX8_nameHere_91 : decode cX8_nameHere 91 = .ok (.if_icmp .ne 7, 3) := by decide +kernel
theorem dX8_nameHere_94 : decode cX8_nameHere 94 = .ok (.iconst 1, 1) := by decide +kernel
theorem dX8_nameHere_95 : decode cX8_nameHere 95 = .ok (.goto 4, 3) := by decide +kernel
theorem dX8_nameHere_98 : decode cX8_nameHere 98 = .ok (.iconst 0, 1) := by decide +kernel
theorem dX8_nameHere_99 : decode cX8_nameHere 99 = .ok (.istore_n 2, 1) := by decide +kernel
theorem dX8_nameHere_100 : decode cX8_nameHere 100 = .ok (.iinc 3 1, 3) := by decide +kernel
theorem dX8_nameHere_103 : decode cX8_nameHere 103 = .ok (.goto (-52), 3) := by decide +kernel
theorem dX8_nameHere_106 : decode cX8_nameHere 106 = .ok (.iload_n 2, 1) := by decide +kernel
theorem dX8_nameHere_107 : decode cX8_nameHere 107 = .ok (.ifCond .eq 5, 3) := by decide +kernel
theorem dX8_nameHere_110 : decode cX8_nameHere 110 = .ok (.iload_n 1, 1) := by decide +kernel
theorem dX8_nameHere_111 : decode cX8_nameHere 111 = .ok (.ireturn, 1) := by decide +kernel
theorem dX8_nameHere_112 : decode cX8_nameHere 112 = .ok (.iinc 1 1, 3) := by decide +kernel
theorem dX8_nameHere_115 : decode cX8_nameHere 115 = .ok (.goto (-113), 3) := by decide +kernel
theorem dX8_nameHere_118 : decode cX8_nameHere 118 = .ok (.bipush (-4), 2) := by decide +kernel
theorem dX8_nameHere_120 : decode cX8_nameHere 120 = .ok (.ireturn, 1) := by decide +kernel
theorem mkX8_nameHere : mokV qX8_nameHere 0 := ⟨⟨⟨⟨by decide, by decide, by decide +kernel⟩, by decide⟩, gd_mem 59 (by decide +kernel) (by decide +kernel), gd_mem 1029 (by decide +kernel) (by decide +kernel)⟩, gd_mem 1028 (by decide +kernel) (by decide +kernel), gd_mem 23 (by decide +kernel) (by decide +kernel)⟩
abbrev qX8_goesOn : mMI := (yX8_goesOn, cX8_goesOn, 2, none, 1)
theorem dX8_goesOn_0 : decode cX8_goesOn 0 = .ok (.aload_n 0, 1) := by decide +kernel
theorem dX8_goesOn_1 : decode cX8_goesOn 1 = .ok (.getfield 75, 3) := by decide +kernel
theorem dX8_goesOn_4 : decode cX8_goesOn 4 = .ok (.ifCond .le 4, 3) := by decide +kernel
theorem dX8_goesOn_7 : decode cX8_goesOn 7 = .ok (.return_, 1) := by decide +kernel
theorem dX8_goesOn_8 : decode cX8_goesOn 8 = .ok (.aload_n 0, 1) := by decide +kernel
theorem dX8_goesOn_9 : decode cX8_goesOn 9 = .ok (.aload_n 0, 1) := by decide +kernel
theorem dX8_goesOn_10 : decode cX8_goesOn 10 = .ok (.getfield 87, 3) := by decide +kernel
theorem dX8_goesOn_13 : decode cX8_goesOn 13 = .ok (.invokevirtual 90, 3) := by decide +kernel
theorem dX8_goesOn_16 : decode cX8_goesOn 16 = .ok (.bipush 32, 2) := by decide +kernel
theorem dX8_goesOn_18 : decode cX8_goesOn 18 = .ok (.if_icmp .ne 16, 3) := by decide +kernel
theorem dX8_goesOn_21 : decode cX8_goesOn 21 = .ok (.aload_n 0, 1) := by decide +kernel
theorem dX8_goesOn_22 : decode cX8_goesOn 22 = .ok (.dup, 1) := by decide +kernel
theorem dX8_goesOn_23 : decode cX8_goesOn 23 = .ok (.getfield 87, 3) := by decide +kernel
theorem dX8_goesOn_26 : decode cX8_goesOn 26 = .ok (.iconst 1, 1) := by decide +kernel
theorem dX8_goesOn_27 : decode cX8_goesOn 27 = .ok (.iadd, 1) := by decide +kernel
theorem dX8_goesOn_28 : decode cX8_goesOn 28 = .ok (.putfield 87, 3) := by decide +kernel
theorem dX8_goesOn_31 : decode cX8_goesOn 31 = .ok (.goto (-23), 3) := by decide +kernel
theorem dX8_goesOn_34 : decode cX8_goesOn 34 = .ok (.aload_n 0, 1) := by decide +kernel
theorem dX8_goesOn_35 : decode cX8_goesOn 35 = .ok (.aload_n 0, 1) := by decide +kernel
theorem dX8_goesOn_36 : decode cX8_goesOn 36 = .ok (.getfield 87, 3) := by decide +kernel
theorem dX8_goesOn_39 : decode cX8_goesOn 39 = .ok (.putfield 78, 3) := by decide +kernel
theorem dX8_goesOn_42 : decode cX8_goesOn 42 = .ok (.aload_n 0, 1) := by decide +kernel
theorem dX8_goesOn_43 : decode cX8_goesOn 43 = .ok (.aload_n 0, 1) := by decide +kernel
theorem dX8_goesOn_44 : decode cX8_goesOn 44 = .ok (.getfield 87, 3) := by decide +kernel
theorem dX8_goesOn_47 : decode cX8_goesOn 47 = .ok (.invokevirtual 90, 3) := by decide +kernel
theorem dX8_goesOn_50 : decode cX8_goesOn 50 = .ok (.istore_n 1, 1) := by decide +kernel
theorem dX8_goesOn_51 : decode cX8_goesOn 51 = .ok (.aload_n 0, 1) := by decide +kernel
theorem dX8_goesOn_52 : decode cX8_goesOn 52 = .ok (.iconst 0, 1) := by decide +kernel
theorem dX8_goesOn_53 : decode cX8_goesOn 53 = .ok (.putfield 94, 3) := by decide +kernel
theorem dX8_goesOn_56 : decode cX8_goesOn 56 = .ok (.iload_n 1, 1) := by decide +kernel
theorem dX8_goesOn_57 : decode cX8_goesOn 57 = .ok (.bipush (-4), 2) := by decide +kernel
theorem dX8_goesOn_59 : decode cX8_goesOn 59 = .ok (.if_icmp .ne 11, 3) := by decide +kernel
theorem dX8_goesOn_62 : decode cX8_goesOn 62 = .ok (.aload_n 0, 1) := by decide +kernel
theorem dX8_goesOn_63 : decode cX8_goesOn 63 = .ok (.iconst 0, 1) := by decide +kernel
theorem dX8_goesOn_64 : decode cX8_goesOn 64 = .ok (.putfield 84, 3) := by decide +kernel
theorem dX8_goesOn_67 : decode cX8_goesOn 67 = .ok (.goto 202, 3) := by decide +kernel
theorem dX8_goesOn_70 : decode cX8_goesOn 70 = .ok (.iload_n 1, 1) := by decide +kernel
theorem dX8_goesOn_71 : decode cX8_goesOn 71 = .ok (.i2l, 1) := by decide +kernel
theorem dX8_goesOn_72 : decode cX8_goesOn 72 = .ok (.ldc2_w 97, 3) := by decide +kernel
theorem dX8_goesOn_75 : decode cX8_goesOn 75 = .ok (.ldc2_w 99, 3) := by decide +kernel
theorem dX8_goesOn_78 : decode cX8_goesOn 78 = .ok (.invokestatic 67, 3) := by decide +kernel
theorem dX8_goesOn_81 : decode cX8_goesOn 81 = .ok (.ifCond .eq 45, 3) := by decide +kernel
theorem dX8_goesOn_84 : decode cX8_goesOn 84 = .ok (.aload_n 0, 1) := by decide +kernel
theorem dX8_goesOn_85 : decode cX8_goesOn 85 = .ok (.aload_n 0, 1) := by decide +kernel
theorem dX8_goesOn_86 : decode cX8_goesOn 86 = .ok (.getfield 87, 3) := by decide +kernel
theorem dX8_goesOn_89 : decode cX8_goesOn 89 = .ok (.invokevirtual 90, 3) := by decide +kernel
theorem dX8_goesOn_92 : decode cX8_goesOn 92 = .ok (.i2l, 1) := by decide +kernel
theorem dX8_goesOn_93 : decode cX8_goesOn 93 = .ok (.ldc2_w 97, 3) := by decide +kernel
theorem dX8_goesOn_96 : decode cX8_goesOn 96 = .ok (.ldc2_w 99, 3) := by decide +kernel
theorem dX8_goesOn_99 : decode cX8_goesOn 99 = .ok (.invokestatic 67, 3) := by decide +kernel
theorem dX8_goesOn_102 : decode cX8_goesOn 102 = .ok (.ifCond .eq 16, 3) := by decide +kernel
theorem dX8_goesOn_105 : decode cX8_goesOn 105 = .ok (.aload_n 0, 1) := by decide +kernel
theorem dX8_goesOn_106 : decode cX8_goesOn 106 = .ok (.dup, 1) := by decide +kernel
theorem dX8_goesOn_107 : decode cX8_goesOn 107 = .ok (.getfield 87, 3) := by decide +kernel
theorem dX8_goesOn_110 : decode cX8_goesOn 110 = .ok (.iconst 1, 1) := by decide +kernel
theorem dX8_goesOn_111 : decode cX8_goesOn 111 = .ok (.iadd, 1) := by decide +kernel
theorem dX8_goesOn_112 : decode cX8_goesOn 112 = .ok (.putfield 87, 3) := by decide +kernel
theorem dX8_goesOn_115 : decode cX8_goesOn 115 = .ok (.goto (-31), 3) := by decide +kernel
theorem dX8_goesOn_118 : decode cX8_goesOn 118 = .ok (.aload_n 0, 1) := by decide +kernel
theorem dX8_goesOn_119 : decode cX8_goesOn 119 = .ok (.iconst 1, 1) := by decide +kernel
theorem dX8_goesOn_120 : decode cX8_goesOn 120 = .ok (.putfield 84, 3) := by decide +kernel
theorem dX8_goesOn_123 : decode cX8_goesOn 123 = .ok (.goto 146, 3) := by decide +kernel
theorem dX8_goesOn_126 : decode cX8_goesOn 126 = .ok (.iload_n 1, 1) := by decide +kernel
theorem dX8_goesOn_127 : decode cX8_goesOn 127 = .ok (.i2l, 1) := by decide +kernel
theorem dX8_goesOn_128 : decode cX8_goesOn 128 = .ok (.ldc2_w 101, 3) := by decide +kernel
theorem dX8_goesOn_131 : decode cX8_goesOn 131 = .ok (.ldc2_w 103, 3) := by decide +kernel
theorem dX8_goesOn_134 : decode cX8_goesOn 134 = .ok (.invokestatic 67, 3) := by decide +kernel
theorem dX8_goesOn_137 : decode cX8_goesOn 137 = .ok (.ifCond .eq 106, 3) := by decide +kernel
theorem dX8_goesOn_140 : decode cX8_goesOn 140 = .ok (.aload_n 0, 1) := by decide +kernel
theorem dX8_goesOn_141 : decode cX8_goesOn 141 = .ok (.aload_n 0, 1) := by decide +kernel
theorem dX8_goesOn_142 : decode cX8_goesOn 142 = .ok (.getfield 87, 3) := by decide +kernel
theorem dX8_goesOn_145 : decode cX8_goesOn 145 = .ok (.invokevirtual 90, 3) := by decide +kernel
theorem dX8_goesOn_148 : decode cX8_goesOn 148 = .ok (.i2l, 1) := by decide +kernel
theorem dX8_goesOn_149 : decode cX8_goesOn 149 = .ok (.ldc2_w 101, 3) := by decide +kernel
theorem dX8_goesOn_152 : decode cX8_goesOn 152 = .ok (.ldc2_w 103, 3) := by decide +kernel
theorem dX8_goesOn_155 : decode cX8_goesOn 155 = .ok (.invokestatic 67, 3) := by decide +kernel
theorem dX8_goesOn_158 : decode cX8_goesOn 158 = .ok (.ifCond .eq 59, 3) := by decide +kernel
theorem dX8_goesOn_161 : decode cX8_goesOn 161 = .ok (.aload_n 0, 1) := by decide +kernel
theorem dX8_goesOn_162 : decode cX8_goesOn 162 = .ok (.aload_n 0, 1) := by decide +kernel
theorem dX8_goesOn_163 : decode cX8_goesOn 163 = .ok (.getfield 87, 3) := by decide +kernel
theorem dX8_goesOn_166 : decode cX8_goesOn 166 = .ok (.aload_n 0, 1) := by decide +kernel
theorem dX8_goesOn_167 : decode cX8_goesOn 167 = .ok (.getfield 78, 3) := by decide +kernel
theorem dX8_goesOn_170 : decode cX8_goesOn 170 = .ok (.isub, 1) := by decide +kernel
theorem dX8_goesOn_171 : decode cX8_goesOn 171 = .ok (.iconst 2, 1) := by decide +kernel
theorem dX8_goesOn_172 : decode cX8_goesOn 172 = .ok (.if_icmp .ge 25, 3) := by decide +kernel
theorem dX8_goesOn_175 : decode cX8_goesOn 175 = .ok (.bipush 10, 2) := by decide +kernel
theorem dX8_goesOn_177 : decode cX8_goesOn 177 = .ok (.aload_n 0, 1) := by decide +kernel
theorem dX8_goesOn_178 : decode cX8_goesOn 178 = .ok (.getfield 94, 3) := by decide +kernel
theorem dX8_goesOn_181 : decode cX8_goesOn 181 = .ok (.imul, 1) := by decide +kernel
theorem dX8_goesOn_182 : decode cX8_goesOn 182 = .ok (.aload_n 0, 1) := by decide +kernel
theorem dX8_goesOn_183 : decode cX8_goesOn 183 = .ok (.aload_n 0, 1) := by decide +kernel
theorem dX8_goesOn_184 : decode cX8_goesOn 184 = .ok (.getfield 87, 3) := by decide +kernel
theorem dX8_goesOn_187 : decode cX8_goesOn 187 = .ok (.invokevirtual 90, 3) := by decide +kernel
theorem dX8_goesOn_190 : decode cX8_goesOn 190 = .ok (.iadd, 1) := by decide +kernel
theorem dX8_goesOn_191 : decode cX8_goesOn 191 = .ok (.bipush 48, 2) := by decide +kernel
theorem dX8_goesOn_193 : decode cX8_goesOn 193 = .ok (.isub, 1) := by decide +kernel
theorem dX8_goesOn_194 : decode cX8_goesOn 194 = .ok (.goto 7, 3) := by decide +kernel
theorem dX8_goesOn_197 : decode cX8_goesOn 197 = .ok (.aload_n 0, 1) := by decide +kernel
theorem dX8_goesOn_198 : decode cX8_goesOn 198 = .ok (.getfield 94, 3) := by decide +kernel
theorem dX8_goesOn_201 : decode cX8_goesOn 201 = .ok (.putfield 94, 3) := by decide +kernel
theorem dX8_goesOn_204 : decode cX8_goesOn 204 = .ok (.aload_n 0, 1) := by decide +kernel
theorem dX8_goesOn_205 : decode cX8_goesOn 205 = .ok (.dup, 1) := by decide +kernel
theorem dX8_goesOn_206 : decode cX8_goesOn 206 = .ok (.getfield 87, 3) := by decide +kernel
theorem dX8_goesOn_209 : decode cX8_goesOn 209 = .ok (.iconst 1, 1) := by decide +kernel
theorem dX8_goesOn_210 : decode cX8_goesOn 210 = .ok (.iadd, 1) := by decide +kernel
theorem dX8_goesOn_211 : decode cX8_goesOn 211 = .ok (.putfield 87, 3) := by decide +kernel
theorem dX8_goesOn_214 : decode cX8_goesOn 214 = .ok (.goto (-74), 3) := by decide +kernel
theorem dX8_goesOn_217 : decode cX8_goesOn 217 = .ok (.aload_n 0, 1) := by decide +kernel
theorem dX8_goesOn_218 : decode cX8_goesOn 218 = .ok (.iconst 2, 1) := by decide +kernel
theorem dX8_goesOn_219 : decode cX8_goesOn 219 = .ok (.putfield 84, 3) := by decide +kernel
theorem dX8_goesOn_222 : decode cX8_goesOn 222 = .ok (.aload_n 0, 1) := by decide +kernel
theorem dX8_goesOn_223 : decode cX8_goesOn 223 = .ok (.getfield 87, 3) := by decide +kernel
theorem dX8_goesOn_226 : decode cX8_goesOn 226 = .ok (.aload_n 0, 1) := by decide +kernel
theorem dX8_goesOn_227 : decode cX8_goesOn 227 = .ok (.getfield 78, 3) := by decide +kernel
theorem dX8_goesOn_230 : decode cX8_goesOn 230 = .ok (.isub, 1) := by decide +kernel
theorem dX8_goesOn_231 : decode cX8_goesOn 231 = .ok (.iconst 2, 1) := by decide +kernel
theorem dX8_goesOn_232 : decode cX8_goesOn 232 = .ok (.if_icmp .le 37, 3) := by decide +kernel
theorem dX8_goesOn_235 : decode cX8_goesOn 235 = .ok (.aload_n 0, 1) := by decide +kernel
theorem dX8_goesOn_236 : decode cX8_goesOn 236 = .ok (.iconst 1, 1) := by decide +kernel
theorem dX8_goesOn_237 : decode cX8_goesOn 237 = .ok (.invokevirtual 105, 3) := by decide +kernel
theorem dX8_goesOn_240 : decode cX8_goesOn 240 = .ok (.goto 29, 3) := by decide +kernel
theorem dX8_goesOn_243 : decode cX8_goesOn 243 = .ok (.aload_n 0, 1) := by decide +kernel
theorem dX8_goesOn_244 : decode cX8_goesOn 244 = .ok (.iconst 3, 1) := by decide +kernel
theorem dX8_goesOn_245 : decode cX8_goesOn 245 = .ok (.putfield 84, 3) := by decide +kernel
theorem dX8_goesOn_248 : decode cX8_goesOn 248 = .ok (.aload_n 0, 1) := by decide +kernel
theorem dX8_goesOn_249 : decode cX8_goesOn 249 = .ok (.dup, 1) := by decide +kernel
theorem dX8_goesOn_250 : decode cX8_goesOn 250 = .ok (.getfield 87, 3) := by decide +kernel
theorem dX8_goesOn_253 : decode cX8_goesOn 253 = .ok (.iconst 1, 1) := by decide +kernel
theorem dX8_goesOn_254 : decode cX8_goesOn 254 = .ok (.iadd, 1) := by decide +kernel
theorem dX8_goesOn_255 : decode cX8_goesOn 255 = .ok (.putfield 87, 3) := by decide +kernel
theorem dX8_goesOn_258 : decode cX8_goesOn 258 = .ok (.iload_n 1, 1) := by decide +kernel
theorem dX8_goesOn_259 : decode cX8_goesOn 259 = .ok (.bipush 59, 2) := by decide +kernel
theorem dX8_goesOn_261 : decode cX8_goesOn 261 = .ok (.if_icmp .eq 8, 3) := by decide +kernel
theorem dX8_goesOn_264 : decode cX8_goesOn 264 = .ok (.aload_n 0, 1) := by decide +kernel
theorem dX8_goesOn_265 : decode cX8_goesOn 265 = .ok (.iconst 1, 1) := by decide +kernel
theorem dX8_goesOn_266 : decode cX8_goesOn 266 = .ok (.invokevirtual 105, 3) := by decide +kernel
theorem dX8_goesOn_269 : decode cX8_goesOn 269 = .ok (.return_, 1) := by decide +kernel
theorem mkX8_goesOn : mokV qX8_goesOn 0 := ⟨⟨⟨⟨by decide, by decide, by decide +kernel⟩, by decide⟩, gd_mem 59 (by decide +kernel) (by decide +kernel), gd_mem 1009 (by decide +kernel) (by decide +kernel)⟩, gd_mem 1008 (by decide +kernel) (by decide +kernel), gd_mem 19 (by decide +kernel) (by decide +kernel)⟩
abbrev qX8_isStep : mMI := (yX8_isStep, cX8_isStep, 2, (some .boolean), 1)
theorem dX8_isStep_0 : decode cX8_isStep 0 = .ok (.iload_n 1, 1) := by decide +kernel
theorem dX8_isStep_1 : decode cX8_isStep 1 = .ok (.i2l, 1) := by decide +kernel
theorem dX8_isStep_2 : decode cX8_isStep 2 = .ok (.lconst 0, 1) := by decide +kernel
theorem dX8_isStep_3 : decode cX8_isStep 3 = .ok (.aload_n 0, 1) := by decide +kernel
theorem dX8_isStep_4 : decode cX8_isStep 4 = .ok (.getfield 143, 3) := by decide +kernel
theorem dX8_isStep_7 : decode cX8_isStep 7 = .ok (.iconst 1, 1) := by decide +kernel
theorem dX8_isStep_8 : decode cX8_isStep 8 = .ok (.isub, 1) := by decide +kernel
theorem dX8_isStep_9 : decode cX8_isStep 9 = .ok (.i2l, 1) := by decide +kernel
theorem dX8_isStep_10 : decode cX8_isStep 10 = .ok (.invokestatic 67, 3) := by decide +kernel
theorem dX8_isStep_13 : decode cX8_isStep 13 = .ok (.ireturn, 1) := by decide +kernel
theorem mkX8_isStep : mokV qX8_isStep 1 := ⟨⟨⟨⟨by decide, by decide, by decide +kernel⟩, by decide⟩, gd_mem 59 (by decide +kernel) (by decide +kernel), gd_mem 1058 (by decide +kernel) (by decide +kernel)⟩, gd_mem 1057 (by decide +kernel) (by decide +kernel), gd_mem 27 (by decide +kernel) (by decide +kernel)⟩
abbrev qX8_isLodger : mMI := (yX8_isLodger, cX8_isLodger, 2, (some .boolean), 1)
theorem dX8_isLodger_0 : decode cX8_isLodger 0 = .ok (.iload_n 1, 1) := by decide +kernel
theorem dX8_isLodger_1 : decode cX8_isLodger 1 = .ok (.i2l, 1) := by decide +kernel
theorem dX8_isLodger_2 : decode cX8_isLodger 2 = .ok (.lconst 0, 1) := by decide +kernel
theorem dX8_isLodger_3 : decode cX8_isLodger 3 = .ok (.aload_n 0, 1) := by decide +kernel
theorem dX8_isLodger_4 : decode cX8_isLodger 4 = .ok (.getfield 146, 3) := by decide +kernel
theorem dX8_isLodger_7 : decode cX8_isLodger 7 = .ok (.iconst 1, 1) := by decide +kernel
theorem dX8_isLodger_8 : decode cX8_isLodger 8 = .ok (.isub, 1) := by decide +kernel
theorem dX8_isLodger_9 : decode cX8_isLodger 9 = .ok (.i2l, 1) := by decide +kernel
theorem dX8_isLodger_10 : decode cX8_isLodger 10 = .ok (.invokestatic 67, 3) := by decide +kernel
theorem dX8_isLodger_13 : decode cX8_isLodger 13 = .ok (.ireturn, 1) := by decide +kernel
theorem mkX8_isLodger : mokV qX8_isLodger 1 := ⟨⟨⟨⟨by decide, by decide, by decide +kernel⟩, by decide⟩, gd_mem 59 (by decide +kernel) (by decide +kernel), gd_mem 1074 (by decide +kernel) (by decide +kernel)⟩, gd_mem 1073 (by decide +kernel) (by decide +kernel), gd_mem 30 (by decide +kernel) (by decide +kernel)⟩
abbrev qX8_rule : mMI := (yX8_rule, cX8_rule, 2, (some .int), 1)
theorem dX8_rule_0 : decode cX8_rule 0 = .ok (.iload_n 1, 1) := by decide +kernel
theorem dX8_rule_1 : decode cX8_rule 1 = .ok (.tableswitch 69 0 4 #[35, 40, 45, 55, 61], 35) := by decide +kernel
theorem dX8_rule_36 : decode cX8_rule 36 = .ok (.aload_n 0, 1) := by decide +kernel
theorem dX8_rule_37 : decode cX8_rule 37 = .ok (.getfield 143, 3) := by decide +kernel
theorem dX8_rule_40 : decode cX8_rule 40 = .ok (.ireturn, 1) := by decide +kernel
theorem dX8_rule_41 : decode cX8_rule 41 = .ok (.aload_n 0, 1) := by decide +kernel
theorem dX8_rule_42 : decode cX8_rule 42 = .ok (.getfield 146, 3) := by decide +kernel
theorem dX8_rule_45 : decode cX8_rule 45 = .ok (.ireturn, 1) := by decide +kernel
theorem dX8_rule_46 : decode cX8_rule 46 = .ok (.aload_n 0, 1) := by decide +kernel
theorem dX8_rule_47 : decode cX8_rule 47 = .ok (.getfield 7, 3) := by decide +kernel
theorem dX8_rule_50 : decode cX8_rule 50 = .ok (.bipush 32, 2) := by decide +kernel
theorem dX8_rule_52 : decode cX8_rule 52 = .ok (.iaload, 1) := by decide +kernel
theorem dX8_rule_53 : decode cX8_rule 53 = .ok (.iconst 1, 1) := by decide +kernel
theorem dX8_rule_54 : decode cX8_rule 54 = .ok (.iadd, 1) := by decide +kernel
theorem dX8_rule_55 : decode cX8_rule 55 = .ok (.ireturn, 1) := by decide +kernel
theorem dX8_rule_56 : decode cX8_rule 56 = .ok (.aload_n 0, 1) := by decide +kernel
theorem dX8_rule_57 : decode cX8_rule 57 = .ok (.iconst 0, 1) := by decide +kernel
theorem dX8_rule_58 : decode cX8_rule 58 = .ok (.invokevirtual 152, 3) := by decide +kernel
theorem dX8_rule_61 : decode cX8_rule 61 = .ok (.ireturn, 1) := by decide +kernel
theorem dX8_rule_62 : decode cX8_rule 62 = .ok (.aload_n 0, 1) := by decide +kernel
theorem dX8_rule_63 : decode cX8_rule 63 = .ok (.getfield 7, 3) := by decide +kernel
theorem dX8_rule_66 : decode cX8_rule 66 = .ok (.bipush 34, 2) := by decide +kernel
theorem dX8_rule_68 : decode cX8_rule 68 = .ok (.iaload, 1) := by decide +kernel
theorem dX8_rule_69 : decode cX8_rule 69 = .ok (.ireturn, 1) := by decide +kernel
theorem dX8_rule_70 : decode cX8_rule 70 = .ok (.iconst (-1), 1) := by decide +kernel
theorem dX8_rule_71 : decode cX8_rule 71 = .ok (.ireturn, 1) := by decide +kernel
theorem mkX8_rule : mokV qX8_rule 1 := ⟨⟨⟨⟨by decide, by decide, by decide +kernel⟩, by decide⟩, gd_mem 59 (by decide +kernel) (by decide +kernel), gd_mem 1046 (by decide +kernel) (by decide +kernel)⟩, gd_mem 1044 (by decide +kernel) (by decide +kernel), gd_mem 1045 (by decide +kernel) (by decide +kernel)⟩
abbrev qX8_isBroken : mMI := (yX8_isBroken, cX8_isBroken, 3, (some .boolean), 1)
theorem dX8_isBroken_0 : decode cX8_isBroken 0 = .ok (.aload_n 0, 1) := by decide +kernel
theorem dX8_isBroken_1 : decode cX8_isBroken 1 = .ok (.getfield 155, 3) := by decide +kernel
theorem dX8_isBroken_4 : decode cX8_isBroken 4 = .ok (.iload_n 2, 1) := by decide +kernel
theorem dX8_isBroken_5 : decode cX8_isBroken 5 = .ok (.ishr, 1) := by decide +kernel
theorem dX8_isBroken_6 : decode cX8_isBroken 6 = .ok (.iconst 1, 1) := by decide +kernel
theorem dX8_isBroken_7 : decode cX8_isBroken 7 = .ok (.iand, 1) := by decide +kernel
theorem dX8_isBroken_8 : decode cX8_isBroken 8 = .ok (.iconst 1, 1) := by decide +kernel
theorem dX8_isBroken_9 : decode cX8_isBroken 9 = .ok (.if_icmp .eq 23, 3) := by decide +kernel
theorem dX8_isBroken_12 : decode cX8_isBroken 12 = .ok (.aload_n 0, 1) := by decide +kernel
theorem dX8_isBroken_13 : decode cX8_isBroken 13 = .ok (.getfield 7, 3) := by decide +kernel
theorem dX8_isBroken_16 : decode cX8_isBroken 16 = .ok (.iload_n 1, 1) := by decide +kernel
theorem dX8_isBroken_17 : decode cX8_isBroken 17 = .ok (.iconst 2, 1) := by decide +kernel
theorem dX8_isBroken_18 : decode cX8_isBroken 18 = .ok (.iload_n 2, 1) := by decide +kernel
theorem dX8_isBroken_19 : decode cX8_isBroken 19 = .ok (.imul, 1) := by decide +kernel
theorem dX8_isBroken_20 : decode cX8_isBroken 20 = .ok (.iadd, 1) := by decide +kernel
theorem dX8_isBroken_21 : decode cX8_isBroken 21 = .ok (.iconst 1, 1) := by decide +kernel
theorem dX8_isBroken_22 : decode cX8_isBroken 22 = .ok (.iadd, 1) := by decide +kernel
theorem dX8_isBroken_23 : decode cX8_isBroken 23 = .ok (.iaload, 1) := by decide +kernel
theorem dX8_isBroken_24 : decode cX8_isBroken 24 = .ok (.aload_n 0, 1) := by decide +kernel
theorem dX8_isBroken_25 : decode cX8_isBroken 25 = .ok (.iload_n 1, 1) := by decide +kernel
theorem dX8_isBroken_26 : decode cX8_isBroken 26 = .ok (.invokevirtual 152, 3) := by decide +kernel
theorem dX8_isBroken_29 : decode cX8_isBroken 29 = .ok (.if_icmp .lt 7, 3) := by decide +kernel
theorem dX8_isBroken_32 : decode cX8_isBroken 32 = .ok (.iconst 1, 1) := by decide +kernel
theorem dX8_isBroken_33 : decode cX8_isBroken 33 = .ok (.goto 4, 3) := by decide +kernel
theorem dX8_isBroken_36 : decode cX8_isBroken 36 = .ok (.iconst 0, 1) := by decide +kernel
theorem dX8_isBroken_37 : decode cX8_isBroken 37 = .ok (.ireturn, 1) := by decide +kernel
theorem mkX8_isBroken : mokV qX8_isBroken 2 := ⟨⟨⟨⟨by decide, by decide, by decide +kernel⟩, by decide⟩, gd_mem 59 (by decide +kernel) (by decide +kernel), gd_mem 1066 (by decide +kernel) (by decide +kernel)⟩, gd_mem 1065 (by decide +kernel) (by decide +kernel), gd_mem 29 (by decide +kernel) (by decide +kernel)⟩
abbrev qX8_reachOn : mMI := (yX8_reachOn, cX8_reachOn, 4, (some .int), 1)
theorem dX8_reachOn_0 : decode cX8_reachOn 0 = .ok (.aload_n 0, 1) := by decide +kernel
theorem dX8_reachOn_1 : decode cX8_reachOn 1 = .ok (.getfield 16, 3) := by decide +kernel
theorem dX8_reachOn_4 : decode cX8_reachOn 4 = .ok (.iload_n 2, 1) := by decide +kernel
theorem dX8_reachOn_5 : decode cX8_reachOn 5 = .ok (.iaload, 1) := by decide +kernel
theorem dX8_reachOn_6 : decode cX8_reachOn 6 = .ok (.aload_n 0, 1) := by decide +kernel
theorem dX8_reachOn_7 : decode cX8_reachOn 7 = .ok (.iload_n 1, 1) := by decide +kernel
theorem dX8_reachOn_8 : decode cX8_reachOn 8 = .ok (.iload_n 2, 1) := by decide +kernel
theorem dX8_reachOn_9 : decode cX8_reachOn 9 = .ok (.invokevirtual 165, 3) := by decide +kernel
theorem dX8_reachOn_12 : decode cX8_reachOn 12 = .ok (.ifCond .eq 7, 3) := by decide +kernel
theorem dX8_reachOn_15 : decode cX8_reachOn 15 = .ok (.iconst 1, 1) := by decide +kernel
theorem dX8_reachOn_16 : decode cX8_reachOn 16 = .ok (.goto 4, 3) := by decide +kernel
theorem dX8_reachOn_19 : decode cX8_reachOn 19 = .ok (.iconst 0, 1) := by decide +kernel
theorem dX8_reachOn_20 : decode cX8_reachOn 20 = .ok (.isub, 1) := by decide +kernel
theorem dX8_reachOn_21 : decode cX8_reachOn 21 = .ok (.istore_n 3, 1) := by decide +kernel
theorem dX8_reachOn_22 : decode cX8_reachOn 22 = .ok (.iload_n 3, 1) := by decide +kernel
theorem dX8_reachOn_23 : decode cX8_reachOn 23 = .ok (.iconst 1, 1) := by decide +kernel
theorem dX8_reachOn_24 : decode cX8_reachOn 24 = .ok (.if_icmp .ge 7, 3) := by decide +kernel
theorem dX8_reachOn_27 : decode cX8_reachOn 27 = .ok (.iconst 1, 1) := by decide +kernel
theorem dX8_reachOn_28 : decode cX8_reachOn 28 = .ok (.goto 4, 3) := by decide +kernel
theorem dX8_reachOn_31 : decode cX8_reachOn 31 = .ok (.iload_n 3, 1) := by decide +kernel
theorem dX8_reachOn_32 : decode cX8_reachOn 32 = .ok (.ireturn, 1) := by decide +kernel
theorem mkX8_reachOn : mokV qX8_reachOn 2 := ⟨⟨⟨⟨by decide, by decide, by decide +kernel⟩, by decide⟩, gd_mem 59 (by decide +kernel) (by decide +kernel), gd_mem 1078 (by decide +kernel) (by decide +kernel)⟩, gd_mem 1077 (by decide +kernel) (by decide +kernel), gd_mem 31 (by decide +kernel) (by decide +kernel)⟩
abbrev qX8_law : mMI := (yX8_law, cX8_law, 3, (some .int), 1)
theorem dX8_law_0 : decode cX8_law 0 = .ok (.iload_n 1, 1) := by decide +kernel
theorem dX8_law_1 : decode cX8_law 1 = .ok (.ifCond .ne 32, 3) := by decide +kernel
theorem dX8_law_4 : decode cX8_law 4 = .ok (.iload_n 2, 1) := by decide +kernel
theorem dX8_law_5 : decode cX8_law 5 = .ok (.i2l, 1) := by decide +kernel
theorem dX8_law_6 : decode cX8_law 6 = .ok (.lconst 0, 1) := by decide +kernel
theorem dX8_law_7 : decode cX8_law 7 = .ok (.ldc2_w 193, 3) := by decide +kernel
theorem dX8_law_10 : decode cX8_law 10 = .ok (.invokestatic 67, 3) := by decide +kernel
theorem dX8_law_13 : decode cX8_law 13 = .ok (.ifCond .eq 18, 3) := by decide +kernel
theorem dX8_law_16 : decode cX8_law 16 = .ok (.iconst 1, 1) := by decide +kernel
theorem dX8_law_17 : decode cX8_law 17 = .ok (.aload_n 0, 1) := by decide +kernel
theorem dX8_law_18 : decode cX8_law 18 = .ok (.iconst 1, 1) := by decide +kernel
theorem dX8_law_19 : decode cX8_law 19 = .ok (.bipush 32, 2) := by decide +kernel
theorem dX8_law_21 : decode cX8_law 21 = .ok (.iload_n 2, 1) := by decide +kernel
theorem dX8_law_22 : decode cX8_law 22 = .ok (.iconst 1, 1) := by decide +kernel
theorem dX8_law_23 : decode cX8_law 23 = .ok (.isub, 1) := by decide +kernel
theorem dX8_law_24 : decode cX8_law 24 = .ok (.invokevirtual 187, 3) := by decide +kernel
theorem dX8_law_27 : decode cX8_law 27 = .ok (.iadd, 1) := by decide +kernel
theorem dX8_law_28 : decode cX8_law 28 = .ok (.goto 4, 3) := by decide +kernel
theorem dX8_law_31 : decode cX8_law 31 = .ok (.iconst (-1), 1) := by decide +kernel
theorem dX8_law_32 : decode cX8_law 32 = .ok (.ireturn, 1) := by decide +kernel
theorem dX8_law_33 : decode cX8_law 33 = .ok (.iload_n 1, 1) := by decide +kernel
theorem dX8_law_34 : decode cX8_law 34 = .ok (.iconst 1, 1) := by decide +kernel
theorem dX8_law_35 : decode cX8_law 35 = .ok (.if_icmp .ne 32, 3) := by decide +kernel
theorem dX8_law_38 : decode cX8_law 38 = .ok (.iload_n 2, 1) := by decide +kernel
theorem dX8_law_39 : decode cX8_law 39 = .ok (.i2l, 1) := by decide +kernel
theorem dX8_law_40 : decode cX8_law 40 = .ok (.lconst 1, 1) := by decide +kernel
theorem dX8_law_41 : decode cX8_law 41 = .ok (.ldc2_w 191, 3) := by decide +kernel
theorem dX8_law_44 : decode cX8_law 44 = .ok (.invokestatic 67, 3) := by decide +kernel
theorem dX8_law_47 : decode cX8_law 47 = .ok (.ifCond .eq 20, 3) := by decide +kernel
theorem dX8_law_50 : decode cX8_law 50 = .ok (.bipush 30, 2) := by decide +kernel
theorem dX8_law_52 : decode cX8_law 52 = .ok (.aload_n 0, 1) := by decide +kernel
theorem dX8_law_53 : decode cX8_law 53 = .ok (.iconst 1, 1) := by decide +kernel
theorem dX8_law_54 : decode cX8_law 54 = .ok (.bipush 33, 2) := by decide +kernel
theorem dX8_law_56 : decode cX8_law 56 = .ok (.iload_n 2, 1) := by decide +kernel
theorem dX8_law_57 : decode cX8_law 57 = .ok (.bipush 30, 2) := by decide +kernel
theorem dX8_law_59 : decode cX8_law 59 = .ok (.isub, 1) := by decide +kernel
theorem dX8_law_60 : decode cX8_law 60 = .ok (.invokevirtual 187, 3) := by decide +kernel
theorem dX8_law_63 : decode cX8_law 63 = .ok (.iadd, 1) := by decide +kernel
theorem dX8_law_64 : decode cX8_law 64 = .ok (.goto 4, 3) := by decide +kernel
theorem dX8_law_67 : decode cX8_law 67 = .ok (.iconst (-1), 1) := by decide +kernel
theorem dX8_law_68 : decode cX8_law 68 = .ok (.ireturn, 1) := by decide +kernel
theorem mkX8_law : mokV qX8_law 2 := ⟨⟨⟨⟨by decide, by decide, by decide +kernel⟩, by decide⟩, gd_mem 59 (by decide +kernel) (by decide +kernel), gd_mem 1126 (by decide +kernel) (by decide +kernel)⟩, gd_mem 1124 (by decide +kernel) (by decide +kernel), gd_mem 1125 (by decide +kernel) (by decide +kernel)⟩
abbrev qX8_year : mMI := (yX8_year, cX8_year, 4, (some .int), 1)
theorem dX8_year_0 : decode cX8_year 0 = .ok (.iconst 0, 1) := by decide +kernel
theorem dX8_year_1 : decode cX8_year 1 = .ok (.istore_n 1, 1) := by decide +kernel
theorem dX8_year_2 : decode cX8_year 2 = .ok (.iconst 0, 1) := by decide +kernel
theorem dX8_year_3 : decode cX8_year 3 = .ok (.istore_n 2, 1) := by decide +kernel
theorem dX8_year_4 : decode cX8_year 4 = .ok (.iload_n 2, 1) := by decide +kernel
theorem dX8_year_5 : decode cX8_year 5 = .ok (.aload_n 0, 1) := by decide +kernel
theorem dX8_year_6 : decode cX8_year 6 = .ok (.getfield 143, 3) := by decide +kernel
theorem dX8_year_9 : decode cX8_year 9 = .ok (.if_icmp .ge 63, 3) := by decide +kernel
theorem dX8_year_12 : decode cX8_year 12 = .ok (.aload_n 0, 1) := by decide +kernel
theorem dX8_year_13 : decode cX8_year 13 = .ok (.iconst 0, 1) := by decide +kernel
theorem dX8_year_14 : decode cX8_year 14 = .ok (.iload_n 2, 1) := by decide +kernel
theorem dX8_year_15 : decode cX8_year 15 = .ok (.invokevirtual 162, 3) := by decide +kernel
theorem dX8_year_18 : decode cX8_year 18 = .ok (.istore_n 3, 1) := by decide +kernel
theorem dX8_year_19 : decode cX8_year 19 = .ok (.aload_n 0, 1) := by decide +kernel
theorem dX8_year_20 : decode cX8_year 20 = .ok (.getfield 7, 3) := by decide +kernel
theorem dX8_year_23 : decode cX8_year 23 = .ok (.iconst 2, 1) := by decide +kernel
theorem dX8_year_24 : decode cX8_year 24 = .ok (.iload_n 2, 1) := by decide +kernel
theorem dX8_year_25 : decode cX8_year 25 = .ok (.imul, 1) := by decide +kernel
theorem dX8_year_26 : decode cX8_year 26 = .ok (.dup2, 1) := by decide +kernel
theorem dX8_year_27 : decode cX8_year 27 = .ok (.iaload, 1) := by decide +kernel
theorem dX8_year_28 : decode cX8_year 28 = .ok (.aload_n 0, 1) := by decide +kernel
theorem dX8_year_29 : decode cX8_year 29 = .ok (.getfield 7, 3) := by decide +kernel
theorem dX8_year_32 : decode cX8_year 32 = .ok (.iconst 2, 1) := by decide +kernel
theorem dX8_year_33 : decode cX8_year 33 = .ok (.iload_n 2, 1) := by decide +kernel
theorem dX8_year_34 : decode cX8_year 34 = .ok (.imul, 1) := by decide +kernel
theorem dX8_year_35 : decode cX8_year 35 = .ok (.iaload, 1) := by decide +kernel
theorem dX8_year_36 : decode cX8_year 36 = .ok (.bipush 60, 2) := by decide +kernel
theorem dX8_year_38 : decode cX8_year 38 = .ok (.if_icmp .ge 7, 3) := by decide +kernel
theorem dX8_year_41 : decode cX8_year 41 = .ok (.iconst 1, 1) := by decide +kernel
theorem dX8_year_42 : decode cX8_year 42 = .ok (.goto 4, 3) := by decide +kernel
theorem dX8_year_45 : decode cX8_year 45 = .ok (.iconst 0, 1) := by decide +kernel
theorem dX8_year_46 : decode cX8_year 46 = .ok (.iadd, 1) := by decide +kernel
theorem dX8_year_47 : decode cX8_year 47 = .ok (.iastore, 1) := by decide +kernel
theorem dX8_year_48 : decode cX8_year 48 = .ok (.iload_n 1, 1) := by decide +kernel
theorem dX8_year_49 : decode cX8_year 49 = .ok (.aload_n 0, 1) := by decide +kernel
theorem dX8_year_50 : decode cX8_year 50 = .ok (.iconst 0, 1) := by decide +kernel
theorem dX8_year_51 : decode cX8_year 51 = .ok (.iload_n 2, 1) := by decide +kernel
theorem dX8_year_52 : decode cX8_year 52 = .ok (.invokevirtual 162, 3) := by decide +kernel
theorem dX8_year_55 : decode cX8_year 55 = .ok (.iload_n 3, 1) := by decide +kernel
theorem dX8_year_56 : decode cX8_year 56 = .ok (.if_icmp .eq 7, 3) := by decide +kernel
theorem dX8_year_59 : decode cX8_year 59 = .ok (.iconst 1, 1) := by decide +kernel
theorem dX8_year_60 : decode cX8_year 60 = .ok (.goto 4, 3) := by decide +kernel
theorem dX8_year_63 : decode cX8_year 63 = .ok (.iconst 0, 1) := by decide +kernel
theorem dX8_year_64 : decode cX8_year 64 = .ok (.iadd, 1) := by decide +kernel
theorem dX8_year_65 : decode cX8_year 65 = .ok (.istore_n 1, 1) := by decide +kernel
theorem dX8_year_66 : decode cX8_year 66 = .ok (.iinc 2 1, 3) := by decide +kernel
theorem dX8_year_69 : decode cX8_year 69 = .ok (.goto (-65), 3) := by decide +kernel
theorem dX8_year_72 : decode cX8_year 72 = .ok (.iload_n 1, 1) := by decide +kernel
theorem dX8_year_73 : decode cX8_year 73 = .ok (.ireturn, 1) := by decide +kernel
theorem mkX8_year : mokV qX8_year 0 := ⟨⟨⟨⟨by decide, by decide, by decide +kernel⟩, by decide⟩, gd_mem 59 (by decide +kernel) (by decide +kernel), gd_mem 1130 (by decide +kernel) (by decide +kernel)⟩, gd_mem 1128 (by decide +kernel) (by decide +kernel), gd_mem 1129 (by decide +kernel) (by decide +kernel)⟩
abbrev qX8_forget : mMI := (yX8_forget, cX8_forget, 3, (some .int), 1)
theorem dX8_forget_0 : decode cX8_forget 0 = .ok (.iload_n 1, 1) := by decide +kernel
theorem dX8_forget_1 : decode cX8_forget 1 = .ok (.i2l, 1) := by decide +kernel
theorem dX8_forget_2 : decode cX8_forget 2 = .ok (.lconst 0, 1) := by decide +kernel
theorem dX8_forget_3 : decode cX8_forget 3 = .ok (.aload_n 0, 1) := by decide +kernel
theorem dX8_forget_4 : decode cX8_forget 4 = .ok (.getfield 149, 3) := by decide +kernel
theorem dX8_forget_7 : decode cX8_forget 7 = .ok (.i2l, 1) := by decide +kernel
theorem dX8_forget_8 : decode cX8_forget 8 = .ok (.invokestatic 67, 3) := by decide +kernel
theorem dX8_forget_11 : decode cX8_forget 11 = .ok (.ifCond .ne 5, 3) := by decide +kernel
theorem dX8_forget_14 : decode cX8_forget 14 = .ok (.iconst (-1), 1) := by decide +kernel
theorem dX8_forget_15 : decode cX8_forget 15 = .ok (.ireturn, 1) := by decide +kernel
theorem dX8_forget_16 : decode cX8_forget 16 = .ok (.aload_n 0, 1) := by decide +kernel
theorem dX8_forget_17 : decode cX8_forget 17 = .ok (.getfield 149, 3) := by decide +kernel
theorem dX8_forget_20 : decode cX8_forget 20 = .ok (.istore_n 2, 1) := by decide +kernel
theorem dX8_forget_21 : decode cX8_forget 21 = .ok (.aload_n 0, 1) := by decide +kernel
theorem dX8_forget_22 : decode cX8_forget 22 = .ok (.iload_n 1, 1) := by decide +kernel
theorem dX8_forget_23 : decode cX8_forget 23 = .ok (.putfield 149, 3) := by decide +kernel
theorem dX8_forget_26 : decode cX8_forget 26 = .ok (.iload_n 2, 1) := by decide +kernel
theorem dX8_forget_27 : decode cX8_forget 27 = .ok (.ireturn, 1) := by decide +kernel
theorem mkX8_forget : mokV qX8_forget 1 := ⟨⟨⟨⟨by decide, by decide, by decide +kernel⟩, by decide⟩, gd_mem 59 (by decide +kernel) (by decide +kernel), gd_mem 1256 (by decide +kernel) (by decide +kernel)⟩, gd_mem 1254 (by decide +kernel) (by decide +kernel), gd_mem 1255 (by decide +kernel) (by decide +kernel)⟩
abbrev qX8_keep : mMI := (yX8_keep, cX8_keep, 3, (some .int), 1)
theorem dX8_keep_0 : decode cX8_keep 0 = .ok (.iload_n 1, 1) := by decide +kernel
theorem dX8_keep_1 : decode cX8_keep 1 = .ok (.i2l, 1) := by decide +kernel
theorem dX8_keep_2 : decode cX8_keep 2 = .ok (.lconst 0, 1) := by decide +kernel
theorem dX8_keep_3 : decode cX8_keep 3 = .ok (.lconst 1, 1) := by decide +kernel
theorem dX8_keep_4 : decode cX8_keep 4 = .ok (.invokestatic 67, 3) := by decide +kernel
theorem dX8_keep_7 : decode cX8_keep 7 = .ok (.ifCond .ne 5, 3) := by decide +kernel
theorem dX8_keep_10 : decode cX8_keep 10 = .ok (.iconst (-1), 1) := by decide +kernel
theorem dX8_keep_11 : decode cX8_keep 11 = .ok (.ireturn, 1) := by decide +kernel
theorem dX8_keep_12 : decode cX8_keep 12 = .ok (.aload_n 0, 1) := by decide +kernel
theorem dX8_keep_13 : decode cX8_keep 13 = .ok (.iconst 0, 1) := by decide +kernel
theorem dX8_keep_14 : decode cX8_keep 14 = .ok (.bipush 35, 2) := by decide +kernel
theorem dX8_keep_16 : decode cX8_keep 16 = .ok (.iload_n 1, 1) := by decide +kernel
theorem dX8_keep_17 : decode cX8_keep 17 = .ok (.iconst 1, 1) := by decide +kernel
theorem dX8_keep_18 : decode cX8_keep 18 = .ok (.iadd, 1) := by decide +kernel
theorem dX8_keep_19 : decode cX8_keep 19 = .ok (.imul, 1) := by decide +kernel
theorem dX8_keep_20 : decode cX8_keep 20 = .ok (.invokevirtual 223, 3) := by decide +kernel
theorem dX8_keep_23 : decode cX8_keep 23 = .ok (.aload_n 0, 1) := by decide +kernel
theorem dX8_keep_24 : decode cX8_keep 24 = .ok (.getfield 52, 3) := by decide +kernel
theorem dX8_keep_27 : decode cX8_keep 27 = .ok (.iload_n 1, 1) := by decide +kernel
theorem dX8_keep_28 : decode cX8_keep 28 = .ok (.baload, 1) := by decide +kernel
theorem dX8_keep_29 : decode cX8_keep 29 = .ok (.ifCond .eq 7, 3) := by decide +kernel
theorem dX8_keep_32 : decode cX8_keep 32 = .ok (.iconst 1, 1) := by decide +kernel
theorem dX8_keep_33 : decode cX8_keep 33 = .ok (.goto 4, 3) := by decide +kernel
theorem dX8_keep_36 : decode cX8_keep 36 = .ok (.iconst 0, 1) := by decide +kernel
theorem dX8_keep_37 : decode cX8_keep 37 = .ok (.istore_n 2, 1) := by decide +kernel
theorem dX8_keep_38 : decode cX8_keep 38 = .ok (.aload_n 0, 1) := by decide +kernel
theorem dX8_keep_39 : decode cX8_keep 39 = .ok (.getfield 52, 3) := by decide +kernel
theorem dX8_keep_42 : decode cX8_keep 42 = .ok (.iload_n 1, 1) := by decide +kernel
theorem dX8_keep_43 : decode cX8_keep 43 = .ok (.iconst 1, 1) := by decide +kernel
theorem dX8_keep_44 : decode cX8_keep 44 = .ok (.bastore, 1) := by decide +kernel
theorem dX8_keep_45 : decode cX8_keep 45 = .ok (.iload_n 2, 1) := by decide +kernel
theorem dX8_keep_46 : decode cX8_keep 46 = .ok (.ireturn, 1) := by decide +kernel
theorem mkX8_keep : mokV qX8_keep 1 := ⟨⟨⟨⟨by decide, by decide, by decide +kernel⟩, by decide⟩, gd_mem 59 (by decide +kernel) (by decide +kernel), gd_mem 1285 (by decide +kernel) (by decide +kernel)⟩, gd_mem 1283 (by decide +kernel) (by decide +kernel), gd_mem 1284 (by decide +kernel) (by decide +kernel)⟩
abbrev qX8_back : mMI := (yX8_back, cX8_back, 2, (some .int), 1)
theorem dX8_back_0 : decode cX8_back 0 = .ok (.iload_n 1, 1) := by decide +kernel
theorem dX8_back_1 : decode cX8_back 1 = .ok (.i2l, 1) := by decide +kernel
theorem dX8_back_2 : decode cX8_back 2 = .ok (.lconst 0, 1) := by decide +kernel
theorem dX8_back_3 : decode cX8_back 3 = .ok (.lconst 1, 1) := by decide +kernel
theorem dX8_back_4 : decode cX8_back 4 = .ok (.invokestatic 67, 3) := by decide +kernel
theorem dX8_back_7 : decode cX8_back 7 = .ok (.ifCond .ne 5, 3) := by decide +kernel
theorem dX8_back_10 : decode cX8_back 10 = .ok (.iconst (-1), 1) := by decide +kernel
theorem dX8_back_11 : decode cX8_back 11 = .ok (.ireturn, 1) := by decide +kernel
theorem dX8_back_12 : decode cX8_back 12 = .ok (.aload_n 0, 1) := by decide +kernel
theorem dX8_back_13 : decode cX8_back 13 = .ok (.getfield 52, 3) := by decide +kernel
theorem dX8_back_16 : decode cX8_back 16 = .ok (.iload_n 1, 1) := by decide +kernel
theorem dX8_back_17 : decode cX8_back 17 = .ok (.baload, 1) := by decide +kernel
theorem dX8_back_18 : decode cX8_back 18 = .ok (.ifCond .ne 6, 3) := by decide +kernel
theorem dX8_back_21 : decode cX8_back 21 = .ok (.bipush (-2), 2) := by decide +kernel
theorem dX8_back_23 : decode cX8_back 23 = .ok (.ireturn, 1) := by decide +kernel
theorem dX8_back_24 : decode cX8_back 24 = .ok (.aload_n 0, 1) := by decide +kernel
theorem dX8_back_25 : decode cX8_back 25 = .ok (.bipush 35, 2) := by decide +kernel
theorem dX8_back_27 : decode cX8_back 27 = .ok (.iload_n 1, 1) := by decide +kernel
theorem dX8_back_28 : decode cX8_back 28 = .ok (.iconst 1, 1) := by decide +kernel
theorem dX8_back_29 : decode cX8_back 29 = .ok (.iadd, 1) := by decide +kernel
theorem dX8_back_30 : decode cX8_back 30 = .ok (.imul, 1) := by decide +kernel
theorem dX8_back_31 : decode cX8_back 31 = .ok (.iconst 0, 1) := by decide +kernel
theorem dX8_back_32 : decode cX8_back 32 = .ok (.invokevirtual 223, 3) := by decide +kernel
theorem dX8_back_35 : decode cX8_back 35 = .ok (.aload_n 0, 1) := by decide +kernel
theorem dX8_back_36 : decode cX8_back 36 = .ok (.getfield 7, 3) := by decide +kernel
theorem dX8_back_39 : decode cX8_back 39 = .ok (.bipush 34, 2) := by decide +kernel
theorem dX8_back_41 : decode cX8_back 41 = .ok (.iaload, 1) := by decide +kernel
theorem dX8_back_42 : decode cX8_back 42 = .ok (.ireturn, 1) := by decide +kernel
theorem mkX8_back : mokV qX8_back 1 := ⟨⟨⟨⟨by decide, by decide, by decide +kernel⟩, by decide⟩, gd_mem 59 (by decide +kernel) (by decide +kernel), gd_mem 1289 (by decide +kernel) (by decide +kernel)⟩, gd_mem 1287 (by decide +kernel) (by decide +kernel), gd_mem 1288 (by decide +kernel) (by decide +kernel)⟩
abbrev qX8_sheet : mMI := (yX8_sheet, cX8_sheet, 5, (some .int), 1)
theorem dX8_sheet_0 : decode cX8_sheet 0 = .ok (.iload_n 1, 1) := by decide +kernel
theorem dX8_sheet_1 : decode cX8_sheet 1 = .ok (.i2l, 1) := by decide +kernel
theorem dX8_sheet_2 : decode cX8_sheet 2 = .ok (.lconst 0, 1) := by decide +kernel
theorem dX8_sheet_3 : decode cX8_sheet 3 = .ok (.ldc2_w 193, 3) := by decide +kernel
theorem dX8_sheet_6 : decode cX8_sheet 6 = .ok (.invokestatic 67, 3) := by decide +kernel
theorem dX8_sheet_9 : decode cX8_sheet 9 = .ok (.ifCond .eq 21, 3) := by decide +kernel
theorem dX8_sheet_12 : decode cX8_sheet 12 = .ok (.iload_n 2, 1) := by decide +kernel
theorem dX8_sheet_13 : decode cX8_sheet 13 = .ok (.i2l, 1) := by decide +kernel
theorem dX8_sheet_14 : decode cX8_sheet 14 = .ok (.lconst 0, 1) := by decide +kernel
theorem dX8_sheet_15 : decode cX8_sheet 15 = .ok (.ldc2_w 257, 3) := by decide +kernel
theorem dX8_sheet_18 : decode cX8_sheet 18 = .ok (.invokestatic 67, 3) := by decide +kernel
theorem dX8_sheet_21 : decode cX8_sheet 21 = .ok (.ifCond .eq 9, 3) := by decide +kernel
theorem dX8_sheet_24 : decode cX8_sheet 24 = .ok (.iload_n 3, 1) := by decide +kernel
theorem dX8_sheet_25 : decode cX8_sheet 25 = .ok (.bipush 40, 2) := by decide +kernel
theorem dX8_sheet_27 : decode cX8_sheet 27 = .ok (.if_icmp .le 5, 3) := by decide +kernel
theorem dX8_sheet_30 : decode cX8_sheet 30 = .ok (.iconst (-1), 1) := by decide +kernel
theorem dX8_sheet_31 : decode cX8_sheet 31 = .ok (.ireturn, 1) := by decide +kernel
theorem dX8_sheet_32 : decode cX8_sheet 32 = .ok (.iload_n 3, 1) := by decide +kernel
theorem dX8_sheet_33 : decode cX8_sheet 33 = .ok (.ifCond .ge 6, 3) := by decide +kernel
theorem dX8_sheet_36 : decode cX8_sheet 36 = .ok (.bipush (-14), 2) := by decide +kernel
theorem dX8_sheet_38 : decode cX8_sheet 38 = .ok (.ireturn, 1) := by decide +kernel
theorem dX8_sheet_39 : decode cX8_sheet 39 = .ok (.aload_n 0, 1) := by decide +kernel
theorem dX8_sheet_40 : decode cX8_sheet 40 = .ok (.getfield 56, 3) := by decide +kernel
theorem dX8_sheet_43 : decode cX8_sheet 43 = .ok (.iload_n 1, 1) := by decide +kernel
theorem dX8_sheet_44 : decode cX8_sheet 44 = .ok (.iload_n 2, 1) := by decide +kernel
theorem dX8_sheet_45 : decode cX8_sheet 45 = .ok (.iastore, 1) := by decide +kernel
theorem dX8_sheet_46 : decode cX8_sheet 46 = .ok (.aload_n 0, 1) := by decide +kernel
theorem dX8_sheet_47 : decode cX8_sheet 47 = .ok (.getfield 59, 3) := by decide +kernel
theorem dX8_sheet_50 : decode cX8_sheet 50 = .ok (.iload_n 1, 1) := by decide +kernel
theorem dX8_sheet_51 : decode cX8_sheet 51 = .ok (.iload_n 3, 1) := by decide +kernel
theorem dX8_sheet_52 : decode cX8_sheet 52 = .ok (.iastore, 1) := by decide +kernel
theorem dX8_sheet_53 : decode cX8_sheet 53 = .ok (.iconst 0, 1) := by decide +kernel
theorem dX8_sheet_54 : decode cX8_sheet 54 = .ok (.istore 4, 2) := by decide +kernel
theorem dX8_sheet_56 : decode cX8_sheet 56 = .ok (.iload 4, 2) := by decide +kernel
theorem dX8_sheet_58 : decode cX8_sheet 58 = .ok (.bipush 40, 2) := by decide +kernel
theorem dX8_sheet_60 : decode cX8_sheet 60 = .ok (.if_icmp .ge 22, 3) := by decide +kernel
theorem dX8_sheet_63 : decode cX8_sheet 63 = .ok (.aload_n 0, 1) := by decide +kernel
theorem dX8_sheet_64 : decode cX8_sheet 64 = .ok (.getfield 62, 3) := by decide +kernel
theorem dX8_sheet_67 : decode cX8_sheet 67 = .ok (.bipush 40, 2) := by decide +kernel
theorem dX8_sheet_69 : decode cX8_sheet 69 = .ok (.iload_n 1, 1) := by decide +kernel
theorem dX8_sheet_70 : decode cX8_sheet 70 = .ok (.imul, 1) := by decide +kernel
theorem dX8_sheet_71 : decode cX8_sheet 71 = .ok (.iload 4, 2) := by decide +kernel
theorem dX8_sheet_73 : decode cX8_sheet 73 = .ok (.iadd, 1) := by decide +kernel
theorem dX8_sheet_74 : decode cX8_sheet 74 = .ok (.iconst 0, 1) := by decide +kernel
theorem dX8_sheet_75 : decode cX8_sheet 75 = .ok (.iastore, 1) := by decide +kernel
theorem dX8_sheet_76 : decode cX8_sheet 76 = .ok (.iinc 4 1, 3) := by decide +kernel
theorem dX8_sheet_79 : decode cX8_sheet 79 = .ok (.goto (-23), 3) := by decide +kernel
theorem dX8_sheet_82 : decode cX8_sheet 82 = .ok (.iconst 1, 1) := by decide +kernel
theorem dX8_sheet_83 : decode cX8_sheet 83 = .ok (.ireturn, 1) := by decide +kernel
theorem mkX8_sheet : mokV qX8_sheet 3 := ⟨⟨⟨⟨by decide, by decide, by decide +kernel⟩, by decide⟩, gd_mem 59 (by decide +kernel) (by decide +kernel), gd_mem 1293 (by decide +kernel) (by decide +kernel)⟩, gd_mem 1291 (by decide +kernel) (by decide +kernel), gd_mem 1292 (by decide +kernel) (by decide +kernel)⟩
abbrev qX8_lay : mMI := (yX8_lay, cX8_lay, 4, (some .int), 1)
theorem dX8_lay_0 : decode cX8_lay 0 = .ok (.iload_n 1, 1) := by decide +kernel
theorem dX8_lay_1 : decode cX8_lay 1 = .ok (.i2l, 1) := by decide +kernel
theorem dX8_lay_2 : decode cX8_lay 2 = .ok (.lconst 0, 1) := by decide +kernel
theorem dX8_lay_3 : decode cX8_lay 3 = .ok (.ldc2_w 193, 3) := by decide +kernel
theorem dX8_lay_6 : decode cX8_lay 6 = .ok (.invokestatic 67, 3) := by decide +kernel
theorem dX8_lay_9 : decode cX8_lay 9 = .ok (.ifCond .ne 5, 3) := by decide +kernel
theorem dX8_lay_12 : decode cX8_lay 12 = .ok (.iconst (-1), 1) := by decide +kernel
theorem dX8_lay_13 : decode cX8_lay 13 = .ok (.ireturn, 1) := by decide +kernel
theorem dX8_lay_14 : decode cX8_lay 14 = .ok (.aload_n 0, 1) := by decide +kernel
theorem dX8_lay_15 : decode cX8_lay 15 = .ok (.getfield 56, 3) := by decide +kernel
theorem dX8_lay_18 : decode cX8_lay 18 = .ok (.iload_n 1, 1) := by decide +kernel
theorem dX8_lay_19 : decode cX8_lay 19 = .ok (.iaload, 1) := by decide +kernel
theorem dX8_lay_20 : decode cX8_lay 20 = .ok (.bipush (-4), 2) := by decide +kernel
theorem dX8_lay_22 : decode cX8_lay 22 = .ok (.if_icmp .ne 6, 3) := by decide +kernel
theorem dX8_lay_25 : decode cX8_lay 25 = .ok (.bipush (-11), 2) := by decide +kernel
theorem dX8_lay_27 : decode cX8_lay 27 = .ok (.ireturn, 1) := by decide +kernel
theorem dX8_lay_28 : decode cX8_lay 28 = .ok (.iload_n 2, 1) := by decide +kernel
theorem dX8_lay_29 : decode cX8_lay 29 = .ok (.i2l, 1) := by decide +kernel
theorem dX8_lay_30 : decode cX8_lay 30 = .ok (.lconst 0, 1) := by decide +kernel
theorem dX8_lay_31 : decode cX8_lay 31 = .ok (.aload_n 0, 1) := by decide +kernel
theorem dX8_lay_32 : decode cX8_lay 32 = .ok (.getfield 59, 3) := by decide +kernel
theorem dX8_lay_35 : decode cX8_lay 35 = .ok (.iload_n 1, 1) := by decide +kernel
theorem dX8_lay_36 : decode cX8_lay 36 = .ok (.iaload, 1) := by decide +kernel
theorem dX8_lay_37 : decode cX8_lay 37 = .ok (.iconst 1, 1) := by decide +kernel
theorem dX8_lay_38 : decode cX8_lay 38 = .ok (.isub, 1) := by decide +kernel
theorem dX8_lay_39 : decode cX8_lay 39 = .ok (.i2l, 1) := by decide +kernel
theorem dX8_lay_40 : decode cX8_lay 40 = .ok (.invokestatic 67, 3) := by decide +kernel
theorem dX8_lay_43 : decode cX8_lay 43 = .ok (.ifCond .ne 6, 3) := by decide +kernel
theorem dX8_lay_46 : decode cX8_lay 46 = .ok (.bipush (-12), 2) := by decide +kernel
theorem dX8_lay_48 : decode cX8_lay 48 = .ok (.ireturn, 1) := by decide +kernel
theorem dX8_lay_49 : decode cX8_lay 49 = .ok (.aload_n 0, 1) := by decide +kernel
theorem dX8_lay_50 : decode cX8_lay 50 = .ok (.getfield 62, 3) := by decide +kernel
theorem dX8_lay_53 : decode cX8_lay 53 = .ok (.bipush 40, 2) := by decide +kernel
theorem dX8_lay_55 : decode cX8_lay 55 = .ok (.iload_n 1, 1) := by decide +kernel
theorem dX8_lay_56 : decode cX8_lay 56 = .ok (.imul, 1) := by decide +kernel
theorem dX8_lay_57 : decode cX8_lay 57 = .ok (.iload_n 2, 1) := by decide +kernel
theorem dX8_lay_58 : decode cX8_lay 58 = .ok (.iadd, 1) := by decide +kernel
theorem dX8_lay_59 : decode cX8_lay 59 = .ok (.aload_n 0, 1) := by decide +kernel
theorem dX8_lay_60 : decode cX8_lay 60 = .ok (.getfield 56, 3) := by decide +kernel
theorem dX8_lay_63 : decode cX8_lay 63 = .ok (.iload_n 1, 1) := by decide +kernel
theorem dX8_lay_64 : decode cX8_lay 64 = .ok (.iaload, 1) := by decide +kernel
theorem dX8_lay_65 : decode cX8_lay 65 = .ok (.ifCond .ne 13, 3) := by decide +kernel
theorem dX8_lay_68 : decode cX8_lay 68 = .ok (.iload_n 3, 1) := by decide +kernel
theorem dX8_lay_69 : decode cX8_lay 69 = .ok (.bipush 24, 2) := by decide +kernel
theorem dX8_lay_71 : decode cX8_lay 71 = .ok (.ishl, 1) := by decide +kernel
theorem dX8_lay_72 : decode cX8_lay 72 = .ok (.bipush 24, 2) := by decide +kernel
theorem dX8_lay_74 : decode cX8_lay 74 = .ok (.ishr, 1) := by decide +kernel
theorem dX8_lay_75 : decode cX8_lay 75 = .ok (.goto 24, 3) := by decide +kernel
theorem dX8_lay_78 : decode cX8_lay 78 = .ok (.aload_n 0, 1) := by decide +kernel
theorem dX8_lay_79 : decode cX8_lay 79 = .ok (.getfield 56, 3) := by decide +kernel
theorem dX8_lay_82 : decode cX8_lay 82 = .ok (.iload_n 1, 1) := by decide +kernel
theorem dX8_lay_83 : decode cX8_lay 83 = .ok (.iaload, 1) := by decide +kernel
theorem dX8_lay_84 : decode cX8_lay 84 = .ok (.iconst 1, 1) := by decide +kernel
theorem dX8_lay_85 : decode cX8_lay 85 = .ok (.if_icmp .ne 13, 3) := by decide +kernel
theorem dX8_lay_88 : decode cX8_lay 88 = .ok (.iload_n 3, 1) := by decide +kernel
theorem dX8_lay_89 : decode cX8_lay 89 = .ok (.bipush 16, 2) := by decide +kernel
theorem dX8_lay_91 : decode cX8_lay 91 = .ok (.ishl, 1) := by decide +kernel
theorem dX8_lay_92 : decode cX8_lay 92 = .ok (.bipush 16, 2) := by decide +kernel
theorem dX8_lay_94 : decode cX8_lay 94 = .ok (.ishr, 1) := by decide +kernel
theorem dX8_lay_95 : decode cX8_lay 95 = .ok (.goto 4, 3) := by decide +kernel
theorem dX8_lay_98 : decode cX8_lay 98 = .ok (.iload_n 3, 1) := by decide +kernel
theorem dX8_lay_99 : decode cX8_lay 99 = .ok (.iastore, 1) := by decide +kernel
theorem dX8_lay_100 : decode cX8_lay 100 = .ok (.iconst 1, 1) := by decide +kernel
theorem dX8_lay_101 : decode cX8_lay 101 = .ok (.ireturn, 1) := by decide +kernel
theorem mkX8_lay : mokV qX8_lay 3 := ⟨⟨⟨⟨by decide, by decide, by decide +kernel⟩, by decide⟩, gd_mem 59 (by decide +kernel) (by decide +kernel), gd_mem 1298 (by decide +kernel) (by decide +kernel)⟩, gd_mem 1296 (by decide +kernel) (by decide +kernel), gd_mem 1297 (by decide +kernel) (by decide +kernel)⟩
abbrev qX8_number : mMI := (yX8_number, cX8_number, 4, (some .int), 2)
theorem dX8_number_0 : decode cX8_number 0 = .ok (.aload_n 0, 1) := by decide +kernel
theorem dX8_number_1 : decode cX8_number 1 = .ok (.getfield 75, 3) := by decide +kernel
theorem dX8_number_4 : decode cX8_number 4 = .ok (.ifCond .ne 16, 3) := by decide +kernel
theorem dX8_number_7 : decode cX8_number 7 = .ok (.aload_n 0, 1) := by decide +kernel
theorem dX8_number_8 : decode cX8_number 8 = .ok (.getfield 84, 3) := by decide +kernel
theorem dX8_number_11 : decode cX8_number 11 = .ok (.iconst 2, 1) := by decide +kernel
theorem dX8_number_12 : decode cX8_number 12 = .ok (.if_icmp .eq 8, 3) := by decide +kernel
theorem dX8_number_15 : decode cX8_number 15 = .ok (.aload_n 0, 1) := by decide +kernel
theorem dX8_number_16 : decode cX8_number 16 = .ok (.iconst 2, 1) := by decide +kernel
theorem dX8_number_17 : decode cX8_number 17 = .ok (.invokevirtual 105, 3) := by decide +kernel
theorem dX8_number_20 : decode cX8_number 20 = .ok (.aload_n 0, 1) := by decide +kernel
theorem dX8_number_21 : decode cX8_number 21 = .ok (.getfield 75, 3) := by decide +kernel
theorem dX8_number_24 : decode cX8_number 24 = .ok (.ifCond .ne 23, 3) := by decide +kernel
theorem dX8_number_27 : decode cX8_number 27 = .ok (.aload_n 0, 1) := by decide +kernel
theorem dX8_number_28 : decode cX8_number 28 = .ok (.getfield 94, 3) := by decide +kernel
theorem dX8_number_31 : decode cX8_number 31 = .ok (.i2l, 1) := by decide +kernel
theorem dX8_number_32 : decode cX8_number 32 = .ok (.iload_n 1, 1) := by decide +kernel
theorem dX8_number_33 : decode cX8_number 33 = .ok (.i2l, 1) := by decide +kernel
theorem dX8_number_34 : decode cX8_number 34 = .ok (.iload_n 2, 1) := by decide +kernel
theorem dX8_number_35 : decode cX8_number 35 = .ok (.i2l, 1) := by decide +kernel
theorem dX8_number_36 : decode cX8_number 36 = .ok (.invokestatic 67, 3) := by decide +kernel
theorem dX8_number_39 : decode cX8_number 39 = .ok (.ifCond .ne 8, 3) := by decide +kernel
theorem dX8_number_42 : decode cX8_number 42 = .ok (.aload_n 0, 1) := by decide +kernel
theorem dX8_number_43 : decode cX8_number 43 = .ok (.iconst 3, 1) := by decide +kernel
theorem dX8_number_44 : decode cX8_number 44 = .ok (.invokevirtual 105, 3) := by decide +kernel
theorem dX8_number_47 : decode cX8_number 47 = .ok (.aload_n 0, 1) := by decide +kernel
theorem dX8_number_48 : decode cX8_number 48 = .ok (.getfield 75, 3) := by decide +kernel
theorem dX8_number_51 : decode cX8_number 51 = .ok (.ifCond .ne 10, 3) := by decide +kernel
theorem dX8_number_54 : decode cX8_number 54 = .ok (.aload_n 0, 1) := by decide +kernel
theorem dX8_number_55 : decode cX8_number 55 = .ok (.getfield 94, 3) := by decide +kernel
theorem dX8_number_58 : decode cX8_number 58 = .ok (.goto 4, 3) := by decide +kernel
theorem dX8_number_61 : decode cX8_number 61 = .ok (.iload_n 1, 1) := by decide +kernel
theorem dX8_number_62 : decode cX8_number 62 = .ok (.istore_n 3, 1) := by decide +kernel
theorem dX8_number_63 : decode cX8_number 63 = .ok (.aload_n 0, 1) := by decide +kernel
theorem dX8_number_64 : decode cX8_number 64 = .ok (.invokevirtual 109, 3) := by decide +kernel
theorem dX8_number_67 : decode cX8_number 67 = .ok (.iload_n 3, 1) := by decide +kernel
theorem dX8_number_68 : decode cX8_number 68 = .ok (.ireturn, 1) := by decide +kernel
theorem mkX8_number : mokV qX8_number 2 := ⟨⟨⟨⟨by decide, by decide, by decide +kernel⟩, by decide⟩, gd_mem 59 (by decide +kernel) (by decide +kernel), gd_mem 1038 (by decide +kernel) (by decide +kernel)⟩, gd_mem 1037 (by decide +kernel) (by decide +kernel), gd_mem 25 (by decide +kernel) (by decide +kernel)⟩
abbrev qX8_brokenOn : mMI := (yX8_brokenOn, cX8_brokenOn, 4, (some .int), 2)
theorem dX8_brokenOn_0 : decode cX8_brokenOn 0 = .ok (.iconst 0, 1) := by decide +kernel
theorem dX8_brokenOn_1 : decode cX8_brokenOn 1 = .ok (.istore_n 2, 1) := by decide +kernel
theorem dX8_brokenOn_2 : decode cX8_brokenOn 2 = .ok (.iconst 0, 1) := by decide +kernel
theorem dX8_brokenOn_3 : decode cX8_brokenOn 3 = .ok (.istore_n 3, 1) := by decide +kernel
theorem dX8_brokenOn_4 : decode cX8_brokenOn 4 = .ok (.iload_n 3, 1) := by decide +kernel
theorem dX8_brokenOn_5 : decode cX8_brokenOn 5 = .ok (.aload_n 0, 1) := by decide +kernel
theorem dX8_brokenOn_6 : decode cX8_brokenOn 6 = .ok (.getfield 143, 3) := by decide +kernel
theorem dX8_brokenOn_9 : decode cX8_brokenOn 9 = .ok (.if_icmp .ge 28, 3) := by decide +kernel
theorem dX8_brokenOn_12 : decode cX8_brokenOn 12 = .ok (.iload_n 2, 1) := by decide +kernel
theorem dX8_brokenOn_13 : decode cX8_brokenOn 13 = .ok (.aload_n 0, 1) := by decide +kernel
theorem dX8_brokenOn_14 : decode cX8_brokenOn 14 = .ok (.iload_n 1, 1) := by decide +kernel
theorem dX8_brokenOn_15 : decode cX8_brokenOn 15 = .ok (.iload_n 3, 1) := by decide +kernel
theorem dX8_brokenOn_16 : decode cX8_brokenOn 16 = .ok (.invokevirtual 158, 3) := by decide +kernel
theorem dX8_brokenOn_19 : decode cX8_brokenOn 19 = .ok (.ifCond .eq 9, 3) := by decide +kernel
theorem dX8_brokenOn_22 : decode cX8_brokenOn 22 = .ok (.iconst 1, 1) := by decide +kernel
theorem dX8_brokenOn_23 : decode cX8_brokenOn 23 = .ok (.iload_n 3, 1) := by decide +kernel
theorem dX8_brokenOn_24 : decode cX8_brokenOn 24 = .ok (.ishl, 1) := by decide +kernel
theorem dX8_brokenOn_25 : decode cX8_brokenOn 25 = .ok (.goto 4, 3) := by decide +kernel
theorem dX8_brokenOn_28 : decode cX8_brokenOn 28 = .ok (.iconst 0, 1) := by decide +kernel
theorem dX8_brokenOn_29 : decode cX8_brokenOn 29 = .ok (.ior, 1) := by decide +kernel
theorem dX8_brokenOn_30 : decode cX8_brokenOn 30 = .ok (.istore_n 2, 1) := by decide +kernel
theorem dX8_brokenOn_31 : decode cX8_brokenOn 31 = .ok (.iinc 3 1, 3) := by decide +kernel
theorem dX8_brokenOn_34 : decode cX8_brokenOn 34 = .ok (.goto (-30), 3) := by decide +kernel
theorem dX8_brokenOn_37 : decode cX8_brokenOn 37 = .ok (.iload_n 2, 1) := by decide +kernel
theorem dX8_brokenOn_38 : decode cX8_brokenOn 38 = .ok (.ireturn, 1) := by decide +kernel
theorem mkX8_brokenOn : mokV qX8_brokenOn 1 := ⟨⟨⟨⟨by decide, by decide, by decide +kernel⟩, by decide⟩, gd_mem 59 (by decide +kernel) (by decide +kernel), gd_mem 1196 (by decide +kernel) (by decide +kernel)⟩, gd_mem 1195 (by decide +kernel) (by decide +kernel), gd_mem 44 (by decide +kernel) (by decide +kernel)⟩
abbrev qX8_mayTread : mMI := (yX8_mayTread, cX8_mayTread, 6, (some .boolean), 2)
theorem dX8_mayTread_0 : decode cX8_mayTread 0 = .ok (.aload_n 0, 1) := by decide +kernel
theorem dX8_mayTread_1 : decode cX8_mayTread 1 = .ok (.iload_n 1, 1) := by decide +kernel
theorem dX8_mayTread_2 : decode cX8_mayTread 2 = .ok (.iload_n 3, 1) := by decide +kernel
theorem dX8_mayTread_3 : decode cX8_mayTread 3 = .ok (.invokevirtual 162, 3) := by decide +kernel
theorem dX8_mayTread_6 : decode cX8_mayTread 6 = .ok (.aload_n 0, 1) := by decide +kernel
theorem dX8_mayTread_7 : decode cX8_mayTread 7 = .ok (.getfield 7, 3) := by decide +kernel
theorem dX8_mayTread_10 : decode cX8_mayTread 10 = .ok (.iload_n 1, 1) := by decide +kernel
theorem dX8_mayTread_11 : decode cX8_mayTread 11 = .ok (.bipush 20, 2) := by decide +kernel
theorem dX8_mayTread_13 : decode cX8_mayTread 13 = .ok (.iadd, 1) := by decide +kernel
theorem dX8_mayTread_14 : decode cX8_mayTread 14 = .ok (.iconst 3, 1) := by decide +kernel
theorem dX8_mayTread_15 : decode cX8_mayTread 15 = .ok (.iload_n 2, 1) := by decide +kernel
theorem dX8_mayTread_16 : decode cX8_mayTread 16 = .ok (.imul, 1) := by decide +kernel
theorem dX8_mayTread_17 : decode cX8_mayTread 17 = .ok (.iadd, 1) := by decide +kernel
theorem dX8_mayTread_18 : decode cX8_mayTread 18 = .ok (.iaload, 1) := by decide +kernel
theorem dX8_mayTread_19 : decode cX8_mayTread 19 = .ok (.isub, 1) := by decide +kernel
theorem dX8_mayTread_20 : decode cX8_mayTread 20 = .ok (.istore 4, 2) := by decide +kernel
theorem dX8_mayTread_22 : decode cX8_mayTread 22 = .ok (.aload_n 0, 1) := by decide +kernel
theorem dX8_mayTread_23 : decode cX8_mayTread 23 = .ok (.getfield 7, 3) := by decide +kernel
theorem dX8_mayTread_26 : decode cX8_mayTread 26 = .ok (.iload_n 1, 1) := by decide +kernel
theorem dX8_mayTread_27 : decode cX8_mayTread 27 = .ok (.bipush 32, 2) := by decide +kernel
theorem dX8_mayTread_29 : decode cX8_mayTread 29 = .ok (.iadd, 1) := by decide +kernel
theorem dX8_mayTread_30 : decode cX8_mayTread 30 = .ok (.iaload, 1) := by decide +kernel
theorem dX8_mayTread_31 : decode cX8_mayTread 31 = .ok (.iconst 1, 1) := by decide +kernel
theorem dX8_mayTread_32 : decode cX8_mayTread 32 = .ok (.iadd, 1) := by decide +kernel
theorem dX8_mayTread_33 : decode cX8_mayTread 33 = .ok (.istore 5, 2) := by decide +kernel
theorem dX8_mayTread_35 : decode cX8_mayTread 35 = .ok (.aload_n 0, 1) := by decide +kernel
theorem dX8_mayTread_36 : decode cX8_mayTread 36 = .ok (.iload_n 1, 1) := by decide +kernel
theorem dX8_mayTread_37 : decode cX8_mayTread 37 = .ok (.iload_n 3, 1) := by decide +kernel
theorem dX8_mayTread_38 : decode cX8_mayTread 38 = .ok (.invokevirtual 158, 3) := by decide +kernel
theorem dX8_mayTread_41 : decode cX8_mayTread 41 = .ok (.ifCond .ne 33, 3) := by decide +kernel
theorem dX8_mayTread_44 : decode cX8_mayTread 44 = .ok (.aload_n 0, 1) := by decide +kernel
theorem dX8_mayTread_45 : decode cX8_mayTread 45 = .ok (.getfield 13, 3) := by decide +kernel
theorem dX8_mayTread_48 : decode cX8_mayTread 48 = .ok (.iload_n 3, 1) := by decide +kernel
theorem dX8_mayTread_49 : decode cX8_mayTread 49 = .ok (.iaload, 1) := by decide +kernel
theorem dX8_mayTread_50 : decode cX8_mayTread 50 = .ok (.iconst 3, 1) := by decide +kernel
theorem dX8_mayTread_51 : decode cX8_mayTread 51 = .ok (.if_icmp .eq 19, 3) := by decide +kernel
theorem dX8_mayTread_54 : decode cX8_mayTread 54 = .ok (.iload 4, 2) := by decide +kernel
theorem dX8_mayTread_56 : decode cX8_mayTread 56 = .ok (.i2l, 1) := by decide +kernel
theorem dX8_mayTread_57 : decode cX8_mayTread 57 = .ok (.iload 5, 2) := by decide +kernel
theorem dX8_mayTread_59 : decode cX8_mayTread 59 = .ok (.ineg, 1) := by decide +kernel
theorem dX8_mayTread_60 : decode cX8_mayTread 60 = .ok (.i2l, 1) := by decide +kernel
theorem dX8_mayTread_61 : decode cX8_mayTread 61 = .ok (.iload 5, 2) := by decide +kernel
theorem dX8_mayTread_63 : decode cX8_mayTread 63 = .ok (.i2l, 1) := by decide +kernel
theorem dX8_mayTread_64 : decode cX8_mayTread 64 = .ok (.invokestatic 67, 3) := by decide +kernel
theorem dX8_mayTread_67 : decode cX8_mayTread 67 = .ok (.ifCond .eq 7, 3) := by decide +kernel
theorem dX8_mayTread_70 : decode cX8_mayTread 70 = .ok (.iconst 1, 1) := by decide +kernel
theorem dX8_mayTread_71 : decode cX8_mayTread 71 = .ok (.goto 4, 3) := by decide +kernel
theorem dX8_mayTread_74 : decode cX8_mayTread 74 = .ok (.iconst 0, 1) := by decide +kernel
theorem dX8_mayTread_75 : decode cX8_mayTread 75 = .ok (.ireturn, 1) := by decide +kernel
theorem mkX8_mayTread : mokV qX8_mayTread 3 := ⟨⟨⟨⟨by decide, by decide, by decide +kernel⟩, by decide⟩, gd_mem 59 (by decide +kernel) (by decide +kernel), gd_mem 1090 (by decide +kernel) (by decide +kernel)⟩, gd_mem 1089 (by decide +kernel) (by decide +kernel), gd_mem 34 (by decide +kernel) (by decide +kernel)⟩
abbrev qX8_step : mMI := (yX8_step, cX8_step, 3, (some .int), 2)
theorem dX8_step_0 : decode cX8_step 0 = .ok (.aload_n 0, 1) := by decide +kernel
theorem dX8_step_1 : decode cX8_step 1 = .ok (.iload_n 1, 1) := by decide +kernel
theorem dX8_step_2 : decode cX8_step 2 = .ok (.invokevirtual 172, 3) := by decide +kernel
theorem dX8_step_5 : decode cX8_step 5 = .ok (.ifCond .ne 5, 3) := by decide +kernel
theorem dX8_step_8 : decode cX8_step 8 = .ok (.iconst (-1), 1) := by decide +kernel
theorem dX8_step_9 : decode cX8_step 9 = .ok (.ireturn, 1) := by decide +kernel
theorem dX8_step_10 : decode cX8_step 10 = .ok (.iload_n 2, 1) := by decide +kernel
theorem dX8_step_11 : decode cX8_step 11 = .ok (.tableswitch 82 0 4 #[33, 40, 49, 60, 67], 33) := by decide +kernel
theorem dX8_step_44 : decode cX8_step 44 = .ok (.aload_n 0, 1) := by decide +kernel
theorem dX8_step_45 : decode cX8_step 45 = .ok (.getfield 13, 3) := by decide +kernel
theorem dX8_step_48 : decode cX8_step 48 = .ok (.iload_n 1, 1) := by decide +kernel
theorem dX8_step_49 : decode cX8_step 49 = .ok (.iaload, 1) := by decide +kernel
theorem dX8_step_50 : decode cX8_step 50 = .ok (.ireturn, 1) := by decide +kernel
theorem dX8_step_51 : decode cX8_step 51 = .ok (.aload_n 0, 1) := by decide +kernel
theorem dX8_step_52 : decode cX8_step 52 = .ok (.getfield 7, 3) := by decide +kernel
theorem dX8_step_55 : decode cX8_step 55 = .ok (.iconst 2, 1) := by decide +kernel
theorem dX8_step_56 : decode cX8_step 56 = .ok (.iload_n 1, 1) := by decide +kernel
theorem dX8_step_57 : decode cX8_step 57 = .ok (.imul, 1) := by decide +kernel
theorem dX8_step_58 : decode cX8_step 58 = .ok (.iaload, 1) := by decide +kernel
theorem dX8_step_59 : decode cX8_step 59 = .ok (.ireturn, 1) := by decide +kernel
theorem dX8_step_60 : decode cX8_step 60 = .ok (.aload_n 0, 1) := by decide +kernel
theorem dX8_step_61 : decode cX8_step 61 = .ok (.getfield 7, 3) := by decide +kernel
theorem dX8_step_64 : decode cX8_step 64 = .ok (.iconst 2, 1) := by decide +kernel
theorem dX8_step_65 : decode cX8_step 65 = .ok (.iload_n 1, 1) := by decide +kernel
theorem dX8_step_66 : decode cX8_step 66 = .ok (.imul, 1) := by decide +kernel
theorem dX8_step_67 : decode cX8_step 67 = .ok (.iconst 1, 1) := by decide +kernel
theorem dX8_step_68 : decode cX8_step 68 = .ok (.iadd, 1) := by decide +kernel
theorem dX8_step_69 : decode cX8_step 69 = .ok (.iaload, 1) := by decide +kernel
theorem dX8_step_70 : decode cX8_step 70 = .ok (.ireturn, 1) := by decide +kernel
theorem dX8_step_71 : decode cX8_step 71 = .ok (.aload_n 0, 1) := by decide +kernel
theorem dX8_step_72 : decode cX8_step 72 = .ok (.iconst 0, 1) := by decide +kernel
theorem dX8_step_73 : decode cX8_step 73 = .ok (.iload_n 1, 1) := by decide +kernel
theorem dX8_step_74 : decode cX8_step 74 = .ok (.invokevirtual 162, 3) := by decide +kernel
theorem dX8_step_77 : decode cX8_step 77 = .ok (.ireturn, 1) := by decide +kernel
theorem dX8_step_78 : decode cX8_step 78 = .ok (.aload_n 0, 1) := by decide +kernel
theorem dX8_step_79 : decode cX8_step 79 = .ok (.iconst 0, 1) := by decide +kernel
theorem dX8_step_80 : decode cX8_step 80 = .ok (.iload_n 1, 1) := by decide +kernel
theorem dX8_step_81 : decode cX8_step 81 = .ok (.invokevirtual 158, 3) := by decide +kernel
theorem dX8_step_84 : decode cX8_step 84 = .ok (.ifCond .eq 7, 3) := by decide +kernel
theorem dX8_step_87 : decode cX8_step 87 = .ok (.iconst 1, 1) := by decide +kernel
theorem dX8_step_88 : decode cX8_step 88 = .ok (.goto 4, 3) := by decide +kernel
theorem dX8_step_91 : decode cX8_step 91 = .ok (.iconst 0, 1) := by decide +kernel
theorem dX8_step_92 : decode cX8_step 92 = .ok (.ireturn, 1) := by decide +kernel
theorem dX8_step_93 : decode cX8_step 93 = .ok (.iconst (-1), 1) := by decide +kernel
theorem dX8_step_94 : decode cX8_step 94 = .ok (.ireturn, 1) := by decide +kernel
theorem mkX8_step : mokV qX8_step 2 := ⟨⟨⟨⟨by decide, by decide, by decide +kernel⟩, by decide⟩, gd_mem 59 (by decide +kernel) (by decide +kernel), gd_mem 1054 (by decide +kernel) (by decide +kernel)⟩, gd_mem 1052 (by decide +kernel) (by decide +kernel), gd_mem 1053 (by decide +kernel) (by decide +kernel)⟩
abbrev qX8_age : mMI := (yX8_age, cX8_age, 3, (some .int), 2)
theorem dX8_age_0 : decode cX8_age 0 = .ok (.aload_n 0, 1) := by decide +kernel
theorem dX8_age_1 : decode cX8_age 1 = .ok (.aload_n 0, 1) := by decide +kernel
theorem dX8_age_2 : decode cX8_age 2 = .ok (.iload_n 1, 1) := by decide +kernel
theorem dX8_age_3 : decode cX8_age 3 = .ok (.invokevirtual 172, 3) := by decide +kernel
theorem dX8_age_6 : decode cX8_age 6 = .ok (.ifCond .eq 19, 3) := by decide +kernel
theorem dX8_age_9 : decode cX8_age 9 = .ok (.iload_n 2, 1) := by decide +kernel
theorem dX8_age_10 : decode cX8_age 10 = .ok (.i2l, 1) := by decide +kernel
theorem dX8_age_11 : decode cX8_age 11 = .ok (.lconst 0, 1) := by decide +kernel
theorem dX8_age_12 : decode cX8_age 12 = .ok (.ldc2_w 185, 3) := by decide +kernel
theorem dX8_age_15 : decode cX8_age 15 = .ok (.invokestatic 67, 3) := by decide +kernel
theorem dX8_age_18 : decode cX8_age 18 = .ok (.ifCond .eq 7, 3) := by decide +kernel
theorem dX8_age_21 : decode cX8_age 21 = .ok (.iconst 1, 1) := by decide +kernel
theorem dX8_age_22 : decode cX8_age 22 = .ok (.goto 4, 3) := by decide +kernel
theorem dX8_age_25 : decode cX8_age 25 = .ok (.iconst 0, 1) := by decide +kernel
theorem dX8_age_26 : decode cX8_age 26 = .ok (.iconst 2, 1) := by decide +kernel
theorem dX8_age_27 : decode cX8_age 27 = .ok (.iload_n 1, 1) := by decide +kernel
theorem dX8_age_28 : decode cX8_age 28 = .ok (.imul, 1) := by decide +kernel
theorem dX8_age_29 : decode cX8_age 29 = .ok (.iload_n 2, 1) := by decide +kernel
theorem dX8_age_30 : decode cX8_age 30 = .ok (.invokevirtual 187, 3) := by decide +kernel
theorem dX8_age_33 : decode cX8_age 33 = .ok (.ireturn, 1) := by decide +kernel
theorem mkX8_age : mokV qX8_age 2 := ⟨⟨⟨⟨by decide, by decide, by decide +kernel⟩, by decide⟩, gd_mem 59 (by decide +kernel) (by decide +kernel), gd_mem 1094 (by decide +kernel) (by decide +kernel)⟩, gd_mem 1092 (by decide +kernel) (by decide +kernel), gd_mem 1093 (by decide +kernel) (by decide +kernel)⟩
abbrev qX8_wear : mMI := (yX8_wear, cX8_wear, 3, (some .int), 2)
theorem dX8_wear_0 : decode cX8_wear 0 = .ok (.aload_n 0, 1) := by decide +kernel
theorem dX8_wear_1 : decode cX8_wear 1 = .ok (.aload_n 0, 1) := by decide +kernel
theorem dX8_wear_2 : decode cX8_wear 2 = .ok (.iload_n 1, 1) := by decide +kernel
theorem dX8_wear_3 : decode cX8_wear 3 = .ok (.invokevirtual 172, 3) := by decide +kernel
theorem dX8_wear_6 : decode cX8_wear 6 = .ok (.ifCond .eq 19, 3) := by decide +kernel
theorem dX8_wear_9 : decode cX8_wear 9 = .ok (.iload_n 2, 1) := by decide +kernel
theorem dX8_wear_10 : decode cX8_wear 10 = .ok (.i2l, 1) := by decide +kernel
theorem dX8_wear_11 : decode cX8_wear 11 = .ok (.lconst 0, 1) := by decide +kernel
theorem dX8_wear_12 : decode cX8_wear 12 = .ok (.ldc2_w 191, 3) := by decide +kernel
theorem dX8_wear_15 : decode cX8_wear 15 = .ok (.invokestatic 67, 3) := by decide +kernel
theorem dX8_wear_18 : decode cX8_wear 18 = .ok (.ifCond .eq 7, 3) := by decide +kernel
theorem dX8_wear_21 : decode cX8_wear 21 = .ok (.iconst 1, 1) := by decide +kernel
theorem dX8_wear_22 : decode cX8_wear 22 = .ok (.goto 4, 3) := by decide +kernel
theorem dX8_wear_25 : decode cX8_wear 25 = .ok (.iconst 0, 1) := by decide +kernel
theorem dX8_wear_26 : decode cX8_wear 26 = .ok (.iconst 2, 1) := by decide +kernel
theorem dX8_wear_27 : decode cX8_wear 27 = .ok (.iload_n 1, 1) := by decide +kernel
theorem dX8_wear_28 : decode cX8_wear 28 = .ok (.imul, 1) := by decide +kernel
theorem dX8_wear_29 : decode cX8_wear 29 = .ok (.iconst 1, 1) := by decide +kernel
theorem dX8_wear_30 : decode cX8_wear 30 = .ok (.iadd, 1) := by decide +kernel
theorem dX8_wear_31 : decode cX8_wear 31 = .ok (.iload_n 2, 1) := by decide +kernel
theorem dX8_wear_32 : decode cX8_wear 32 = .ok (.invokevirtual 187, 3) := by decide +kernel
theorem dX8_wear_35 : decode cX8_wear 35 = .ok (.ireturn, 1) := by decide +kernel
theorem mkX8_wear : mokV qX8_wear 2 := ⟨⟨⟨⟨by decide, by decide, by decide +kernel⟩, by decide⟩, gd_mem 59 (by decide +kernel) (by decide +kernel), gd_mem 1103 (by decide +kernel) (by decide +kernel)⟩, gd_mem 1101 (by decide +kernel) (by decide +kernel), gd_mem 1102 (by decide +kernel) (by decide +kernel)⟩
abbrev qX8_mend : mMI := (yX8_mend, cX8_mend, 2, (some .int), 2)
theorem dX8_mend_0 : decode cX8_mend 0 = .ok (.aload_n 0, 1) := by decide +kernel
theorem dX8_mend_1 : decode cX8_mend 1 = .ok (.iload_n 1, 1) := by decide +kernel
theorem dX8_mend_2 : decode cX8_mend 2 = .ok (.invokevirtual 172, 3) := by decide +kernel
theorem dX8_mend_5 : decode cX8_mend 5 = .ok (.ifCond .ne 5, 3) := by decide +kernel
theorem dX8_mend_8 : decode cX8_mend 8 = .ok (.iconst (-1), 1) := by decide +kernel
theorem dX8_mend_9 : decode cX8_mend 9 = .ok (.ireturn, 1) := by decide +kernel
theorem dX8_mend_10 : decode cX8_mend 10 = .ok (.aload_n 0, 1) := by decide +kernel
theorem dX8_mend_11 : decode cX8_mend 11 = .ok (.getfield 7, 3) := by decide +kernel
theorem dX8_mend_14 : decode cX8_mend 14 = .ok (.iconst 2, 1) := by decide +kernel
theorem dX8_mend_15 : decode cX8_mend 15 = .ok (.iload_n 1, 1) := by decide +kernel
theorem dX8_mend_16 : decode cX8_mend 16 = .ok (.imul, 1) := by decide +kernel
theorem dX8_mend_17 : decode cX8_mend 17 = .ok (.iconst 0, 1) := by decide +kernel
theorem dX8_mend_18 : decode cX8_mend 18 = .ok (.iastore, 1) := by decide +kernel
theorem dX8_mend_19 : decode cX8_mend 19 = .ok (.aload_n 0, 1) := by decide +kernel
theorem dX8_mend_20 : decode cX8_mend 20 = .ok (.iconst 1, 1) := by decide +kernel
theorem dX8_mend_21 : decode cX8_mend 21 = .ok (.iconst 2, 1) := by decide +kernel
theorem dX8_mend_22 : decode cX8_mend 22 = .ok (.iload_n 1, 1) := by decide +kernel
theorem dX8_mend_23 : decode cX8_mend 23 = .ok (.imul, 1) := by decide +kernel
theorem dX8_mend_24 : decode cX8_mend 24 = .ok (.iconst 1, 1) := by decide +kernel
theorem dX8_mend_25 : decode cX8_mend 25 = .ok (.iadd, 1) := by decide +kernel
theorem dX8_mend_26 : decode cX8_mend 26 = .ok (.iconst 0, 1) := by decide +kernel
theorem dX8_mend_27 : decode cX8_mend 27 = .ok (.invokevirtual 187, 3) := by decide +kernel
theorem dX8_mend_30 : decode cX8_mend 30 = .ok (.ireturn, 1) := by decide +kernel
theorem mkX8_mend : mokV qX8_mend 1 := ⟨⟨⟨⟨by decide, by decide, by decide +kernel⟩, by decide⟩, gd_mem 59 (by decide +kernel) (by decide +kernel), gd_mem 1108 (by decide +kernel) (by decide +kernel)⟩, gd_mem 1106 (by decide +kernel) (by decide +kernel), gd_mem 1107 (by decide +kernel) (by decide +kernel)⟩
abbrev qX8_rank : mMI := (yX8_rank, cX8_rank, 3, (some .int), 2)
theorem dX8_rank_0 : decode cX8_rank 0 = .ok (.aload_n 0, 1) := by decide +kernel
theorem dX8_rank_1 : decode cX8_rank 1 = .ok (.aload_n 0, 1) := by decide +kernel
theorem dX8_rank_2 : decode cX8_rank 2 = .ok (.iload_n 1, 1) := by decide +kernel
theorem dX8_rank_3 : decode cX8_rank 3 = .ok (.invokevirtual 176, 3) := by decide +kernel
theorem dX8_rank_6 : decode cX8_rank 6 = .ok (.ifCond .eq 19, 3) := by decide +kernel
theorem dX8_rank_9 : decode cX8_rank 9 = .ok (.iload_n 2, 1) := by decide +kernel
theorem dX8_rank_10 : decode cX8_rank 10 = .ok (.i2l, 1) := by decide +kernel
theorem dX8_rank_11 : decode cX8_rank 11 = .ok (.lconst 0, 1) := by decide +kernel
theorem dX8_rank_12 : decode cX8_rank 12 = .ok (.ldc2_w 193, 3) := by decide +kernel
theorem dX8_rank_15 : decode cX8_rank 15 = .ok (.invokestatic 67, 3) := by decide +kernel
theorem dX8_rank_18 : decode cX8_rank 18 = .ok (.ifCond .eq 7, 3) := by decide +kernel
theorem dX8_rank_21 : decode cX8_rank 21 = .ok (.iconst 1, 1) := by decide +kernel
theorem dX8_rank_22 : decode cX8_rank 22 = .ok (.goto 4, 3) := by decide +kernel
theorem dX8_rank_25 : decode cX8_rank 25 = .ok (.iconst 0, 1) := by decide +kernel
theorem dX8_rank_26 : decode cX8_rank 26 = .ok (.bipush 20, 2) := by decide +kernel
theorem dX8_rank_28 : decode cX8_rank 28 = .ok (.iconst 3, 1) := by decide +kernel
theorem dX8_rank_29 : decode cX8_rank 29 = .ok (.iload_n 1, 1) := by decide +kernel
theorem dX8_rank_30 : decode cX8_rank 30 = .ok (.imul, 1) := by decide +kernel
theorem dX8_rank_31 : decode cX8_rank 31 = .ok (.iadd, 1) := by decide +kernel
theorem dX8_rank_32 : decode cX8_rank 32 = .ok (.iload_n 2, 1) := by decide +kernel
theorem dX8_rank_33 : decode cX8_rank 33 = .ok (.invokevirtual 187, 3) := by decide +kernel
theorem dX8_rank_36 : decode cX8_rank 36 = .ok (.ireturn, 1) := by decide +kernel
theorem mkX8_rank : mokV qX8_rank 2 := ⟨⟨⟨⟨by decide, by decide, by decide +kernel⟩, by decide⟩, gd_mem 59 (by decide +kernel) (by decide +kernel), gd_mem 1112 (by decide +kernel) (by decide +kernel)⟩, gd_mem 1110 (by decide +kernel) (by decide +kernel), gd_mem 1111 (by decide +kernel) (by decide +kernel)⟩
abbrev qX8_load : mMI := (yX8_load, cX8_load, 3, (some .int), 2)
theorem dX8_load_0 : decode cX8_load 0 = .ok (.aload_n 0, 1) := by decide +kernel
theorem dX8_load_1 : decode cX8_load 1 = .ok (.aload_n 0, 1) := by decide +kernel
theorem dX8_load_2 : decode cX8_load 2 = .ok (.iload_n 1, 1) := by decide +kernel
theorem dX8_load_3 : decode cX8_load 3 = .ok (.invokevirtual 176, 3) := by decide +kernel
theorem dX8_load_6 : decode cX8_load 6 = .ok (.ifCond .eq 19, 3) := by decide +kernel
theorem dX8_load_9 : decode cX8_load 9 = .ok (.iload_n 2, 1) := by decide +kernel
theorem dX8_load_10 : decode cX8_load 10 = .ok (.i2l, 1) := by decide +kernel
theorem dX8_load_11 : decode cX8_load 11 = .ok (.lconst 0, 1) := by decide +kernel
theorem dX8_load_12 : decode cX8_load 12 = .ok (.ldc2_w 195, 3) := by decide +kernel
theorem dX8_load_15 : decode cX8_load 15 = .ok (.invokestatic 67, 3) := by decide +kernel
theorem dX8_load_18 : decode cX8_load 18 = .ok (.ifCond .eq 7, 3) := by decide +kernel
theorem dX8_load_21 : decode cX8_load 21 = .ok (.iconst 1, 1) := by decide +kernel
theorem dX8_load_22 : decode cX8_load 22 = .ok (.goto 4, 3) := by decide +kernel
theorem dX8_load_25 : decode cX8_load 25 = .ok (.iconst 0, 1) := by decide +kernel
theorem dX8_load_26 : decode cX8_load 26 = .ok (.bipush 20, 2) := by decide +kernel
theorem dX8_load_28 : decode cX8_load 28 = .ok (.iconst 3, 1) := by decide +kernel
theorem dX8_load_29 : decode cX8_load 29 = .ok (.iload_n 1, 1) := by decide +kernel
theorem dX8_load_30 : decode cX8_load 30 = .ok (.imul, 1) := by decide +kernel
theorem dX8_load_31 : decode cX8_load 31 = .ok (.iadd, 1) := by decide +kernel
theorem dX8_load_32 : decode cX8_load 32 = .ok (.iconst 1, 1) := by decide +kernel
theorem dX8_load_33 : decode cX8_load 33 = .ok (.iadd, 1) := by decide +kernel
theorem dX8_load_34 : decode cX8_load 34 = .ok (.iload_n 2, 1) := by decide +kernel
theorem dX8_load_35 : decode cX8_load 35 = .ok (.invokevirtual 187, 3) := by decide +kernel
theorem dX8_load_38 : decode cX8_load 38 = .ok (.ireturn, 1) := by decide +kernel
theorem mkX8_load : mokV qX8_load 2 := ⟨⟨⟨⟨by decide, by decide, by decide +kernel⟩, by decide⟩, gd_mem 59 (by decide +kernel) (by decide +kernel), gd_mem 1117 (by decide +kernel) (by decide +kernel)⟩, gd_mem 1115 (by decide +kernel) (by decide +kernel), gd_mem 1116 (by decide +kernel) (by decide +kernel)⟩
abbrev qX8_move : mMI := (yX8_move, cX8_move, 3, (some .int), 2)
theorem dX8_move_0 : decode cX8_move 0 = .ok (.aload_n 0, 1) := by decide +kernel
theorem dX8_move_1 : decode cX8_move 1 = .ok (.aload_n 0, 1) := by decide +kernel
theorem dX8_move_2 : decode cX8_move 2 = .ok (.iload_n 1, 1) := by decide +kernel
theorem dX8_move_3 : decode cX8_move 3 = .ok (.invokevirtual 176, 3) := by decide +kernel
theorem dX8_move_6 : decode cX8_move 6 = .ok (.ifCond .eq 15, 3) := by decide +kernel
theorem dX8_move_9 : decode cX8_move 9 = .ok (.aload_n 0, 1) := by decide +kernel
theorem dX8_move_10 : decode cX8_move 10 = .ok (.iload_n 2, 1) := by decide +kernel
theorem dX8_move_11 : decode cX8_move 11 = .ok (.invokevirtual 172, 3) := by decide +kernel
theorem dX8_move_14 : decode cX8_move 14 = .ok (.ifCond .eq 7, 3) := by decide +kernel
theorem dX8_move_17 : decode cX8_move 17 = .ok (.iconst 1, 1) := by decide +kernel
theorem dX8_move_18 : decode cX8_move 18 = .ok (.goto 4, 3) := by decide +kernel
theorem dX8_move_21 : decode cX8_move 21 = .ok (.iconst 0, 1) := by decide +kernel
theorem dX8_move_22 : decode cX8_move 22 = .ok (.bipush 20, 2) := by decide +kernel
theorem dX8_move_24 : decode cX8_move 24 = .ok (.iconst 3, 1) := by decide +kernel
theorem dX8_move_25 : decode cX8_move 25 = .ok (.iload_n 1, 1) := by decide +kernel
theorem dX8_move_26 : decode cX8_move 26 = .ok (.imul, 1) := by decide +kernel
theorem dX8_move_27 : decode cX8_move 27 = .ok (.iadd, 1) := by decide +kernel
theorem dX8_move_28 : decode cX8_move 28 = .ok (.iconst 2, 1) := by decide +kernel
theorem dX8_move_29 : decode cX8_move 29 = .ok (.iadd, 1) := by decide +kernel
theorem dX8_move_30 : decode cX8_move 30 = .ok (.iload_n 2, 1) := by decide +kernel
theorem dX8_move_31 : decode cX8_move 31 = .ok (.invokevirtual 187, 3) := by decide +kernel
theorem dX8_move_34 : decode cX8_move 34 = .ok (.ireturn, 1) := by decide +kernel
theorem mkX8_move : mokV qX8_move 2 := ⟨⟨⟨⟨by decide, by decide, by decide +kernel⟩, by decide⟩, gd_mem 59 (by decide +kernel) (by decide +kernel), gd_mem 1122 (by decide +kernel) (by decide +kernel)⟩, gd_mem 1120 (by decide +kernel) (by decide +kernel), gd_mem 1121 (by decide +kernel) (by decide +kernel)⟩
abbrev qX8_see : mMI := (yX8_see, cX8_see, 3, (some .int), 2)
theorem dX8_see_0 : decode cX8_see 0 = .ok (.aload_n 0, 1) := by decide +kernel
theorem dX8_see_1 : decode cX8_see 1 = .ok (.iload_n 1, 1) := by decide +kernel
theorem dX8_see_2 : decode cX8_see 2 = .ok (.invokevirtual 172, 3) := by decide +kernel
theorem dX8_see_5 : decode cX8_see 5 = .ok (.ifCond .eq 15, 3) := by decide +kernel
theorem dX8_see_8 : decode cX8_see 8 = .ok (.iload_n 2, 1) := by decide +kernel
theorem dX8_see_9 : decode cX8_see 9 = .ok (.i2l, 1) := by decide +kernel
theorem dX8_see_10 : decode cX8_see 10 = .ok (.lconst 0, 1) := by decide +kernel
theorem dX8_see_11 : decode cX8_see 11 = .ok (.ldc2_w 245, 3) := by decide +kernel
theorem dX8_see_14 : decode cX8_see 14 = .ok (.invokestatic 67, 3) := by decide +kernel
theorem dX8_see_17 : decode cX8_see 17 = .ok (.ifCond .ne 5, 3) := by decide +kernel
theorem dX8_see_20 : decode cX8_see 20 = .ok (.iconst (-1), 1) := by decide +kernel
theorem dX8_see_21 : decode cX8_see 21 = .ok (.ireturn, 1) := by decide +kernel
theorem dX8_see_22 : decode cX8_see 22 = .ok (.aload_n 0, 1) := by decide +kernel
theorem dX8_see_23 : decode cX8_see 23 = .ok (.getfield 149, 3) := by decide +kernel
theorem dX8_see_26 : decode cX8_see 26 = .ok (.bipush 6, 2) := by decide +kernel
theorem dX8_see_28 : decode cX8_see 28 = .ok (.if_icmp .ne 6, 3) := by decide +kernel
theorem dX8_see_31 : decode cX8_see 31 = .ok (.bipush (-3), 2) := by decide +kernel
theorem dX8_see_33 : decode cX8_see 33 = .ok (.ireturn, 1) := by decide +kernel
theorem dX8_see_34 : decode cX8_see 34 = .ok (.aload_n 0, 1) := by decide +kernel
theorem dX8_see_35 : decode cX8_see 35 = .ok (.getfield 49, 3) := by decide +kernel
theorem dX8_see_38 : decode cX8_see 38 = .ok (.iconst 2, 1) := by decide +kernel
theorem dX8_see_39 : decode cX8_see 39 = .ok (.aload_n 0, 1) := by decide +kernel
theorem dX8_see_40 : decode cX8_see 40 = .ok (.getfield 149, 3) := by decide +kernel
theorem dX8_see_43 : decode cX8_see 43 = .ok (.imul, 1) := by decide +kernel
theorem dX8_see_44 : decode cX8_see 44 = .ok (.iload_n 1, 1) := by decide +kernel
theorem dX8_see_45 : decode cX8_see 45 = .ok (.iastore, 1) := by decide +kernel
theorem dX8_see_46 : decode cX8_see 46 = .ok (.aload_n 0, 1) := by decide +kernel
theorem dX8_see_47 : decode cX8_see 47 = .ok (.getfield 49, 3) := by decide +kernel
theorem dX8_see_50 : decode cX8_see 50 = .ok (.iconst 2, 1) := by decide +kernel
theorem dX8_see_51 : decode cX8_see 51 = .ok (.aload_n 0, 1) := by decide +kernel
theorem dX8_see_52 : decode cX8_see 52 = .ok (.getfield 149, 3) := by decide +kernel
theorem dX8_see_55 : decode cX8_see 55 = .ok (.imul, 1) := by decide +kernel
theorem dX8_see_56 : decode cX8_see 56 = .ok (.iconst 1, 1) := by decide +kernel
theorem dX8_see_57 : decode cX8_see 57 = .ok (.iadd, 1) := by decide +kernel
theorem dX8_see_58 : decode cX8_see 58 = .ok (.iload_n 2, 1) := by decide +kernel
theorem dX8_see_59 : decode cX8_see 59 = .ok (.iastore, 1) := by decide +kernel
theorem dX8_see_60 : decode cX8_see 60 = .ok (.aload_n 0, 1) := by decide +kernel
theorem dX8_see_61 : decode cX8_see 61 = .ok (.dup, 1) := by decide +kernel
theorem dX8_see_62 : decode cX8_see 62 = .ok (.getfield 149, 3) := by decide +kernel
theorem dX8_see_65 : decode cX8_see 65 = .ok (.iconst 1, 1) := by decide +kernel
theorem dX8_see_66 : decode cX8_see 66 = .ok (.iadd, 1) := by decide +kernel
theorem dX8_see_67 : decode cX8_see 67 = .ok (.putfield 149, 3) := by decide +kernel
theorem dX8_see_70 : decode cX8_see 70 = .ok (.aload_n 0, 1) := by decide +kernel
theorem dX8_see_71 : decode cX8_see 71 = .ok (.getfield 149, 3) := by decide +kernel
theorem dX8_see_74 : decode cX8_see 74 = .ok (.ireturn, 1) := by decide +kernel
theorem mkX8_see : mokV qX8_see 2 := ⟨⟨⟨⟨by decide, by decide, by decide +kernel⟩, by decide⟩, gd_mem 59 (by decide +kernel) (by decide +kernel), gd_mem 1251 (by decide +kernel) (by decide +kernel)⟩, gd_mem 1249 (by decide +kernel) (by decide +kernel), gd_mem 1250 (by decide +kernel) (by decide +kernel)⟩
abbrev qX8_readMore : mMI := (yX8_readMore, cX8_readMore, 3, none, 3)
theorem dX8_readMore_0 : decode cX8_readMore 0 = .ok (.iload_n 1, 1) := by decide +kernel
theorem dX8_readMore_1 : decode cX8_readMore 1 = .ok (.iconst 3, 1) := by decide +kernel
theorem dX8_readMore_2 : decode cX8_readMore 2 = .ok (.if_icmp .gt 64, 3) := by decide +kernel
theorem dX8_readMore_5 : decode cX8_readMore 5 = .ok (.aload_n 0, 1) := by decide +kernel
theorem dX8_readMore_6 : decode cX8_readMore 6 = .ok (.getfield 22, 3) := by decide +kernel
theorem dX8_readMore_9 : decode cX8_readMore 9 = .ok (.aload_n 0, 1) := by decide +kernel
theorem dX8_readMore_10 : decode cX8_readMore 10 = .ok (.getfield 112, 3) := by decide +kernel
theorem dX8_readMore_13 : decode cX8_readMore 13 = .ok (.iload_n 1, 1) := by decide +kernel
theorem dX8_readMore_14 : decode cX8_readMore 14 = .ok (.iastore, 1) := by decide +kernel
theorem dX8_readMore_15 : decode cX8_readMore 15 = .ok (.aload_n 0, 1) := by decide +kernel
theorem dX8_readMore_16 : decode cX8_readMore 16 = .ok (.getfield 19, 3) := by decide +kernel
theorem dX8_readMore_19 : decode cX8_readMore 19 = .ok (.iconst 2, 1) := by decide +kernel
theorem dX8_readMore_20 : decode cX8_readMore 20 = .ok (.aload_n 0, 1) := by decide +kernel
theorem dX8_readMore_21 : decode cX8_readMore 21 = .ok (.getfield 112, 3) := by decide +kernel
theorem dX8_readMore_24 : decode cX8_readMore 24 = .ok (.imul, 1) := by decide +kernel
theorem dX8_readMore_25 : decode cX8_readMore 25 = .ok (.aload_n 0, 1) := by decide +kernel
theorem dX8_readMore_26 : decode cX8_readMore 26 = .ok (.iconst 0, 1) := by decide +kernel
theorem dX8_readMore_27 : decode cX8_readMore 27 = .ok (.bipush 60, 2) := by decide +kernel
theorem dX8_readMore_29 : decode cX8_readMore 29 = .ok (.invokevirtual 115, 3) := by decide +kernel
theorem dX8_readMore_32 : decode cX8_readMore 32 = .ok (.iastore, 1) := by decide +kernel
theorem dX8_readMore_33 : decode cX8_readMore 33 = .ok (.aload_n 0, 1) := by decide +kernel
theorem dX8_readMore_34 : decode cX8_readMore 34 = .ok (.getfield 19, 3) := by decide +kernel
theorem dX8_readMore_37 : decode cX8_readMore 37 = .ok (.iconst 2, 1) := by decide +kernel
theorem dX8_readMore_38 : decode cX8_readMore 38 = .ok (.aload_n 0, 1) := by decide +kernel
theorem dX8_readMore_39 : decode cX8_readMore 39 = .ok (.getfield 112, 3) := by decide +kernel
theorem dX8_readMore_42 : decode cX8_readMore 42 = .ok (.imul, 1) := by decide +kernel
theorem dX8_readMore_43 : decode cX8_readMore 43 = .ok (.iconst 1, 1) := by decide +kernel
theorem dX8_readMore_44 : decode cX8_readMore 44 = .ok (.iadd, 1) := by decide +kernel
theorem dX8_readMore_45 : decode cX8_readMore 45 = .ok (.aload_n 0, 1) := by decide +kernel
theorem dX8_readMore_46 : decode cX8_readMore 46 = .ok (.iconst 0, 1) := by decide +kernel
theorem dX8_readMore_47 : decode cX8_readMore 47 = .ok (.bipush 99, 2) := by decide +kernel
theorem dX8_readMore_49 : decode cX8_readMore 49 = .ok (.invokevirtual 115, 3) := by decide +kernel
theorem dX8_readMore_52 : decode cX8_readMore 52 = .ok (.iastore, 1) := by decide +kernel
theorem dX8_readMore_53 : decode cX8_readMore 53 = .ok (.aload_n 0, 1) := by decide +kernel
theorem dX8_readMore_54 : decode cX8_readMore 54 = .ok (.dup, 1) := by decide +kernel
theorem dX8_readMore_55 : decode cX8_readMore 55 = .ok (.getfield 112, 3) := by decide +kernel
theorem dX8_readMore_58 : decode cX8_readMore 58 = .ok (.iconst 1, 1) := by decide +kernel
theorem dX8_readMore_59 : decode cX8_readMore 59 = .ok (.iadd, 1) := by decide +kernel
theorem dX8_readMore_60 : decode cX8_readMore 60 = .ok (.putfield 112, 3) := by decide +kernel
theorem dX8_readMore_63 : decode cX8_readMore 63 = .ok (.goto 162, 3) := by decide +kernel
theorem dX8_readMore_66 : decode cX8_readMore 66 = .ok (.iload_n 1, 1) := by decide +kernel
theorem dX8_readMore_67 : decode cX8_readMore 67 = .ok (.iconst 4, 1) := by decide +kernel
theorem dX8_readMore_68 : decode cX8_readMore 68 = .ok (.if_icmp .ne 117, 3) := by decide +kernel
theorem dX8_readMore_71 : decode cX8_readMore 71 = .ok (.bipush 20, 2) := by decide +kernel
theorem dX8_readMore_73 : decode cX8_readMore 73 = .ok (.iconst 3, 1) := by decide +kernel
theorem dX8_readMore_74 : decode cX8_readMore 74 = .ok (.aload_n 0, 1) := by decide +kernel
theorem dX8_readMore_75 : decode cX8_readMore 75 = .ok (.getfield 119, 3) := by decide +kernel
theorem dX8_readMore_78 : decode cX8_readMore 78 = .ok (.imul, 1) := by decide +kernel
theorem dX8_readMore_79 : decode cX8_readMore 79 = .ok (.iadd, 1) := by decide +kernel
theorem dX8_readMore_80 : decode cX8_readMore 80 = .ok (.istore_n 2, 1) := by decide +kernel
theorem dX8_readMore_81 : decode cX8_readMore 81 = .ok (.aload_n 0, 1) := by decide +kernel
theorem dX8_readMore_82 : decode cX8_readMore 82 = .ok (.getfield 25, 3) := by decide +kernel
theorem dX8_readMore_85 : decode cX8_readMore 85 = .ok (.aload_n 0, 1) := by decide +kernel
theorem dX8_readMore_86 : decode cX8_readMore 86 = .ok (.getfield 119, 3) := by decide +kernel
theorem dX8_readMore_89 : decode cX8_readMore 89 = .ok (.aload_n 0, 1) := by decide +kernel
theorem dX8_readMore_90 : decode cX8_readMore 90 = .ok (.iconst 1, 1) := by decide +kernel
theorem dX8_readMore_91 : decode cX8_readMore 91 = .ok (.iconst 4, 1) := by decide +kernel
theorem dX8_readMore_92 : decode cX8_readMore 92 = .ok (.invokevirtual 115, 3) := by decide +kernel
theorem dX8_readMore_95 : decode cX8_readMore 95 = .ok (.iastore, 1) := by decide +kernel
theorem dX8_readMore_96 : decode cX8_readMore 96 = .ok (.aload_n 0, 1) := by decide +kernel
theorem dX8_readMore_97 : decode cX8_readMore 97 = .ok (.getfield 19, 3) := by decide +kernel
theorem dX8_readMore_100 : decode cX8_readMore 100 = .ok (.iload_n 2, 1) := by decide +kernel
theorem dX8_readMore_101 : decode cX8_readMore 101 = .ok (.aload_n 0, 1) := by decide +kernel
theorem dX8_readMore_102 : decode cX8_readMore 102 = .ok (.iconst 0, 1) := by decide +kernel
theorem dX8_readMore_103 : decode cX8_readMore 103 = .ok (.iconst 3, 1) := by decide +kernel
theorem dX8_readMore_104 : decode cX8_readMore 104 = .ok (.invokevirtual 115, 3) := by decide +kernel
theorem dX8_readMore_107 : decode cX8_readMore 107 = .ok (.iastore, 1) := by decide +kernel
theorem dX8_readMore_108 : decode cX8_readMore 108 = .ok (.aload_n 0, 1) := by decide +kernel
theorem dX8_readMore_109 : decode cX8_readMore 109 = .ok (.getfield 19, 3) := by decide +kernel
theorem dX8_readMore_112 : decode cX8_readMore 112 = .ok (.iload_n 2, 1) := by decide +kernel
theorem dX8_readMore_113 : decode cX8_readMore 113 = .ok (.iconst 1, 1) := by decide +kernel
theorem dX8_readMore_114 : decode cX8_readMore 114 = .ok (.iadd, 1) := by decide +kernel
theorem dX8_readMore_115 : decode cX8_readMore 115 = .ok (.aload_n 0, 1) := by decide +kernel
theorem dX8_readMore_116 : decode cX8_readMore 116 = .ok (.iconst 0, 1) := by decide +kernel
theorem dX8_readMore_117 : decode cX8_readMore 117 = .ok (.bipush 9, 2) := by decide +kernel
theorem dX8_readMore_119 : decode cX8_readMore 119 = .ok (.invokevirtual 115, 3) := by decide +kernel
theorem dX8_readMore_122 : decode cX8_readMore 122 = .ok (.iastore, 1) := by decide +kernel
theorem dX8_readMore_123 : decode cX8_readMore 123 = .ok (.aload_n 0, 1) := by decide +kernel
theorem dX8_readMore_124 : decode cX8_readMore 124 = .ok (.getfield 19, 3) := by decide +kernel
theorem dX8_readMore_127 : decode cX8_readMore 127 = .ok (.iload_n 2, 1) := by decide +kernel
theorem dX8_readMore_128 : decode cX8_readMore 128 = .ok (.iconst 2, 1) := by decide +kernel
theorem dX8_readMore_129 : decode cX8_readMore 129 = .ok (.iadd, 1) := by decide +kernel
theorem dX8_readMore_130 : decode cX8_readMore 130 = .ok (.aload_n 0, 1) := by decide +kernel
theorem dX8_readMore_131 : decode cX8_readMore 131 = .ok (.iconst 0, 1) := by decide +kernel
theorem dX8_readMore_132 : decode cX8_readMore 132 = .ok (.bipush 9, 2) := by decide +kernel
theorem dX8_readMore_134 : decode cX8_readMore 134 = .ok (.invokevirtual 115, 3) := by decide +kernel
theorem dX8_readMore_137 : decode cX8_readMore 137 = .ok (.iastore, 1) := by decide +kernel
theorem dX8_readMore_138 : decode cX8_readMore 138 = .ok (.aload_n 0, 1) := by decide +kernel
theorem dX8_readMore_139 : decode cX8_readMore 139 = .ok (.aload_n 0, 1) := by decide +kernel
theorem dX8_readMore_140 : decode cX8_readMore 140 = .ok (.getfield 19, 3) := by decide +kernel
theorem dX8_readMore_143 : decode cX8_readMore 143 = .ok (.iload_n 2, 1) := by decide +kernel
theorem dX8_readMore_144 : decode cX8_readMore 144 = .ok (.iconst 2, 1) := by decide +kernel
theorem dX8_readMore_145 : decode cX8_readMore 145 = .ok (.iadd, 1) := by decide +kernel
theorem dX8_readMore_146 : decode cX8_readMore 146 = .ok (.iaload, 1) := by decide +kernel
theorem dX8_readMore_147 : decode cX8_readMore 147 = .ok (.aload_n 0, 1) := by decide +kernel
theorem dX8_readMore_148 : decode cX8_readMore 148 = .ok (.getfield 122, 3) := by decide +kernel
theorem dX8_readMore_151 : decode cX8_readMore 151 = .ok (.if_icmp .le 14, 3) := by decide +kernel
theorem dX8_readMore_154 : decode cX8_readMore 154 = .ok (.aload_n 0, 1) := by decide +kernel
theorem dX8_readMore_155 : decode cX8_readMore 155 = .ok (.getfield 19, 3) := by decide +kernel
theorem dX8_readMore_158 : decode cX8_readMore 158 = .ok (.iload_n 2, 1) := by decide +kernel
theorem dX8_readMore_159 : decode cX8_readMore 159 = .ok (.iconst 2, 1) := by decide +kernel
theorem dX8_readMore_160 : decode cX8_readMore 160 = .ok (.iadd, 1) := by decide +kernel
theorem dX8_readMore_161 : decode cX8_readMore 161 = .ok (.iaload, 1) := by decide +kernel
theorem dX8_readMore_162 : decode cX8_readMore 162 = .ok (.goto 7, 3) := by decide +kernel
theorem dX8_readMore_165 : decode cX8_readMore 165 = .ok (.aload_n 0, 1) := by decide +kernel
theorem dX8_readMore_166 : decode cX8_readMore 166 = .ok (.getfield 122, 3) := by decide +kernel
theorem dX8_readMore_169 : decode cX8_readMore 169 = .ok (.putfield 122, 3) := by decide +kernel
theorem dX8_readMore_172 : decode cX8_readMore 172 = .ok (.aload_n 0, 1) := by decide +kernel
theorem dX8_readMore_173 : decode cX8_readMore 173 = .ok (.dup, 1) := by decide +kernel
theorem dX8_readMore_174 : decode cX8_readMore 174 = .ok (.getfield 119, 3) := by decide +kernel
theorem dX8_readMore_177 : decode cX8_readMore 177 = .ok (.iconst 1, 1) := by decide +kernel
theorem dX8_readMore_178 : decode cX8_readMore 178 = .ok (.iadd, 1) := by decide +kernel
theorem dX8_readMore_179 : decode cX8_readMore 179 = .ok (.putfield 119, 3) := by decide +kernel
theorem dX8_readMore_182 : decode cX8_readMore 182 = .ok (.goto 43, 3) := by decide +kernel
theorem dX8_readMore_185 : decode cX8_readMore 185 = .ok (.iload_n 1, 1) := by decide +kernel
theorem dX8_readMore_186 : decode cX8_readMore 186 = .ok (.iconst 5, 1) := by decide +kernel
theorem dX8_readMore_187 : decode cX8_readMore 187 = .ok (.if_icmp .ne 21, 3) := by decide +kernel
theorem dX8_readMore_190 : decode cX8_readMore 190 = .ok (.aload_n 0, 1) := by decide +kernel
theorem dX8_readMore_191 : decode cX8_readMore 191 = .ok (.getfield 19, 3) := by decide +kernel
theorem dX8_readMore_194 : decode cX8_readMore 194 = .ok (.bipush 32, 2) := by decide +kernel
theorem dX8_readMore_196 : decode cX8_readMore 196 = .ok (.aload_n 0, 1) := by decide +kernel
theorem dX8_readMore_197 : decode cX8_readMore 197 = .ok (.iconst 0, 1) := by decide +kernel
theorem dX8_readMore_198 : decode cX8_readMore 198 = .ok (.iconst 3, 1) := by decide +kernel
theorem dX8_readMore_199 : decode cX8_readMore 199 = .ok (.invokevirtual 115, 3) := by decide +kernel
theorem dX8_readMore_202 : decode cX8_readMore 202 = .ok (.iconst 1, 1) := by decide +kernel
theorem dX8_readMore_203 : decode cX8_readMore 203 = .ok (.isub, 1) := by decide +kernel
theorem dX8_readMore_204 : decode cX8_readMore 204 = .ok (.iastore, 1) := by decide +kernel
theorem dX8_readMore_205 : decode cX8_readMore 205 = .ok (.goto 20, 3) := by decide +kernel
theorem dX8_readMore_208 : decode cX8_readMore 208 = .ok (.aload_n 0, 1) := by decide +kernel
theorem dX8_readMore_209 : decode cX8_readMore 209 = .ok (.getfield 19, 3) := by decide +kernel
theorem dX8_readMore_212 : decode cX8_readMore 212 = .ok (.bipush 33, 2) := by decide +kernel
theorem dX8_readMore_214 : decode cX8_readMore 214 = .ok (.aload_n 0, 1) := by decide +kernel
theorem dX8_readMore_215 : decode cX8_readMore 215 = .ok (.iconst 1, 1) := by decide +kernel
theorem dX8_readMore_216 : decode cX8_readMore 216 = .ok (.bipush 99, 2) := by decide +kernel
theorem dX8_readMore_218 : decode cX8_readMore 218 = .ok (.invokevirtual 115, 3) := by decide +kernel
theorem dX8_readMore_221 : decode cX8_readMore 221 = .ok (.bipush 30, 2) := by decide +kernel
theorem dX8_readMore_223 : decode cX8_readMore 223 = .ok (.isub, 1) := by decide +kernel
theorem dX8_readMore_224 : decode cX8_readMore 224 = .ok (.iastore, 1) := by decide +kernel
theorem dX8_readMore_225 : decode cX8_readMore 225 = .ok (.return_, 1) := by decide +kernel
theorem mkX8_readMore : mokV qX8_readMore 1 := ⟨⟨⟨⟨by decide, by decide, by decide +kernel⟩, by decide⟩, gd_mem 59 (by decide +kernel) (by decide +kernel), gd_mem 1034 (by decide +kernel) (by decide +kernel)⟩, gd_mem 1033 (by decide +kernel) (by decide +kernel), gd_mem 24 (by decide +kernel) (by decide +kernel)⟩
abbrev qX8_trodden : mMI := (yX8_trodden, cX8_trodden, 4, (some .int), 3)
theorem dX8_trodden_0 : decode cX8_trodden 0 = .ok (.iconst 0, 1) := by decide +kernel
theorem dX8_trodden_1 : decode cX8_trodden 1 = .ok (.istore_n 2, 1) := by decide +kernel
theorem dX8_trodden_2 : decode cX8_trodden 2 = .ok (.iconst 0, 1) := by decide +kernel
theorem dX8_trodden_3 : decode cX8_trodden 3 = .ok (.istore_n 3, 1) := by decide +kernel
theorem dX8_trodden_4 : decode cX8_trodden 4 = .ok (.iload_n 3, 1) := by decide +kernel
theorem dX8_trodden_5 : decode cX8_trodden 5 = .ok (.aload_n 0, 1) := by decide +kernel
theorem dX8_trodden_6 : decode cX8_trodden 6 = .ok (.getfield 143, 3) := by decide +kernel
theorem dX8_trodden_9 : decode cX8_trodden 9 = .ok (.if_icmp .ge 29, 3) := by decide +kernel
theorem dX8_trodden_12 : decode cX8_trodden 12 = .ok (.iload_n 2, 1) := by decide +kernel
theorem dX8_trodden_13 : decode cX8_trodden 13 = .ok (.aload_n 0, 1) := by decide +kernel
theorem dX8_trodden_14 : decode cX8_trodden 14 = .ok (.iconst 0, 1) := by decide +kernel
theorem dX8_trodden_15 : decode cX8_trodden 15 = .ok (.iload_n 1, 1) := by decide +kernel
theorem dX8_trodden_16 : decode cX8_trodden 16 = .ok (.iload_n 3, 1) := by decide +kernel
theorem dX8_trodden_17 : decode cX8_trodden 17 = .ok (.invokevirtual 168, 3) := by decide +kernel
theorem dX8_trodden_20 : decode cX8_trodden 20 = .ok (.ifCond .eq 9, 3) := by decide +kernel
theorem dX8_trodden_23 : decode cX8_trodden 23 = .ok (.iconst 1, 1) := by decide +kernel
theorem dX8_trodden_24 : decode cX8_trodden 24 = .ok (.iload_n 3, 1) := by decide +kernel
theorem dX8_trodden_25 : decode cX8_trodden 25 = .ok (.ishl, 1) := by decide +kernel
theorem dX8_trodden_26 : decode cX8_trodden 26 = .ok (.goto 4, 3) := by decide +kernel
theorem dX8_trodden_29 : decode cX8_trodden 29 = .ok (.iconst 0, 1) := by decide +kernel
theorem dX8_trodden_30 : decode cX8_trodden 30 = .ok (.ior, 1) := by decide +kernel
theorem dX8_trodden_31 : decode cX8_trodden 31 = .ok (.istore_n 2, 1) := by decide +kernel
theorem dX8_trodden_32 : decode cX8_trodden 32 = .ok (.iinc 3 1, 3) := by decide +kernel
theorem dX8_trodden_35 : decode cX8_trodden 35 = .ok (.goto (-31), 3) := by decide +kernel
theorem dX8_trodden_38 : decode cX8_trodden 38 = .ok (.iload_n 2, 1) := by decide +kernel
theorem dX8_trodden_39 : decode cX8_trodden 39 = .ok (.ireturn, 1) := by decide +kernel
theorem mkX8_trodden : mokV qX8_trodden 1 := ⟨⟨⟨⟨by decide, by decide, by decide +kernel⟩, by decide⟩, gd_mem 59 (by decide +kernel) (by decide +kernel), gd_mem 1086 (by decide +kernel) (by decide +kernel)⟩, gd_mem 1085 (by decide +kernel) (by decide +kernel), gd_mem 33 (by decide +kernel) (by decide +kernel)⟩
abbrev qX8_layFewest : mMI := (yX8_layFewest, cX8_layFewest, 8, none, 3)
theorem dX8_layFewest_0 : decode cX8_layFewest 0 = .ok (.aload_n 0, 1) := by decide +kernel
theorem dX8_layFewest_1 : decode cX8_layFewest 1 = .ok (.getfield 7, 3) := by decide +kernel
theorem dX8_layFewest_4 : decode cX8_layFewest 4 = .ok (.iload_n 1, 1) := by decide +kernel
theorem dX8_layFewest_5 : decode cX8_layFewest 5 = .ok (.bipush 20, 2) := by decide +kernel
theorem dX8_layFewest_7 : decode cX8_layFewest 7 = .ok (.iadd, 1) := by decide +kernel
theorem dX8_layFewest_8 : decode cX8_layFewest 8 = .ok (.iconst 3, 1) := by decide +kernel
theorem dX8_layFewest_9 : decode cX8_layFewest 9 = .ok (.iload_n 2, 1) := by decide +kernel
theorem dX8_layFewest_10 : decode cX8_layFewest 10 = .ok (.imul, 1) := by decide +kernel
theorem dX8_layFewest_11 : decode cX8_layFewest 11 = .ok (.iadd, 1) := by decide +kernel
theorem dX8_layFewest_12 : decode cX8_layFewest 12 = .ok (.iconst 2, 1) := by decide +kernel
theorem dX8_layFewest_13 : decode cX8_layFewest 13 = .ok (.iadd, 1) := by decide +kernel
theorem dX8_layFewest_14 : decode cX8_layFewest 14 = .ok (.iaload, 1) := by decide +kernel
theorem dX8_layFewest_15 : decode cX8_layFewest 15 = .ok (.istore_n 3, 1) := by decide +kernel
theorem dX8_layFewest_16 : decode cX8_layFewest 16 = .ok (.aload_n 0, 1) := by decide +kernel
theorem dX8_layFewest_17 : decode cX8_layFewest 17 = .ok (.iload_n 1, 1) := by decide +kernel
theorem dX8_layFewest_18 : decode cX8_layFewest 18 = .ok (.iload_n 2, 1) := by decide +kernel
theorem dX8_layFewest_19 : decode cX8_layFewest 19 = .ok (.invokevirtual 179, 3) := by decide +kernel
theorem dX8_layFewest_22 : decode cX8_layFewest 22 = .ok (.istore 4, 2) := by decide +kernel
theorem dX8_layFewest_24 : decode cX8_layFewest 24 = .ok (.iload_n 3, 1) := by decide +kernel
theorem dX8_layFewest_25 : decode cX8_layFewest 25 = .ok (.iconst 1, 1) := by decide +kernel
theorem dX8_layFewest_26 : decode cX8_layFewest 26 = .ok (.iadd, 1) := by decide +kernel
theorem dX8_layFewest_27 : decode cX8_layFewest 27 = .ok (.istore 5, 2) := by decide +kernel
theorem dX8_layFewest_29 : decode cX8_layFewest 29 = .ok (.iload 5, 2) := by decide +kernel
theorem dX8_layFewest_31 : decode cX8_layFewest 31 = .ok (.ifCond .lt 120, 3) := by decide +kernel
theorem dX8_layFewest_34 : decode cX8_layFewest 34 = .ok (.aload_n 0, 1) := by decide +kernel
theorem dX8_layFewest_35 : decode cX8_layFewest 35 = .ok (.getfield 37, 3) := by decide +kernel
theorem dX8_layFewest_38 : decode cX8_layFewest 38 = .ok (.iload 5, 2) := by decide +kernel
theorem dX8_layFewest_40 : decode cX8_layFewest 40 = .ok (.iload 5, 2) := by decide +kernel
theorem dX8_layFewest_42 : decode cX8_layFewest 42 = .ok (.iload_n 3, 1) := by decide +kernel
theorem dX8_layFewest_43 : decode cX8_layFewest 43 = .ok (.iconst 1, 1) := by decide +kernel
theorem dX8_layFewest_44 : decode cX8_layFewest 44 = .ok (.iadd, 1) := by decide +kernel
theorem dX8_layFewest_45 : decode cX8_layFewest 45 = .ok (.if_icmp .ne 7, 3) := by decide +kernel
theorem dX8_layFewest_48 : decode cX8_layFewest 48 = .ok (.iconst 0, 1) := by decide +kernel
theorem dX8_layFewest_49 : decode cX8_layFewest 49 = .ok (.goto 5, 3) := by decide +kernel
theorem dX8_layFewest_52 : decode cX8_layFewest 52 = .ok (.bipush 100, 2) := by decide +kernel
theorem dX8_layFewest_54 : decode cX8_layFewest 54 = .ok (.iastore, 1) := by decide +kernel
theorem dX8_layFewest_55 : decode cX8_layFewest 55 = .ok (.iload 5, 2) := by decide +kernel
theorem dX8_layFewest_57 : decode cX8_layFewest 57 = .ok (.iconst 1, 1) := by decide +kernel
theorem dX8_layFewest_58 : decode cX8_layFewest 58 = .ok (.iadd, 1) := by decide +kernel
theorem dX8_layFewest_59 : decode cX8_layFewest 59 = .ok (.istore 6, 2) := by decide +kernel
theorem dX8_layFewest_61 : decode cX8_layFewest 61 = .ok (.iload 6, 2) := by decide +kernel
theorem dX8_layFewest_63 : decode cX8_layFewest 63 = .ok (.iload 5, 2) := by decide +kernel
theorem dX8_layFewest_65 : decode cX8_layFewest 65 = .ok (.iload 4, 2) := by decide +kernel
theorem dX8_layFewest_67 : decode cX8_layFewest 67 = .ok (.iadd, 1) := by decide +kernel
theorem dX8_layFewest_68 : decode cX8_layFewest 68 = .ok (.if_icmp .gt 77, 3) := by decide +kernel
theorem dX8_layFewest_71 : decode cX8_layFewest 71 = .ok (.iload 6, 2) := by decide +kernel
theorem dX8_layFewest_73 : decode cX8_layFewest 73 = .ok (.iload_n 3, 1) := by decide +kernel
theorem dX8_layFewest_74 : decode cX8_layFewest 74 = .ok (.iconst 1, 1) := by decide +kernel
theorem dX8_layFewest_75 : decode cX8_layFewest 75 = .ok (.iadd, 1) := by decide +kernel
theorem dX8_layFewest_76 : decode cX8_layFewest 76 = .ok (.if_icmp .gt 69, 3) := by decide +kernel
theorem dX8_layFewest_79 : decode cX8_layFewest 79 = .ok (.aload_n 0, 1) := by decide +kernel
theorem dX8_layFewest_80 : decode cX8_layFewest 80 = .ok (.iload_n 1, 1) := by decide +kernel
theorem dX8_layFewest_81 : decode cX8_layFewest 81 = .ok (.iload_n 2, 1) := by decide +kernel
theorem dX8_layFewest_82 : decode cX8_layFewest 82 = .ok (.iload 6, 2) := by decide +kernel
theorem dX8_layFewest_84 : decode cX8_layFewest 84 = .ok (.iconst 1, 1) := by decide +kernel
theorem dX8_layFewest_85 : decode cX8_layFewest 85 = .ok (.isub, 1) := by decide +kernel
theorem dX8_layFewest_86 : decode cX8_layFewest 86 = .ok (.invokevirtual 168, 3) := by decide +kernel
theorem dX8_layFewest_89 : decode cX8_layFewest 89 = .ok (.ifCond .eq 15, 3) := by decide +kernel
theorem dX8_layFewest_92 : decode cX8_layFewest 92 = .ok (.iconst 1, 1) := by decide +kernel
theorem dX8_layFewest_93 : decode cX8_layFewest 93 = .ok (.aload_n 0, 1) := by decide +kernel
theorem dX8_layFewest_94 : decode cX8_layFewest 94 = .ok (.getfield 37, 3) := by decide +kernel
theorem dX8_layFewest_97 : decode cX8_layFewest 97 = .ok (.iload 6, 2) := by decide +kernel
theorem dX8_layFewest_99 : decode cX8_layFewest 99 = .ok (.iaload, 1) := by decide +kernel
theorem dX8_layFewest_100 : decode cX8_layFewest 100 = .ok (.iadd, 1) := by decide +kernel
theorem dX8_layFewest_101 : decode cX8_layFewest 101 = .ok (.goto 5, 3) := by decide +kernel
theorem dX8_layFewest_104 : decode cX8_layFewest 104 = .ok (.bipush 100, 2) := by decide +kernel
theorem dX8_layFewest_106 : decode cX8_layFewest 106 = .ok (.istore 7, 2) := by decide +kernel
theorem dX8_layFewest_108 : decode cX8_layFewest 108 = .ok (.aload_n 0, 1) := by decide +kernel
theorem dX8_layFewest_109 : decode cX8_layFewest 109 = .ok (.getfield 37, 3) := by decide +kernel
theorem dX8_layFewest_112 : decode cX8_layFewest 112 = .ok (.iload 5, 2) := by decide +kernel
theorem dX8_layFewest_114 : decode cX8_layFewest 114 = .ok (.iload 7, 2) := by decide +kernel
theorem dX8_layFewest_116 : decode cX8_layFewest 116 = .ok (.aload_n 0, 1) := by decide +kernel
theorem dX8_layFewest_117 : decode cX8_layFewest 117 = .ok (.getfield 37, 3) := by decide +kernel
theorem dX8_layFewest_120 : decode cX8_layFewest 120 = .ok (.iload 5, 2) := by decide +kernel
theorem dX8_layFewest_122 : decode cX8_layFewest 122 = .ok (.iaload, 1) := by decide +kernel
theorem dX8_layFewest_123 : decode cX8_layFewest 123 = .ok (.if_icmp .ge 8, 3) := by decide +kernel
theorem dX8_layFewest_126 : decode cX8_layFewest 126 = .ok (.iload 7, 2) := by decide +kernel
theorem dX8_layFewest_128 : decode cX8_layFewest 128 = .ok (.goto 10, 3) := by decide +kernel
theorem dX8_layFewest_131 : decode cX8_layFewest 131 = .ok (.aload_n 0, 1) := by decide +kernel
theorem dX8_layFewest_132 : decode cX8_layFewest 132 = .ok (.getfield 37, 3) := by decide +kernel
theorem dX8_layFewest_135 : decode cX8_layFewest 135 = .ok (.iload 5, 2) := by decide +kernel
theorem dX8_layFewest_137 : decode cX8_layFewest 137 = .ok (.iaload, 1) := by decide +kernel
theorem dX8_layFewest_138 : decode cX8_layFewest 138 = .ok (.iastore, 1) := by decide +kernel
theorem dX8_layFewest_139 : decode cX8_layFewest 139 = .ok (.iinc 6 1, 3) := by decide +kernel
theorem dX8_layFewest_142 : decode cX8_layFewest 142 = .ok (.goto (-81), 3) := by decide +kernel
theorem dX8_layFewest_145 : decode cX8_layFewest 145 = .ok (.iinc 5 (-1), 3) := by decide +kernel
theorem dX8_layFewest_148 : decode cX8_layFewest 148 = .ok (.goto (-119), 3) := by decide +kernel
theorem dX8_layFewest_151 : decode cX8_layFewest 151 = .ok (.return_, 1) := by decide +kernel
theorem mkX8_layFewest : mokV qX8_layFewest 2 := ⟨⟨⟨⟨by decide, by decide, by decide +kernel⟩, by decide⟩, gd_mem 59 (by decide +kernel) (by decide +kernel), gd_mem 1144 (by decide +kernel) (by decide +kernel)⟩, gd_mem 1143 (by decide +kernel) (by decide +kernel), gd_mem 37 (by decide +kernel) (by decide +kernel)⟩
abbrev qX8_ways : mMI := (yX8_ways, cX8_ways, 5, (some .int), 3)
theorem dX8_ways_0 : decode cX8_ways 0 = .ok (.aload_n 0, 1) := by decide +kernel
theorem dX8_ways_1 : decode cX8_ways 1 = .ok (.iload_n 1, 1) := by decide +kernel
theorem dX8_ways_2 : decode cX8_ways 2 = .ok (.invokevirtual 176, 3) := by decide +kernel
theorem dX8_ways_5 : decode cX8_ways 5 = .ok (.ifCond .ne 5, 3) := by decide +kernel
theorem dX8_ways_8 : decode cX8_ways 8 = .ok (.iconst (-1), 1) := by decide +kernel
theorem dX8_ways_9 : decode cX8_ways 9 = .ok (.ireturn, 1) := by decide +kernel
theorem dX8_ways_10 : decode cX8_ways 10 = .ok (.aload_n 0, 1) := by decide +kernel
theorem dX8_ways_11 : decode cX8_ways 11 = .ok (.getfield 7, 3) := by decide +kernel
theorem dX8_ways_14 : decode cX8_ways 14 = .ok (.bipush 20, 2) := by decide +kernel
theorem dX8_ways_16 : decode cX8_ways 16 = .ok (.iconst 3, 1) := by decide +kernel
theorem dX8_ways_17 : decode cX8_ways 17 = .ok (.iload_n 1, 1) := by decide +kernel
theorem dX8_ways_18 : decode cX8_ways 18 = .ok (.imul, 1) := by decide +kernel
theorem dX8_ways_19 : decode cX8_ways 19 = .ok (.iadd, 1) := by decide +kernel
theorem dX8_ways_20 : decode cX8_ways 20 = .ok (.iconst 2, 1) := by decide +kernel
theorem dX8_ways_21 : decode cX8_ways 21 = .ok (.iadd, 1) := by decide +kernel
theorem dX8_ways_22 : decode cX8_ways 22 = .ok (.iaload, 1) := by decide +kernel
theorem dX8_ways_23 : decode cX8_ways 23 = .ok (.istore_n 2, 1) := by decide +kernel
theorem dX8_ways_24 : decode cX8_ways 24 = .ok (.iload_n 2, 1) := by decide +kernel
theorem dX8_ways_25 : decode cX8_ways 25 = .ok (.iconst 1, 1) := by decide +kernel
theorem dX8_ways_26 : decode cX8_ways 26 = .ok (.iadd, 1) := by decide +kernel
theorem dX8_ways_27 : decode cX8_ways 27 = .ok (.istore_n 3, 1) := by decide +kernel
theorem dX8_ways_28 : decode cX8_ways 28 = .ok (.iload_n 3, 1) := by decide +kernel
theorem dX8_ways_29 : decode cX8_ways 29 = .ok (.ifCond .lt 92, 3) := by decide +kernel
theorem dX8_ways_32 : decode cX8_ways 32 = .ok (.aload_n 0, 1) := by decide +kernel
theorem dX8_ways_33 : decode cX8_ways 33 = .ok (.getfield 43, 3) := by decide +kernel
theorem dX8_ways_36 : decode cX8_ways 36 = .ok (.iload_n 3, 1) := by decide +kernel
theorem dX8_ways_37 : decode cX8_ways 37 = .ok (.iload_n 3, 1) := by decide +kernel
theorem dX8_ways_38 : decode cX8_ways 38 = .ok (.iload_n 2, 1) := by decide +kernel
theorem dX8_ways_39 : decode cX8_ways 39 = .ok (.iconst 1, 1) := by decide +kernel
theorem dX8_ways_40 : decode cX8_ways 40 = .ok (.iadd, 1) := by decide +kernel
theorem dX8_ways_41 : decode cX8_ways 41 = .ok (.if_icmp .ne 7, 3) := by decide +kernel
theorem dX8_ways_44 : decode cX8_ways 44 = .ok (.iconst 1, 1) := by decide +kernel
theorem dX8_ways_45 : decode cX8_ways 45 = .ok (.goto 4, 3) := by decide +kernel
theorem dX8_ways_48 : decode cX8_ways 48 = .ok (.iconst 0, 1) := by decide +kernel
theorem dX8_ways_49 : decode cX8_ways 49 = .ok (.iastore, 1) := by decide +kernel
theorem dX8_ways_50 : decode cX8_ways 50 = .ok (.iload_n 3, 1) := by decide +kernel
theorem dX8_ways_51 : decode cX8_ways 51 = .ok (.iconst 1, 1) := by decide +kernel
theorem dX8_ways_52 : decode cX8_ways 52 = .ok (.iadd, 1) := by decide +kernel
theorem dX8_ways_53 : decode cX8_ways 53 = .ok (.istore 4, 2) := by decide +kernel
theorem dX8_ways_55 : decode cX8_ways 55 = .ok (.iload 4, 2) := by decide +kernel
theorem dX8_ways_57 : decode cX8_ways 57 = .ok (.iload_n 3, 1) := by decide +kernel
theorem dX8_ways_58 : decode cX8_ways 58 = .ok (.aload_n 0, 1) := by decide +kernel
theorem dX8_ways_59 : decode cX8_ways 59 = .ok (.iconst 0, 1) := by decide +kernel
theorem dX8_ways_60 : decode cX8_ways 60 = .ok (.iload_n 1, 1) := by decide +kernel
theorem dX8_ways_61 : decode cX8_ways 61 = .ok (.invokevirtual 179, 3) := by decide +kernel
theorem dX8_ways_64 : decode cX8_ways 64 = .ok (.iadd, 1) := by decide +kernel
theorem dX8_ways_65 : decode cX8_ways 65 = .ok (.if_icmp .gt 50, 3) := by decide +kernel
theorem dX8_ways_68 : decode cX8_ways 68 = .ok (.iload 4, 2) := by decide +kernel
theorem dX8_ways_70 : decode cX8_ways 70 = .ok (.iload_n 2, 1) := by decide +kernel
theorem dX8_ways_71 : decode cX8_ways 71 = .ok (.iconst 1, 1) := by decide +kernel
theorem dX8_ways_72 : decode cX8_ways 72 = .ok (.iadd, 1) := by decide +kernel
theorem dX8_ways_73 : decode cX8_ways 73 = .ok (.if_icmp .gt 42, 3) := by decide +kernel
theorem dX8_ways_76 : decode cX8_ways 76 = .ok (.aload_n 0, 1) := by decide +kernel
theorem dX8_ways_77 : decode cX8_ways 77 = .ok (.getfield 43, 3) := by decide +kernel
theorem dX8_ways_80 : decode cX8_ways 80 = .ok (.iload_n 3, 1) := by decide +kernel
theorem dX8_ways_81 : decode cX8_ways 81 = .ok (.dup2, 1) := by decide +kernel
theorem dX8_ways_82 : decode cX8_ways 82 = .ok (.iaload, 1) := by decide +kernel
theorem dX8_ways_83 : decode cX8_ways 83 = .ok (.aload_n 0, 1) := by decide +kernel
theorem dX8_ways_84 : decode cX8_ways 84 = .ok (.iconst 0, 1) := by decide +kernel
theorem dX8_ways_85 : decode cX8_ways 85 = .ok (.iload_n 1, 1) := by decide +kernel
theorem dX8_ways_86 : decode cX8_ways 86 = .ok (.iload 4, 2) := by decide +kernel
theorem dX8_ways_88 : decode cX8_ways 88 = .ok (.iconst 1, 1) := by decide +kernel
theorem dX8_ways_89 : decode cX8_ways 89 = .ok (.isub, 1) := by decide +kernel
theorem dX8_ways_90 : decode cX8_ways 90 = .ok (.invokevirtual 168, 3) := by decide +kernel
theorem dX8_ways_93 : decode cX8_ways 93 = .ok (.ifCond .eq 13, 3) := by decide +kernel
theorem dX8_ways_96 : decode cX8_ways 96 = .ok (.aload_n 0, 1) := by decide +kernel
theorem dX8_ways_97 : decode cX8_ways 97 = .ok (.getfield 43, 3) := by decide +kernel
theorem dX8_ways_100 : decode cX8_ways 100 = .ok (.iload 4, 2) := by decide +kernel
theorem dX8_ways_102 : decode cX8_ways 102 = .ok (.iaload, 1) := by decide +kernel
theorem dX8_ways_103 : decode cX8_ways 103 = .ok (.goto 4, 3) := by decide +kernel
theorem dX8_ways_106 : decode cX8_ways 106 = .ok (.iconst 0, 1) := by decide +kernel
theorem dX8_ways_107 : decode cX8_ways 107 = .ok (.iadd, 1) := by decide +kernel
theorem dX8_ways_108 : decode cX8_ways 108 = .ok (.iastore, 1) := by decide +kernel
theorem dX8_ways_109 : decode cX8_ways 109 = .ok (.iinc 4 1, 3) := by decide +kernel
theorem dX8_ways_112 : decode cX8_ways 112 = .ok (.goto (-57), 3) := by decide +kernel
theorem dX8_ways_115 : decode cX8_ways 115 = .ok (.iinc 3 (-1), 3) := by decide +kernel
theorem dX8_ways_118 : decode cX8_ways 118 = .ok (.goto (-90), 3) := by decide +kernel
theorem dX8_ways_121 : decode cX8_ways 121 = .ok (.aload_n 0, 1) := by decide +kernel
theorem dX8_ways_122 : decode cX8_ways 122 = .ok (.getfield 43, 3) := by decide +kernel
theorem dX8_ways_125 : decode cX8_ways 125 = .ok (.iconst 0, 1) := by decide +kernel
theorem dX8_ways_126 : decode cX8_ways 126 = .ok (.iaload, 1) := by decide +kernel
theorem dX8_ways_127 : decode cX8_ways 127 = .ok (.ireturn, 1) := by decide +kernel
theorem mkX8_ways : mokV qX8_ways 1 := ⟨⟨⟨⟨by decide, by decide, by decide +kernel⟩, by decide⟩, gd_mem 59 (by decide +kernel) (by decide +kernel), gd_mem 1148 (by decide +kernel) (by decide +kernel)⟩, gd_mem 1146 (by decide +kernel) (by decide +kernel), gd_mem 1147 (by decide +kernel) (by decide +kernel)⟩
def fX8_in (x0 : Int64) (x2 : Int64) (x4 : Int64) (m : mMem) : mR := if (lg_cmp x0 x2) < (0 : Int32) then some (some (.int (0 : Int32)), m) else if (0 : Int32) < (lg_cmp x0 x4) then some (some (.int (0 : Int32)), m) else some (some (.int (1 : Int32)), m)
set_option maxRecDepth 100000 in
theorem bsX8_in (l : Launch) (x0 : Int64) (x2 : Int64) (x4 : Int64) (m : mMem)  : BS l qX8_in [.long x0, .long x2, .long x4] m (fX8_in x0 x2 x4 m) := BS_of (by decide) (Nat.le_of_ble_eq_true rfl) (fun X _ => by
    show T qX8_in X (fX8_in x0 x2 x4 m) 0 [(0, .long x0), (2, .long x2), (4, .long x4)] [] m
    unfold fX8_in
    refine T_lload_n 0 rfl rfl dX8_in_0 ?_
    refine T_lload_n 1 rfl rfl dX8_in_1 ?_
    refine T_lcmp dX8_in_2 ?_
    refine T_if_lt 17 dX8_in_3 (by decide) (fun _ => ?_) (fun _ => ?_)
    · refine T_iconst (0 : Int32) (by decide) dX8_in_17 ?_
      exact T_zretc (by decide) rfl dX8_in_18
    · refine T_lload_n 0 rfl rfl dX8_in_6 ?_
      refine T_lload 2 rfl dX8_in_7 ?_
      refine T_lcmp dX8_in_9 ?_
      refine T_if_gt 17 dX8_in_10 (by decide) (fun _ => ?_) (fun _ => ?_)
      · refine T_iconst (0 : Int32) (by decide) dX8_in_17 ?_
        exact T_zretc (by decide) rfl dX8_in_18
      · refine T_iconst (1 : Int32) (by decide) dX8_in_13 ?_
        refine T_goto 18 dX8_in_14 (by decide) ?_
        exact T_zretc (by decide) rfl dX8_in_18)
theorem lfX8_28 : Cond.fieldLink RX8 28 "RankStairsModel" "tape" "[I" ∈ gdL := gd_mem 897 (by decide +kernel) (by decide +kernel)
theorem gRX8_28 {q : mMI} {X : mCx} {tgt : mR} {pc : Nat} {lv : List (Nat × Value)} {st : List Value} {μ : mMem} {b : Nat} (hq : q.1.cls = RX8) (hb : kd b = (8, 0)) (z : Nat) (hz : rf b 13 = z) (hd : decode q.2.1 pc = .ok (.getfield 28, 3)) (h : T q X tgt (pc + 3) lv (.ref z :: st) μ) : T q X tgt pc lv (.ref b :: st) μ := T_getR (c := 8) rfl (by decide) rfl (by decide) (by rw [hq]; exact lfX8_28) hb z hz hd h
theorem lfX8_71 : Cond.fieldLink RX8 71 "RankStairsModel" "taped" "I" ∈ gdL := gd_mem 898 (by decide +kernel) (by decide +kernel)
theorem gIX8_71 {q : mMI} {X : mCx} {tgt : mR} {pc : Nat} {lv : List (Nat × Value)} {st : List Value} {μ : mMem} {b : Nat} (hq : q.1.cls = RX8) (hb : kd b = (8, 0)) (hd : decode q.2.1 pc = .ok (.getfield 71, 3)) (h : T q X tgt (pc + 3) lv (.int (μ.1 b 14) :: st) μ) : T q X tgt pc lv (.ref b :: st) μ := T_getI (c := 8) rfl (by decide) rfl (by decide) (by rw [hq]; exact lfX8_71) hb hd h
theorem pIX8_71 {q : mMI} {X : mCx} {tgt : mR} {pc : Nat} {lv : List (Nat × Value)} {st : List Value} {μ : mMem} {b : Nat} {x : Int32} (hq : q.1.cls = RX8) (hn : narrow .int (.int x) = .int x) (hfit : fits .int (.int x) = true) (hb : kd b = (8, 0)) (hd : decode q.2.1 pc = .ok (.putfield 71, 3)) (h : T q X tgt (pc + 3) lv st (si μ b 14 x)) : T q X tgt pc lv (.int x :: .ref b :: st) μ := T_put (c := 8) rfl (by decide) rfl (by decide) (by rw [hq]; exact lfX8_71) (by decide) hn hfit hb hd h
def fX8_byteAt (x1 : Int32) (m : mMem) : mR := if (m.1 81 14) ≤ x1 then some (some (.int (-4 : Int32)), m) else ga x1 160 (some (some (.int (m.1 88 (x1).toNatClampNeg)), m))
set_option maxRecDepth 100000 in
theorem bsX8_byteAt (l : Launch) (x1 : Int32) (m : mMem)  : BS l qX8_byteAt [.ref 81, .int x1] m (fX8_byteAt x1 m) := BS_of (by decide) (Nat.le_of_ble_eq_true rfl) (fun X _ => by
    show T qX8_byteAt X (fX8_byteAt x1 m) 0 [(0, .ref 81), (1, .int x1)] [] m
    unfold fX8_byteAt
    refine T_iload_n 1 rfl rfl dX8_byteAt_0 ?_
    refine T_aload_n 0 rfl rfl dX8_byteAt_1 ?_
    refine gIX8_71 rfl kd_81 dX8_byteAt_2 ?_
    refine T_icmp_ge 17 dX8_byteAt_5 (by decide) (fun _ => ?_) (fun _ => ?_)
    · refine T_bipush (-4 : Int32) (by decide) dX8_byteAt_17 ?_
      exact T_iret rfl dX8_byteAt_19
    · refine T_aload_n 0 rfl rfl dX8_byteAt_8 ?_
      refine gRX8_28 rfl kd_81 88 rfl dX8_byteAt_9 ?_
      refine T_iload_n 1 rfl rfl dX8_byteAt_12 ?_
      refine T_iald kd_88 dX8_byteAt_13 ?_
      refine T_goto 19 dX8_byteAt_14 (by decide) ?_
      exact T_iret rfl dX8_byteAt_19)
theorem lfX8_75 : Cond.fieldLink RX8 75 "RankStairsModel" "broken" "I" ∈ gdL := gd_mem 900 (by decide +kernel) (by decide +kernel)
theorem gIX8_75 {q : mMI} {X : mCx} {tgt : mR} {pc : Nat} {lv : List (Nat × Value)} {st : List Value} {μ : mMem} {b : Nat} (hq : q.1.cls = RX8) (hb : kd b = (8, 0)) (hd : decode q.2.1 pc = .ok (.getfield 75, 3)) (h : T q X tgt (pc + 3) lv (.int (μ.1 b 16) :: st) μ) : T q X tgt pc lv (.ref b :: st) μ := T_getI (c := 8) rfl (by decide) rfl (by decide) (by rw [hq]; exact lfX8_75) hb hd h
theorem pIX8_75 {q : mMI} {X : mCx} {tgt : mR} {pc : Nat} {lv : List (Nat × Value)} {st : List Value} {μ : mMem} {b : Nat} {x : Int32} (hq : q.1.cls = RX8) (hn : narrow .int (.int x) = .int x) (hfit : fits .int (.int x) = true) (hb : kd b = (8, 0)) (hd : decode q.2.1 pc = .ok (.putfield 75, 3)) (h : T q X tgt (pc + 3) lv st (si μ b 16 x)) : T q X tgt pc lv (.int x :: .ref b :: st) μ := T_put (c := 8) rfl (by decide) rfl (by decide) (by rw [hq]; exact lfX8_75) (by decide) hn hfit hb hd h
theorem lfX8_78 : Cond.fieldLink RX8 78 "RankStairsModel" "here" "I" ∈ gdL := gd_mem 903 (by decide +kernel) (by decide +kernel)
theorem gIX8_78 {q : mMI} {X : mCx} {tgt : mR} {pc : Nat} {lv : List (Nat × Value)} {st : List Value} {μ : mMem} {b : Nat} (hq : q.1.cls = RX8) (hb : kd b = (8, 0)) (hd : decode q.2.1 pc = .ok (.getfield 78, 3)) (h : T q X tgt (pc + 3) lv (.int (μ.1 b 19) :: st) μ) : T q X tgt pc lv (.ref b :: st) μ := T_getI (c := 8) rfl (by decide) rfl (by decide) (by rw [hq]; exact lfX8_78) hb hd h
theorem pIX8_78 {q : mMI} {X : mCx} {tgt : mR} {pc : Nat} {lv : List (Nat × Value)} {st : List Value} {μ : mMem} {b : Nat} {x : Int32} (hq : q.1.cls = RX8) (hn : narrow .int (.int x) = .int x) (hfit : fits .int (.int x) = true) (hb : kd b = (8, 0)) (hd : decode q.2.1 pc = .ok (.putfield 78, 3)) (h : T q X tgt (pc + 3) lv st (si μ b 19 x)) : T q X tgt pc lv (.int x :: .ref b :: st) μ := T_put (c := 8) rfl (by decide) rfl (by decide) (by rw [hq]; exact lfX8_78) (by decide) hn hfit hb hd h
theorem lfX8_81 : Cond.fieldLink RX8 81 "RankStairsModel" "brokenAt" "I" ∈ gdL := gd_mem 901 (by decide +kernel) (by decide +kernel)
theorem gIX8_81 {q : mMI} {X : mCx} {tgt : mR} {pc : Nat} {lv : List (Nat × Value)} {st : List Value} {μ : mMem} {b : Nat} (hq : q.1.cls = RX8) (hb : kd b = (8, 0)) (hd : decode q.2.1 pc = .ok (.getfield 81, 3)) (h : T q X tgt (pc + 3) lv (.int (μ.1 b 17) :: st) μ) : T q X tgt pc lv (.ref b :: st) μ := T_getI (c := 8) rfl (by decide) rfl (by decide) (by rw [hq]; exact lfX8_81) hb hd h
theorem pIX8_81 {q : mMI} {X : mCx} {tgt : mR} {pc : Nat} {lv : List (Nat × Value)} {st : List Value} {μ : mMem} {b : Nat} {x : Int32} (hq : q.1.cls = RX8) (hn : narrow .int (.int x) = .int x) (hfit : fits .int (.int x) = true) (hb : kd b = (8, 0)) (hd : decode q.2.1 pc = .ok (.putfield 81, 3)) (h : T q X tgt (pc + 3) lv st (si μ b 17 x)) : T q X tgt pc lv (.int x :: .ref b :: st) μ := T_put (c := 8) rfl (by decide) rfl (by decide) (by rw [hq]; exact lfX8_81) (by decide) hn hfit hb hd h
def fX8_fails (x1 : Int32) (m : mMem) : mR := if (m.1 81 16) = (0 : Int32) then lt (si m 81 16 x1) (fun m1 => lt (si m1 81 17 (m1.1 81 19)) (fun m2 => some (none, m2))) else some (none, m)
set_option maxRecDepth 100000 in
theorem bsX8_fails (l : Launch) (x1 : Int32) (m : mMem)  : BS l qX8_fails [.ref 81, .int x1] m (fX8_fails x1 m) := BS_of (by decide) (Nat.le_of_ble_eq_true rfl) (fun X _ => by
    show T qX8_fails X (fX8_fails x1 m) 0 [(0, .ref 81), (1, .int x1)] [] m
    unfold fX8_fails
    refine T_aload_n 0 rfl rfl dX8_fails_0 ?_
    refine gIX8_75 rfl kd_81 dX8_fails_1 ?_
    refine T_if_ne 20 dX8_fails_4 (by decide) (fun _ => ?_) (fun _ => ?_)
    · refine T_aload_n 0 rfl rfl dX8_fails_7 ?_
      refine T_iload_n 1 rfl rfl dX8_fails_8 ?_
      refine pIX8_75 rfl rfl rfl kd_81 dX8_fails_9 ?_
      refine T_lt (fun m1 => ?_)
      refine T_aload_n 0 rfl rfl dX8_fails_12 ?_
      refine T_aload_n 0 rfl rfl dX8_fails_13 ?_
      refine gIX8_78 rfl kd_81 dX8_fails_14 ?_
      refine pIX8_81 rfl rfl rfl kd_81 dX8_fails_17 ?_
      refine T_lt (fun m2 => ?_)
      exact T_vret rfl dX8_fails_20
    · exact T_vret rfl dX8_fails_20)
theorem lfX8_140 : Cond.fieldLink RX8 140 "RankStairsModel" "fault" "I" ∈ gdL := gd_mem 899 (by decide +kernel) (by decide +kernel)
theorem gIX8_140 {q : mMI} {X : mCx} {tgt : mR} {pc : Nat} {lv : List (Nat × Value)} {st : List Value} {μ : mMem} {b : Nat} (hq : q.1.cls = RX8) (hb : kd b = (8, 0)) (hd : decode q.2.1 pc = .ok (.getfield 140, 3)) (h : T q X tgt (pc + 3) lv (.int (μ.1 b 15) :: st) μ) : T q X tgt pc lv (.ref b :: st) μ := T_getI (c := 8) rfl (by decide) rfl (by decide) (by rw [hq]; exact lfX8_140) hb hd h
theorem pIX8_140 {q : mMI} {X : mCx} {tgt : mR} {pc : Nat} {lv : List (Nat × Value)} {st : List Value} {μ : mMem} {b : Nat} {x : Int32} (hq : q.1.cls = RX8) (hn : narrow .int (.int x) = .int x) (hfit : fits .int (.int x) = true) (hb : kd b = (8, 0)) (hd : decode q.2.1 pc = .ok (.putfield 140, 3)) (h : T q X tgt (pc + 3) lv st (si μ b 15 x)) : T q X tgt pc lv (.int x :: .ref b :: st) μ := T_put (c := 8) rfl (by decide) rfl (by decide) (by rw [hq]; exact lfX8_140) (by decide) hn hfit hb hd h
def fX8_fault  (m : mMem) : mR := some (some (.int (m.1 81 15)), m)
set_option maxRecDepth 100000 in
theorem bsX8_fault (l : Launch)  (m : mMem)  : BS l qX8_fault [.ref 81] m (fX8_fault  m) := BS_of (by decide) (Nat.le_of_ble_eq_true rfl) (fun X _ => by
    show T qX8_fault X (fX8_fault  m) 0 [(0, .ref 81)] [] m
    unfold fX8_fault
    refine T_aload_n 0 rfl rfl dX8_fault_0 ?_
    refine gIX8_140 rfl kd_81 dX8_fault_1 ?_
    exact T_iret rfl dX8_fault_4)
theorem lfX8_7 : Cond.fieldLink RX8 7 "RankStairsModel" "state" "[I" ∈ gdL := gd_mem 884 (by decide +kernel) (by decide +kernel)
theorem gRX8_7 {q : mMI} {X : mCx} {tgt : mR} {pc : Nat} {lv : List (Nat × Value)} {st : List Value} {μ : mMem} {b : Nat} (hq : q.1.cls = RX8) (hb : kd b = (8, 0)) (z : Nat) (hz : rf b 0 = z) (hd : decode q.2.1 pc = .ok (.getfield 7, 3)) (h : T q X tgt (pc + 3) lv (.ref z :: st) μ) : T q X tgt pc lv (.ref b :: st) μ := T_getR (c := 8) rfl (by decide) rfl (by decide) (by rw [hq]; exact lfX8_7) hb z hz hd h
def fX8_holdOn (x1 : Int32) (m : mMem) : mR := ga (x1 + (33 : Int32)) 210 (some (some (.int ((m.1 82 ((x1 + (33 : Int32))).toNatClampNeg) + (30 : Int32))), m))
set_option maxRecDepth 100000 in
theorem bsX8_holdOn (l : Launch) (x1 : Int32) (m : mMem)  : BS l qX8_holdOn [.ref 81, .int x1] m (fX8_holdOn x1 m) := BS_of (by decide) (Nat.le_of_ble_eq_true rfl) (fun X _ => by
    show T qX8_holdOn X (fX8_holdOn x1 m) 0 [(0, .ref 81), (1, .int x1)] [] m
    unfold fX8_holdOn
    refine T_aload_n 0 rfl rfl dX8_holdOn_0 ?_
    refine gRX8_7 rfl kd_81 82 rfl dX8_holdOn_1 ?_
    refine T_iload_n 1 rfl rfl dX8_holdOn_4 ?_
    refine T_bipush (33 : Int32) (by decide) dX8_holdOn_5 ?_
    refine T_iadd dX8_holdOn_7 ?_
    refine T_iald kd_82 dX8_holdOn_8 ?_
    refine T_bipush (30 : Int32) (by decide) dX8_holdOn_9 ?_
    refine T_iadd dX8_holdOn_11 ?_
    exact T_iret rfl dX8_holdOn_12)
theorem lfX8_13 : Cond.fieldLink RX8 13 "RankStairsModel" "kinds" "[I" ∈ gdL := gd_mem 885 (by decide +kernel) (by decide +kernel)
theorem gRX8_13 {q : mMI} {X : mCx} {tgt : mR} {pc : Nat} {lv : List (Nat × Value)} {st : List Value} {μ : mMem} {b : Nat} (hq : q.1.cls = RX8) (hb : kd b = (8, 0)) (z : Nat) (hz : rf b 1 = z) (hd : decode q.2.1 pc = .ok (.getfield 13, 3)) (h : T q X tgt (pc + 3) lv (.ref z :: st) μ) : T q X tgt pc lv (.ref b :: st) μ := T_getR (c := 8) rfl (by decide) rfl (by decide) (by rw [hq]; exact lfX8_13) hb z hz hd h
def jX8_rankOn_27 (x2 : Int32) (xs0 : Int32) (xs1 : Int32) (m : mMem) : mR := li (xs1 + xs0) (fun y1 => ga x2 10 (if (m.1 83 (x2).toNatClampNeg) = (2 : Int32) then some (some (.int (0 : Int32)), m) else if y1 ≤ (3 : Int32) then some (some (.int y1), m) else some (some (.int (3 : Int32)), m)))
set_option maxRecDepth 100000 in
theorem uX8_rankOn_27 (X : mCx) (x2 : Int32) (xs0 : Int32) (xs1 : Int32) (m : mMem)  : T qX8_rankOn X (jX8_rankOn_27 x2 xs0 xs1 m) 27 [(0, .ref 81), (2, .int x2)] [.int xs0, .int xs1] m := by
  unfold jX8_rankOn_27
  refine T_iadd dX8_rankOn_27 ?_
  refine T_istore_n (lv' := [(3, .int (xs1 + xs0)), (0, .ref 81), (2, .int x2)]) rfl (Nat.le_of_ble_eq_true rfl) rfl dX8_rankOn_28 ?_
  refine T_li (fun y1 => ?_)
  refine T_aload_n 1 rfl rfl dX8_rankOn_29 ?_
  refine gRX8_13 rfl kd_81 83 rfl dX8_rankOn_30 ?_
  refine T_iload_n 2 rfl rfl dX8_rankOn_33 ?_
  refine T_iald kd_83 dX8_rankOn_34 ?_
  refine T_iconst (2 : Int32) (by decide) dX8_rankOn_35 ?_
  refine T_icmp_ne 43 dX8_rankOn_36 (by decide) (fun _ => ?_) (fun _ => ?_)
  · refine T_iconst (0 : Int32) (by decide) dX8_rankOn_39 ?_
    refine T_goto 53 dX8_rankOn_40 (by decide) ?_
    exact T_iret rfl dX8_rankOn_53
  · refine T_iload_n 0 rfl rfl dX8_rankOn_43 ?_
    refine T_iconst (3 : Int32) (by decide) dX8_rankOn_44 ?_
    refine T_icmp_le 52 dX8_rankOn_45 (by decide) (fun _ => ?_) (fun _ => ?_)
    · refine T_iload_n 0 rfl rfl dX8_rankOn_52 ?_
      exact T_iret rfl dX8_rankOn_53
    · refine T_iconst (3 : Int32) (by decide) dX8_rankOn_48 ?_
      refine T_goto 53 dX8_rankOn_49 (by decide) ?_
      exact T_iret rfl dX8_rankOn_53
def fX8_rankOn (x1 : Int32) (x2 : Int32) (m : mMem) : mR := ga (x1 + ((2 : Int32) * x2)) 210 (g0i (10 : Int32) (ga x2 10 (if (m.1 83 (x2).toNatClampNeg) = (0 : Int32) then jX8_rankOn_27 x2 (0 : Int32) ((m.1 82 ((x1 + ((2 : Int32) * x2))).toNatClampNeg) / (10 : Int32)) m else jX8_rankOn_27 x2 (1 : Int32) ((m.1 82 ((x1 + ((2 : Int32) * x2))).toNatClampNeg) / (10 : Int32)) m)))
set_option maxRecDepth 100000 in
theorem bsX8_rankOn (l : Launch) (x1 : Int32) (x2 : Int32) (m : mMem)  : BS l qX8_rankOn [.ref 81, .int x1, .int x2] m (fX8_rankOn x1 x2 m) := BS_of (by decide) (Nat.le_of_ble_eq_true rfl) (fun X _ => by
    show T qX8_rankOn X (fX8_rankOn x1 x2 m) 0 [(0, .ref 81), (1, .int x1), (2, .int x2)] [] m
    unfold fX8_rankOn
    refine T_aload_n 0 rfl rfl dX8_rankOn_0 ?_
    refine gRX8_7 rfl kd_81 82 rfl dX8_rankOn_1 ?_
    refine T_iload_n 1 rfl rfl dX8_rankOn_4 ?_
    refine T_iconst (2 : Int32) (by decide) dX8_rankOn_5 ?_
    refine T_iload_n 2 rfl rfl dX8_rankOn_6 ?_
    refine T_imul dX8_rankOn_7 ?_
    refine T_iadd dX8_rankOn_8 ?_
    refine T_iald kd_82 dX8_rankOn_9 ?_
    refine T_bipush (10 : Int32) (by decide) dX8_rankOn_10 ?_
    refine T_idiv (x := (m.1 82 ((x1 + ((2 : Int32) * x2))).toNatClampNeg)) (y := (10 : Int32)) dX8_rankOn_12 ?_
    refine T_aload_n 0 rfl rfl dX8_rankOn_13 ?_
    refine gRX8_13 rfl kd_81 83 rfl dX8_rankOn_14 ?_
    refine T_iload_n 2 rfl rfl dX8_rankOn_17 ?_
    refine T_iald kd_83 dX8_rankOn_18 ?_
    refine T_if_ne 26 dX8_rankOn_19 (by decide) (fun _ => ?_) (fun _ => ?_)
    · refine T_iconst (0 : Int32) (by decide) dX8_rankOn_22 ?_
      refine T_goto 27 dX8_rankOn_23 (by decide) ?_
      exact T_sub [0, 2] rfl (uX8_rankOn_27 X x2 (0 : Int32) ((m.1 82 ((x1 + ((2 : Int32) * x2))).toNatClampNeg) / (10 : Int32)) m )
    · refine T_iconst (1 : Int32) (by decide) dX8_rankOn_26 ?_
      exact T_sub [0, 2] rfl (uX8_rankOn_27 X x2 (1 : Int32) ((m.1 82 ((x1 + ((2 : Int32) * x2))).toNatClampNeg) / (10 : Int32)) m ))
def fX8_isLoaded (x1 : Int32) (x2 : Int32) (m : mMem) : mR := ga (((x1 + (20 : Int32)) + ((3 : Int32) * x2)) + (1 : Int32)) 210 (if (m.1 82 ((((x1 + (20 : Int32)) + ((3 : Int32) * x2)) + (1 : Int32))).toNatClampNeg) < (5 : Int32) then some (some (.int (0 : Int32)), m) else some (some (.int (1 : Int32)), m))
set_option maxRecDepth 100000 in
theorem bsX8_isLoaded (l : Launch) (x1 : Int32) (x2 : Int32) (m : mMem)  : BS l qX8_isLoaded [.ref 81, .int x1, .int x2] m (fX8_isLoaded x1 x2 m) := BS_of (by decide) (Nat.le_of_ble_eq_true rfl) (fun X _ => by
    show T qX8_isLoaded X (fX8_isLoaded x1 x2 m) 0 [(0, .ref 81), (1, .int x1), (2, .int x2)] [] m
    unfold fX8_isLoaded
    refine T_aload_n 0 rfl rfl dX8_isLoaded_0 ?_
    refine gRX8_7 rfl kd_81 82 rfl dX8_isLoaded_1 ?_
    refine T_iload_n 1 rfl rfl dX8_isLoaded_4 ?_
    refine T_bipush (20 : Int32) (by decide) dX8_isLoaded_5 ?_
    refine T_iadd dX8_isLoaded_7 ?_
    refine T_iconst (3 : Int32) (by decide) dX8_isLoaded_8 ?_
    refine T_iload_n 2 rfl rfl dX8_isLoaded_9 ?_
    refine T_imul dX8_isLoaded_10 ?_
    refine T_iadd dX8_isLoaded_11 ?_
    refine T_iconst (1 : Int32) (by decide) dX8_isLoaded_12 ?_
    refine T_iadd dX8_isLoaded_13 ?_
    refine T_iald kd_82 dX8_isLoaded_14 ?_
    refine T_iconst (5 : Int32) (by decide) dX8_isLoaded_15 ?_
    refine T_icmp_lt 23 dX8_isLoaded_16 (by decide) (fun _ => ?_) (fun _ => ?_)
    · refine T_iconst (0 : Int32) (by decide) dX8_isLoaded_23 ?_
      exact T_zretc (by decide) rfl dX8_isLoaded_24
    · refine T_iconst (1 : Int32) (by decide) dX8_isLoaded_19 ?_
      refine T_goto 24 dX8_isLoaded_20 (by decide) ?_
      exact T_zretc (by decide) rfl dX8_isLoaded_24)
def fX8_sets (x1 : Int32) (x2 : Int32) (x3 : Int32) (m : mMem) : mR := if x1 = (0 : Int32) then some (some (.int (-1 : Int32)), m) else ga x2 210 (li (m.1 82 (x2).toNatClampNeg) (fun y1 => ga x2 210 (lt (si m 82 (x2).toNatClampNeg x3) (fun m2 => some (some (.int y1), m2)))))
set_option maxRecDepth 100000 in
theorem bsX8_sets (l : Launch) (x1 : Int32) (x2 : Int32) (x3 : Int32) (m : mMem)  : BS l qX8_sets [.ref 81, .int x1, .int x2, .int x3] m (fX8_sets x1 x2 x3 m) := BS_of (by decide) (Nat.le_of_ble_eq_true rfl) (fun X _ => by
    show T qX8_sets X (fX8_sets x1 x2 x3 m) 0 [(0, .ref 81), (1, .int x1), (2, .int x2), (3, .int x3)] [] m
    unfold fX8_sets
    refine T_iload_n 1 rfl rfl dX8_sets_0 ?_
    refine T_if_ne 6 dX8_sets_1 (by decide) (fun _ => ?_) (fun _ => ?_)
    · refine T_iconst (-1 : Int32) (by decide) dX8_sets_4 ?_
      exact T_iret rfl dX8_sets_5
    · refine T_aload_n 0 rfl rfl dX8_sets_6 ?_
      refine gRX8_7 rfl kd_81 82 rfl dX8_sets_7 ?_
      refine T_iload_n 2 rfl rfl dX8_sets_10 ?_
      refine T_iald kd_82 dX8_sets_11 ?_
      refine T_istore (lv' := [(4, .int (m.1 82 (x2).toNatClampNeg)), (0, .ref 81), (1, .int x1), (2, .int x2), (3, .int x3)]) (Nat.le_of_ble_eq_true rfl) rfl dX8_sets_12 ?_
      refine T_li (fun y1 => ?_)
      refine T_aload_n 1 rfl rfl dX8_sets_14 ?_
      refine gRX8_7 rfl kd_81 82 rfl dX8_sets_15 ?_
      refine T_iload_n 3 rfl rfl dX8_sets_18 ?_
      refine T_iload_n 4 rfl rfl dX8_sets_19 ?_
      refine T_iast _ rfl kd_82 dX8_sets_20 ?_
      refine T_lt (fun m2 => ?_)
      refine T_iload 0 rfl dX8_sets_21 ?_
      exact T_iret rfl dX8_sets_23)
theorem lfX8_143 : Cond.fieldLink RX8 143 "RankStairsModel" "stepMany" "I" ∈ gdL := gd_mem 886 (by decide +kernel) (by decide +kernel)
theorem gIX8_143 {q : mMI} {X : mCx} {tgt : mR} {pc : Nat} {lv : List (Nat × Value)} {st : List Value} {μ : mMem} {b : Nat} (hq : q.1.cls = RX8) (hb : kd b = (8, 0)) (hd : decode q.2.1 pc = .ok (.getfield 143, 3)) (h : T q X tgt (pc + 3) lv (.int (μ.1 b 2) :: st) μ) : T q X tgt pc lv (.ref b :: st) μ := T_getI (c := 8) rfl (by decide) rfl (by decide) (by rw [hq]; exact lfX8_143) hb hd h
theorem pIX8_143 {q : mMI} {X : mCx} {tgt : mR} {pc : Nat} {lv : List (Nat × Value)} {st : List Value} {μ : mMem} {b : Nat} {x : Int32} (hq : q.1.cls = RX8) (hn : narrow .int (.int x) = .int x) (hfit : fits .int (.int x) = true) (hb : kd b = (8, 0)) (hd : decode q.2.1 pc = .ok (.putfield 143, 3)) (h : T q X tgt (pc + 3) lv st (si μ b 2 x)) : T q X tgt pc lv (.int x :: .ref b :: st) μ := T_put (c := 8) rfl (by decide) rfl (by decide) (by rw [hq]; exact lfX8_143) (by decide) hn hfit hb hd h
def bX8_wornOver_4 (x1 : Int32) (k4 : Int32 × Int32 × mMem → mR) (s : Int32 × Int32 × mMem) : mR := match s with
  | (x2, x3, m) => if (m.1 81 2) ≤ x3 then some (some (.int x2), m) else ga (((2 : Int32) * x3) + (1 : Int32)) 210 (if (m.1 82 ((((2 : Int32) * x3) + (1 : Int32))).toNatClampNeg) ≤ x1 then li (x2 ||| (0 : Int32)) (fun y1 => li (x3 + (1 : Int32)) (fun y2 => k4 (y1, y2, m))) else li (x2 ||| ((1 : Int32) <<< (x3 &&& 31))) (fun y3 => li (x3 + (1 : Int32)) (fun y4 => k4 (y3, y4, m))))
set_option maxRecDepth 100000 in
theorem tX8_wornOver_4 (X : mCx) (x1 : Int32)  : ∀ (n : Nat) (s : Int32 × Int32 × mMem), T qX8_wornOver X (lp (bX8_wornOver_4 x1) n s) 4 [(0, .ref 81), (1, .int x1), (2, .int s.1), (3, .int s.2.1)] [] s.2.2 :=
  T_lp (body := bX8_wornOver_4 x1) (lv := fun s => [(0, .ref 81), (1, .int x1), (2, .int s.1), (3, .int s.2.1)]) (st := fun _ => []) (μ := fun s : Int32 × Int32 × mMem => s.2.2) (fun k4 hk4 s => by
    obtain ⟨x2, x3, m⟩ := s
    show T qX8_wornOver X (bX8_wornOver_4 x1 k4 (x2, x3, m)) 4 [(0, .ref 81), (1, .int x1), (2, .int x2), (3, .int x3)] [] m
    unfold bX8_wornOver_4
    dsimp only
    refine T_iload_n 3 rfl rfl dX8_wornOver_4 ?_
    refine T_aload_n 0 rfl rfl dX8_wornOver_5 ?_
    refine gIX8_143 rfl kd_81 dX8_wornOver_6 ?_
    refine T_icmp_ge 42 dX8_wornOver_9 (by decide) (fun _ => ?_) (fun _ => ?_)
    · refine T_iload_n 2 rfl rfl dX8_wornOver_42 ?_
      exact T_iret rfl dX8_wornOver_43
    · refine T_iload_n 2 rfl rfl dX8_wornOver_12 ?_
      refine T_aload_n 0 rfl rfl dX8_wornOver_13 ?_
      refine gRX8_7 rfl kd_81 82 rfl dX8_wornOver_14 ?_
      refine T_iconst (2 : Int32) (by decide) dX8_wornOver_17 ?_
      refine T_iload_n 3 rfl rfl dX8_wornOver_18 ?_
      refine T_imul dX8_wornOver_19 ?_
      refine T_iconst (1 : Int32) (by decide) dX8_wornOver_20 ?_
      refine T_iadd dX8_wornOver_21 ?_
      refine T_iald kd_82 dX8_wornOver_22 ?_
      refine T_iload_n 1 rfl rfl dX8_wornOver_23 ?_
      refine T_icmp_le 33 dX8_wornOver_24 (by decide) (fun _ => ?_) (fun _ => ?_)
      · refine T_iconst (0 : Int32) (by decide) dX8_wornOver_33 ?_
        refine T_ior dX8_wornOver_34 ?_
        refine T_istore_n (lv' := [(2, .int (x2 ||| (0 : Int32))), (0, .ref 81), (1, .int x1), (3, .int x3)]) rfl (Nat.le_of_ble_eq_true rfl) rfl dX8_wornOver_35 ?_
        refine T_li (fun y1 => ?_)
        refine T_iinc (lv' := [(3, .int (x3 + (1 : Int32))), (2, .int y1), (0, .ref 81), (1, .int x1)]) 3 (1 : Int32) rfl (by decide) (Nat.le_of_ble_eq_true rfl) rfl dX8_wornOver_36 ?_
        refine T_li (fun y2 => ?_)
        refine T_goto 4 dX8_wornOver_39 (by decide) ?_
        exact T_sub [2, 3, 1, 0] rfl (hk4 (y1, y2, m))
      · refine T_iconst (1 : Int32) (by decide) dX8_wornOver_27 ?_
        refine T_iload_n 3 rfl rfl dX8_wornOver_28 ?_
        refine T_ishl dX8_wornOver_29 ?_
        refine T_goto 34 dX8_wornOver_30 (by decide) ?_
        refine T_ior dX8_wornOver_34 ?_
        refine T_istore_n (lv' := [(2, .int (x2 ||| ((1 : Int32) <<< (x3 &&& 31)))), (0, .ref 81), (1, .int x1), (3, .int x3)]) rfl (Nat.le_of_ble_eq_true rfl) rfl dX8_wornOver_35 ?_
        refine T_li (fun y3 => ?_)
        refine T_iinc (lv' := [(3, .int (x3 + (1 : Int32))), (2, .int y3), (0, .ref 81), (1, .int x1)]) 3 (1 : Int32) rfl (by decide) (Nat.le_of_ble_eq_true rfl) rfl dX8_wornOver_36 ?_
        refine T_li (fun y4 => ?_)
        refine T_goto 4 dX8_wornOver_39 (by decide) ?_
        exact T_sub [2, 3, 1, 0] rfl (hk4 (y3, y4, m)))
def fX8_wornOver (x1 : Int32) (m : mMem) : mR := lp (bX8_wornOver_4 x1) FU ((0 : Int32), (0 : Int32), m)
set_option maxRecDepth 100000 in
theorem bsX8_wornOver (l : Launch) (x1 : Int32) (m : mMem)  : BS l qX8_wornOver [.ref 81, .int x1] m (fX8_wornOver x1 m) := BS_of (by decide) (Nat.le_of_ble_eq_true rfl) (fun X _ => by
    show T qX8_wornOver X (fX8_wornOver x1 m) 0 [(0, .ref 81), (1, .int x1)] [] m
    unfold fX8_wornOver
    refine T_iconst (0 : Int32) (by decide) dX8_wornOver_0 ?_
    refine T_istore_n (lv' := [(2, .int (0 : Int32)), (0, .ref 81), (1, .int x1)]) rfl (Nat.le_of_ble_eq_true rfl) rfl dX8_wornOver_1 ?_
    refine T_iconst (0 : Int32) (by decide) dX8_wornOver_2 ?_
    refine T_istore_n (lv' := [(3, .int (0 : Int32)), (2, .int (0 : Int32)), (0, .ref 81), (1, .int x1)]) rfl (Nat.le_of_ble_eq_true rfl) rfl dX8_wornOver_3 ?_
    exact T_sub [2, 3, 1, 0] rfl (tX8_wornOver_4 X x1  FU ((0 : Int32), (0 : Int32), m)))
def bX8_copies_2 (x1 : Int32) (x2 : Int32) (k2 : Int32 × mMem → mR) (s : Int32 × mMem) : mR := match s with
  | (x3, m) => if (35 : Int32) ≤ x3 then some (none, m) else ga (x1 + x3) 210 (ga (x2 + x3) 210 (lt (si m 82 ((x2 + x3)).toNatClampNeg (m.1 82 ((x1 + x3)).toNatClampNeg)) (fun m1 => li (x3 + (1 : Int32)) (fun y2 => k2 (y2, m1)))))
set_option maxRecDepth 100000 in
theorem tX8_copies_2 (X : mCx) (x1 : Int32) (x2 : Int32)  : ∀ (n : Nat) (s : Int32 × mMem), T qX8_copies X (lp (bX8_copies_2 x1 x2) n s) 2 [(0, .ref 81), (1, .int x1), (2, .int x2), (3, .int s.1)] [] s.2 :=
  T_lp (body := bX8_copies_2 x1 x2) (lv := fun s => [(0, .ref 81), (1, .int x1), (2, .int x2), (3, .int s.1)]) (st := fun _ => []) (μ := fun s : Int32 × mMem => s.2) (fun k2 hk2 s => by
    obtain ⟨x3, m⟩ := s
    show T qX8_copies X (bX8_copies_2 x1 x2 k2 (x3, m)) 2 [(0, .ref 81), (1, .int x1), (2, .int x2), (3, .int x3)] [] m
    unfold bX8_copies_2
    dsimp only
    refine T_iload_n 3 rfl rfl dX8_copies_2 ?_
    refine T_bipush (35 : Int32) (by decide) dX8_copies_3 ?_
    refine T_icmp_ge 30 dX8_copies_5 (by decide) (fun _ => ?_) (fun _ => ?_)
    · exact T_vret rfl dX8_copies_30
    · refine T_aload_n 0 rfl rfl dX8_copies_8 ?_
      refine gRX8_7 rfl kd_81 82 rfl dX8_copies_9 ?_
      refine T_iload_n 2 rfl rfl dX8_copies_12 ?_
      refine T_iload_n 3 rfl rfl dX8_copies_13 ?_
      refine T_iadd dX8_copies_14 ?_
      refine T_aload_n 0 rfl rfl dX8_copies_15 ?_
      refine gRX8_7 rfl kd_81 82 rfl dX8_copies_16 ?_
      refine T_iload_n 1 rfl rfl dX8_copies_19 ?_
      refine T_iload_n 3 rfl rfl dX8_copies_20 ?_
      refine T_iadd dX8_copies_21 ?_
      refine T_iald kd_82 dX8_copies_22 ?_
      refine T_iast _ rfl kd_82 dX8_copies_23 ?_
      refine T_lt (fun m1 => ?_)
      refine T_iinc (lv' := [(3, .int (x3 + (1 : Int32))), (0, .ref 81), (1, .int x1), (2, .int x2)]) 3 (1 : Int32) rfl (by decide) (Nat.le_of_ble_eq_true rfl) rfl dX8_copies_24 ?_
      refine T_li (fun y2 => ?_)
      refine T_goto 2 dX8_copies_27 (by decide) ?_
      exact T_sub [1, 2, 3, 0] rfl (hk2 (y2, m1)))
def fX8_copies (x1 : Int32) (x2 : Int32) (m : mMem) : mR := lp (bX8_copies_2 x1 x2) FU ((0 : Int32), m)
set_option maxRecDepth 100000 in
theorem bsX8_copies (l : Launch) (x1 : Int32) (x2 : Int32) (m : mMem)  : BS l qX8_copies [.ref 81, .int x1, .int x2] m (fX8_copies x1 x2 m) := BS_of (by decide) (Nat.le_of_ble_eq_true rfl) (fun X _ => by
    show T qX8_copies X (fX8_copies x1 x2 m) 0 [(0, .ref 81), (1, .int x1), (2, .int x2)] [] m
    unfold fX8_copies
    refine T_iconst (0 : Int32) (by decide) dX8_copies_0 ?_
    refine T_istore_n (lv' := [(3, .int (0 : Int32)), (0, .ref 81), (1, .int x1), (2, .int x2)]) rfl (Nat.le_of_ble_eq_true rfl) rfl dX8_copies_1 ?_
    exact T_sub [1, 2, 3, 0] rfl (tX8_copies_2 X x1 x2  FU ((0 : Int32), m)))
def bX8_bitsOf_4 (x0 : Int32) (k4 : Int32 × Int32 × mMem → mR) (s : Int32 × Int32 × mMem) : mR := match s with
  | (x1, x2, m) => if (10 : Int32) ≤ x2 then some (some (.int x1), m) else li (x1 + ((x0 >>> (x2 &&& 31)) &&& (1 : Int32))) (fun y1 => li (x2 + (1 : Int32)) (fun y2 => k4 (y1, y2, m)))
set_option maxRecDepth 100000 in
theorem tX8_bitsOf_4 (X : mCx) (x0 : Int32)  : ∀ (n : Nat) (s : Int32 × Int32 × mMem), T qX8_bitsOf X (lp (bX8_bitsOf_4 x0) n s) 4 [(0, .int x0), (1, .int s.1), (2, .int s.2.1)] [] s.2.2 :=
  T_lp (body := bX8_bitsOf_4 x0) (lv := fun s => [(0, .int x0), (1, .int s.1), (2, .int s.2.1)]) (st := fun _ => []) (μ := fun s : Int32 × Int32 × mMem => s.2.2) (fun k4 hk4 s => by
    obtain ⟨x1, x2, m⟩ := s
    show T qX8_bitsOf X (bX8_bitsOf_4 x0 k4 (x1, x2, m)) 4 [(0, .int x0), (1, .int x1), (2, .int x2)] [] m
    unfold bX8_bitsOf_4
    dsimp only
    refine T_iload_n 2 rfl rfl dX8_bitsOf_4 ?_
    refine T_bipush (10 : Int32) (by decide) dX8_bitsOf_5 ?_
    refine T_icmp_ge 24 dX8_bitsOf_7 (by decide) (fun _ => ?_) (fun _ => ?_)
    · refine T_iload_n 1 rfl rfl dX8_bitsOf_24 ?_
      exact T_iret rfl dX8_bitsOf_25
    · refine T_iload_n 1 rfl rfl dX8_bitsOf_10 ?_
      refine T_iload_n 0 rfl rfl dX8_bitsOf_11 ?_
      refine T_iload_n 2 rfl rfl dX8_bitsOf_12 ?_
      refine T_ishr dX8_bitsOf_13 ?_
      refine T_iconst (1 : Int32) (by decide) dX8_bitsOf_14 ?_
      refine T_iand dX8_bitsOf_15 ?_
      refine T_iadd dX8_bitsOf_16 ?_
      refine T_istore_n (lv' := [(1, .int (x1 + ((x0 >>> (x2 &&& 31)) &&& (1 : Int32)))), (0, .int x0), (2, .int x2)]) rfl (Nat.le_of_ble_eq_true rfl) rfl dX8_bitsOf_17 ?_
      refine T_li (fun y1 => ?_)
      refine T_iinc (lv' := [(2, .int (x2 + (1 : Int32))), (1, .int y1), (0, .int x0)]) 2 (1 : Int32) rfl (by decide) (Nat.le_of_ble_eq_true rfl) rfl dX8_bitsOf_18 ?_
      refine T_li (fun y2 => ?_)
      refine T_goto 4 dX8_bitsOf_21 (by decide) ?_
      exact T_sub [2, 1, 0] rfl (hk4 (y1, y2, m)))
def fX8_bitsOf (x0 : Int32) (m : mMem) : mR := lp (bX8_bitsOf_4 x0) FU ((0 : Int32), (0 : Int32), m)
set_option maxRecDepth 100000 in
theorem bsX8_bitsOf (l : Launch) (x0 : Int32) (m : mMem)  : BS l qX8_bitsOf [.int x0] m (fX8_bitsOf x0 m) := BS_of (by decide) (Nat.le_of_ble_eq_true rfl) (fun X _ => by
    show T qX8_bitsOf X (fX8_bitsOf x0 m) 0 [(0, .int x0)] [] m
    unfold fX8_bitsOf
    refine T_iconst (0 : Int32) (by decide) dX8_bitsOf_0 ?_
    refine T_istore_n (lv' := [(1, .int (0 : Int32)), (0, .int x0)]) rfl (Nat.le_of_ble_eq_true rfl) rfl dX8_bitsOf_1 ?_
    refine T_iconst (0 : Int32) (by decide) dX8_bitsOf_2 ?_
    refine T_istore_n (lv' := [(2, .int (0 : Int32)), (1, .int (0 : Int32)), (0, .int x0)]) rfl (Nat.le_of_ble_eq_true rfl) rfl dX8_bitsOf_3 ?_
    exact T_sub [2, 1, 0] rfl (tX8_bitsOf_4 X x0  FU ((0 : Int32), (0 : Int32), m)))
theorem lfX8_46 : Cond.fieldLink RX8 46 "RankStairsModel" "whose" "[I" ∈ gdL := gd_mem 911 (by decide +kernel) (by decide +kernel)
theorem gRX8_46 {q : mMI} {X : mCx} {tgt : mR} {pc : Nat} {lv : List (Nat × Value)} {st : List Value} {μ : mMem} {b : Nat} (hq : q.1.cls = RX8) (hb : kd b = (8, 0)) (z : Nat) (hz : rf b 27 = z) (hd : decode q.2.1 pc = .ok (.getfield 46, 3)) (h : T q X tgt (pc + 3) lv (.ref z :: st) μ) : T q X tgt pc lv (.ref b :: st) μ := T_getR (c := 8) rfl (by decide) rfl (by decide) (by rw [hq]; exact lfX8_46) hb z hz hd h
theorem lfX8_146 : Cond.fieldLink RX8 146 "RankStairsModel" "lodgerMany" "I" ∈ gdL := gd_mem 888 (by decide +kernel) (by decide +kernel)
theorem gIX8_146 {q : mMI} {X : mCx} {tgt : mR} {pc : Nat} {lv : List (Nat × Value)} {st : List Value} {μ : mMem} {b : Nat} (hq : q.1.cls = RX8) (hb : kd b = (8, 0)) (hd : decode q.2.1 pc = .ok (.getfield 146, 3)) (h : T q X tgt (pc + 3) lv (.int (μ.1 b 4) :: st) μ) : T q X tgt pc lv (.ref b :: st) μ := T_getI (c := 8) rfl (by decide) rfl (by decide) (by rw [hq]; exact lfX8_146) hb hd h
theorem pIX8_146 {q : mMI} {X : mCx} {tgt : mR} {pc : Nat} {lv : List (Nat × Value)} {st : List Value} {μ : mMem} {b : Nat} {x : Int32} (hq : q.1.cls = RX8) (hn : narrow .int (.int x) = .int x) (hfit : fits .int (.int x) = true) (hb : kd b = (8, 0)) (hd : decode q.2.1 pc = .ok (.putfield 146, 3)) (h : T q X tgt (pc + 3) lv st (si μ b 4 x)) : T q X tgt pc lv (.int x :: .ref b :: st) μ := T_put (c := 8) rfl (by decide) rfl (by decide) (by rw [hq]; exact lfX8_146) (by decide) hn hfit hb hd h
def bX8_laysFloors_95 (x4 : Int32) (k95 : Int32 × mMem → mR) (s : Int32 × mMem) : mR := match s with
  | (x5, m) => if (m.1 81 4) ≤ x5 then gb x4 (some (some (.int x4), m)) else if x4 = (0 : Int32) then gb x4 (some (some (.int x4), m)) else ga x5 4 (ga (((20 : Int32) + ((3 : Int32) * (m.1 94 (x5).toNatClampNeg))) + (2 : Int32)) 210 (ga (((195 : Int32) + ((3 : Int32) * x5)) + (2 : Int32)) 210 (lt (si m 82 ((((195 : Int32) + ((3 : Int32) * x5)) + (2 : Int32))).toNatClampNeg (m.1 82 ((((20 : Int32) + ((3 : Int32) * (m.1 94 (x5).toNatClampNeg))) + (2 : Int32))).toNatClampNeg)) (fun m2 => li (x5 + (1 : Int32)) (fun y3 => k95 (y3, m2))))))
set_option maxRecDepth 100000 in
theorem tX8_laysFloors_95 (X : mCx) (x4 : Int32)  : ∀ (n : Nat) (s : Int32 × mMem), T qX8_laysFloors X (lp (bX8_laysFloors_95 x4) n s) 95 [(0, .ref 81), (4, .int x4), (5, .int s.1)] [] s.2 :=
  T_lp (body := bX8_laysFloors_95 x4) (lv := fun s => [(0, .ref 81), (4, .int x4), (5, .int s.1)]) (st := fun _ => []) (μ := fun s : Int32 × mMem => s.2) (fun k95 hk95 s => by
    obtain ⟨x5, m⟩ := s
    show T qX8_laysFloors X (bX8_laysFloors_95 x4 k95 (x5, m)) 95 [(0, .ref 81), (4, .int x4), (5, .int x5)] [] m
    unfold bX8_laysFloors_95
    dsimp only
    refine T_iload 2 rfl dX8_laysFloors_95 ?_
    refine T_aload_n 0 rfl rfl dX8_laysFloors_97 ?_
    refine gIX8_146 rfl kd_81 dX8_laysFloors_98 ?_
    refine T_icmp_ge 149 dX8_laysFloors_101 (by decide) (fun _ => ?_) (fun _ => ?_)
    · refine T_iload 1 rfl dX8_laysFloors_149 ?_
      exact T_zret rfl dX8_laysFloors_151
    · refine T_iload 1 rfl dX8_laysFloors_104 ?_
      refine T_if_eq 149 dX8_laysFloors_106 (by decide) (fun _ => ?_) (fun _ => ?_)
      · refine T_iload 1 rfl dX8_laysFloors_149 ?_
        exact T_zret rfl dX8_laysFloors_151
      · refine T_aload_n 0 rfl rfl dX8_laysFloors_109 ?_
        refine gRX8_7 rfl kd_81 82 rfl dX8_laysFloors_110 ?_
        refine T_sipush (195 : Int32) (by decide) dX8_laysFloors_113 ?_
        refine T_iconst (3 : Int32) (by decide) dX8_laysFloors_116 ?_
        refine T_iload 2 rfl dX8_laysFloors_117 ?_
        refine T_imul dX8_laysFloors_119 ?_
        refine T_iadd dX8_laysFloors_120 ?_
        refine T_iconst (2 : Int32) (by decide) dX8_laysFloors_121 ?_
        refine T_iadd dX8_laysFloors_122 ?_
        refine T_aload_n 0 rfl rfl dX8_laysFloors_123 ?_
        refine gRX8_7 rfl kd_81 82 rfl dX8_laysFloors_124 ?_
        refine T_bipush (20 : Int32) (by decide) dX8_laysFloors_127 ?_
        refine T_iconst (3 : Int32) (by decide) dX8_laysFloors_129 ?_
        refine T_aload_n 0 rfl rfl dX8_laysFloors_130 ?_
        refine gRX8_46 rfl kd_81 94 rfl dX8_laysFloors_131 ?_
        refine T_iload 2 rfl dX8_laysFloors_134 ?_
        refine T_iald kd_94 dX8_laysFloors_136 ?_
        refine T_imul dX8_laysFloors_137 ?_
        refine T_iadd dX8_laysFloors_138 ?_
        refine T_iconst (2 : Int32) (by decide) dX8_laysFloors_139 ?_
        refine T_iadd dX8_laysFloors_140 ?_
        refine T_iald kd_82 dX8_laysFloors_141 ?_
        refine T_iast _ rfl kd_82 dX8_laysFloors_142 ?_
        refine T_lt (fun m2 => ?_)
        refine T_iinc (lv' := [(5, .int (x5 + (1 : Int32))), (0, .ref 81), (4, .int x4)]) 2 (1 : Int32) rfl (by decide) (Nat.le_of_ble_eq_true rfl) rfl dX8_laysFloors_143 ?_
        refine T_li (fun y3 => ?_)
        refine T_goto 95 dX8_laysFloors_146 (by decide) ?_
        exact T_sub [1, 2, 0] rfl (hk95 (y3, m2)))
def jX8_laysFloors_72 (k15 : Int32 × Int32 × Int32 × Int32 × mMem → mR) (x2 : Int32) (x3 : Int32) (x5 : Int32) (xs0 : Int32) (m : mMem) : mR := ga x5 4 (li (x3 ||| ((1 : Int32) <<< ((m.1 94 (x5).toNatClampNeg) &&& 31))) (fun y6 => li (x5 + (-1 : Int32)) (fun y7 => k15 (x2, y6, xs0, y7, m))))
set_option maxRecDepth 100000 in
theorem uX8_laysFloors_72 (X : mCx) (k15 : Int32 × Int32 × Int32 × Int32 × mMem → mR) (x2 : Int32) (x3 : Int32) (x5 : Int32) (xs0 : Int32) (m : mMem) (hk15 : ∀ s : Int32 × Int32 × Int32 × Int32 × mMem, T qX8_laysFloors X (k15 s) 15 [(0, .ref 81), (2, .int s.1), (3, .int s.2.1), (4, .int s.2.2.1), (5, .int s.2.2.2.1)] [] s.2.2.2.2) : T qX8_laysFloors X (jX8_laysFloors_72 k15 x2 x3 x5 xs0 m) 72 [(0, .ref 81), (2, .int x2), (3, .int x3), (5, .int x5)] [.int xs0] m := by
  unfold jX8_laysFloors_72
  refine T_istore (lv' := [(4, .int xs0), (0, .ref 81), (2, .int x2), (3, .int x3), (5, .int x5)]) (Nat.le_of_ble_eq_true rfl) rfl dX8_laysFloors_72 ?_
  refine T_iload_n 3 rfl rfl dX8_laysFloors_74 ?_
  refine T_iconst (1 : Int32) (by decide) dX8_laysFloors_75 ?_
  refine T_aload_n 1 rfl rfl dX8_laysFloors_76 ?_
  refine gRX8_46 rfl kd_81 94 rfl dX8_laysFloors_77 ?_
  refine T_iload 4 rfl dX8_laysFloors_80 ?_
  refine T_iald kd_94 dX8_laysFloors_82 ?_
  refine T_ishl dX8_laysFloors_83 ?_
  refine T_ior dX8_laysFloors_84 ?_
  refine T_istore_n (lv' := [(3, .int (x3 ||| ((1 : Int32) <<< ((m.1 94 (x5).toNatClampNeg) &&& 31)))), (4, .int xs0), (0, .ref 81), (2, .int x2), (5, .int x5)]) rfl (Nat.le_of_ble_eq_true rfl) rfl dX8_laysFloors_85 ?_
  refine T_li (fun y6 => ?_)
  refine T_iinc (lv' := [(5, .int (x5 + (-1 : Int32))), (3, .int y6), (4, .int xs0), (0, .ref 81), (2, .int x2)]) 4 (-1 : Int32) rfl (by decide) (Nat.le_of_ble_eq_true rfl) rfl dX8_laysFloors_86 ?_
  refine T_li (fun y7 => ?_)
  refine T_goto 15 dX8_laysFloors_89 (by decide) ?_
  exact T_sub [3, 4, 1, 2, 0] rfl (hk15 (x2, y6, xs0, y7, m))
def jX8_laysFloors_71 (k15 : Int32 × Int32 × Int32 × Int32 × mMem → mR) (x2 : Int32) (x3 : Int32) (x5 : Int32) (m : mMem) : mR := jX8_laysFloors_72 k15 x2 x3 x5 (0 : Int32) m
set_option maxRecDepth 100000 in
theorem uX8_laysFloors_71 (X : mCx) (k15 : Int32 × Int32 × Int32 × Int32 × mMem → mR) (x2 : Int32) (x3 : Int32) (x5 : Int32) (m : mMem) (hk15 : ∀ s : Int32 × Int32 × Int32 × Int32 × mMem, T qX8_laysFloors X (k15 s) 15 [(0, .ref 81), (2, .int s.1), (3, .int s.2.1), (4, .int s.2.2.1), (5, .int s.2.2.2.1)] [] s.2.2.2.2) : T qX8_laysFloors X (jX8_laysFloors_71 k15 x2 x3 x5 m) 71 [(0, .ref 81), (2, .int x2), (3, .int x3), (5, .int x5)] [] m := by
  unfold jX8_laysFloors_71
  refine T_iconst (0 : Int32) (by decide) dX8_laysFloors_71 ?_
  exact T_sub [0, 1, 2, 3] rfl (uX8_laysFloors_72 X k15 x2 x3 x5 (0 : Int32) m hk15)
def bX8_laysFloors_15  (k15 : Int32 × Int32 × Int32 × Int32 × mMem → mR) (s : Int32 × Int32 × Int32 × Int32 × mMem) : mR := match s with
  | (x2, x3, x4, x5, m) => if x5 < (0 : Int32) then lp (bX8_laysFloors_95 x4) FU ((0 : Int32), m) else g0i (4 : Int32) (ga x5 4 (lt (si m 94 (x5).toNatClampNeg (x2 - x2 / (4 : Int32) * (4 : Int32))) (fun m4 => g0i (4 : Int32) (li (x2 / (4 : Int32)) (fun y5 => if x4 = (0 : Int32) then jX8_laysFloors_71 k15 y5 x3 x5 m4 else ga x5 4 (if (m4.1 81 4) ≤ (m4.1 94 (x5).toNatClampNeg) then jX8_laysFloors_71 k15 y5 x3 x5 m4 else ga x5 4 (if ((x3 >>> ((m4.1 94 (x5).toNatClampNeg) &&& 31)) &&& (1 : Int32)) = (0 : Int32) then jX8_laysFloors_72 k15 y5 x3 x5 (1 : Int32) m4 else jX8_laysFloors_71 k15 y5 x3 x5 m4)))))))
set_option maxRecDepth 100000 in
theorem tX8_laysFloors_15 (X : mCx)   : ∀ (n : Nat) (s : Int32 × Int32 × Int32 × Int32 × mMem), T qX8_laysFloors X (lp (bX8_laysFloors_15 ) n s) 15 [(0, .ref 81), (2, .int s.1), (3, .int s.2.1), (4, .int s.2.2.1), (5, .int s.2.2.2.1)] [] s.2.2.2.2 :=
  T_lp (body := bX8_laysFloors_15 ) (lv := fun s => [(0, .ref 81), (2, .int s.1), (3, .int s.2.1), (4, .int s.2.2.1), (5, .int s.2.2.2.1)]) (st := fun _ => []) (μ := fun s : Int32 × Int32 × Int32 × Int32 × mMem => s.2.2.2.2) (fun k15 hk15 s => by
    obtain ⟨x2, x3, x4, x5, m⟩ := s
    show T qX8_laysFloors X (bX8_laysFloors_15  k15 (x2, x3, x4, x5, m)) 15 [(0, .ref 81), (2, .int x2), (3, .int x3), (4, .int x4), (5, .int x5)] [] m
    unfold bX8_laysFloors_15
    dsimp only
    refine T_iload 4 rfl dX8_laysFloors_15 ?_
    refine T_if_lt 92 dX8_laysFloors_17 (by decide) (fun _ => ?_) (fun _ => ?_)
    · refine T_iconst (0 : Int32) (by decide) dX8_laysFloors_92 ?_
      refine T_istore (lv' := [(5, .int (0 : Int32)), (0, .ref 81), (2, .int x2), (3, .int x3), (4, .int x4)]) (Nat.le_of_ble_eq_true rfl) rfl dX8_laysFloors_93 ?_
      exact T_sub [1, 4, 0] rfl (tX8_laysFloors_95 X x4  FU ((0 : Int32), m))
    · refine T_aload_n 0 rfl rfl dX8_laysFloors_20 ?_
      refine gRX8_46 rfl kd_81 94 rfl dX8_laysFloors_21 ?_
      refine T_iload 4 rfl dX8_laysFloors_24 ?_
      refine T_iload_n 1 rfl rfl dX8_laysFloors_26 ?_
      refine T_iconst (4 : Int32) (by decide) dX8_laysFloors_27 ?_
      refine T_irem (x := x2) (y := (4 : Int32)) dX8_laysFloors_28 ?_
      refine T_iast _ rfl kd_94 dX8_laysFloors_29 ?_
      refine T_lt (fun m4 => ?_)
      refine T_iload_n 1 rfl rfl dX8_laysFloors_30 ?_
      refine T_iconst (4 : Int32) (by decide) dX8_laysFloors_31 ?_
      refine T_idiv (x := x2) (y := (4 : Int32)) dX8_laysFloors_32 ?_
      refine T_istore_n (lv' := [(2, .int (x2 / (4 : Int32))), (0, .ref 81), (3, .int x3), (4, .int x4), (5, .int x5)]) rfl (Nat.le_of_ble_eq_true rfl) rfl dX8_laysFloors_33 ?_
      refine T_li (fun y5 => ?_)
      refine T_iload 3 rfl dX8_laysFloors_34 ?_
      refine T_if_eq 71 dX8_laysFloors_36 (by decide) (fun _ => ?_) (fun _ => ?_)
      · exact T_sub [1, 0, 2, 4] rfl (uX8_laysFloors_71 X k15 y5 x3 x5 m4 hk15)
      · refine T_aload_n 1 rfl rfl dX8_laysFloors_39 ?_
        refine gRX8_46 rfl kd_81 94 rfl dX8_laysFloors_40 ?_
        refine T_iload 4 rfl dX8_laysFloors_43 ?_
        refine T_iald kd_94 dX8_laysFloors_45 ?_
        refine T_aload_n 1 rfl rfl dX8_laysFloors_46 ?_
        refine gIX8_146 rfl kd_81 dX8_laysFloors_47 ?_
        refine T_icmp_ge 71 dX8_laysFloors_50 (by decide) (fun _ => ?_) (fun _ => ?_)
        · exact T_sub [1, 0, 2, 4] rfl (uX8_laysFloors_71 X k15 y5 x3 x5 m4 hk15)
        · refine T_iload_n 2 rfl rfl dX8_laysFloors_53 ?_
          refine T_aload_n 1 rfl rfl dX8_laysFloors_54 ?_
          refine gRX8_46 rfl kd_81 94 rfl dX8_laysFloors_55 ?_
          refine T_iload 4 rfl dX8_laysFloors_58 ?_
          refine T_iald kd_94 dX8_laysFloors_60 ?_
          refine T_ishr dX8_laysFloors_61 ?_
          refine T_iconst (1 : Int32) (by decide) dX8_laysFloors_62 ?_
          refine T_iand dX8_laysFloors_63 ?_
          refine T_if_ne 71 dX8_laysFloors_64 (by decide) (fun _ => ?_) (fun _ => ?_)
          · refine T_iconst (1 : Int32) (by decide) dX8_laysFloors_67 ?_
            refine T_goto 72 dX8_laysFloors_68 (by decide) ?_
            exact T_sub [1, 0, 2, 4] rfl (uX8_laysFloors_72 X k15 y5 x3 x5 (1 : Int32) m4 hk15)
          · exact T_sub [1, 0, 2, 4] rfl (uX8_laysFloors_71 X k15 y5 x3 x5 m4 hk15))
def fX8_laysFloors (x1 : Int32) (m : mMem) : mR := li ((m.1 81 4) - (1 : Int32)) (fun y1 => lp (bX8_laysFloors_15 ) FU (x1, (0 : Int32), (1 : Int32), y1, m))
set_option maxRecDepth 100000 in
theorem bsX8_laysFloors (l : Launch) (x1 : Int32) (m : mMem)  : BS l qX8_laysFloors [.ref 81, .int x1] m (fX8_laysFloors x1 m) := BS_of (by decide) (Nat.le_of_ble_eq_true rfl) (fun X _ => by
    show T qX8_laysFloors X (fX8_laysFloors x1 m) 0 [(0, .ref 81), (1, .int x1)] [] m
    unfold fX8_laysFloors
    refine T_iload_n 1 rfl rfl dX8_laysFloors_0 ?_
    refine T_istore_n (lv' := [(2, .int x1), (0, .ref 81), (1, .int x1)]) rfl (Nat.le_of_ble_eq_true rfl) rfl dX8_laysFloors_1 ?_
    refine T_iconst (0 : Int32) (by decide) dX8_laysFloors_2 ?_
    refine T_istore_n (lv' := [(3, .int (0 : Int32)), (2, .int x1), (0, .ref 81), (1, .int x1)]) rfl (Nat.le_of_ble_eq_true rfl) rfl dX8_laysFloors_3 ?_
    refine T_iconst (1 : Int32) (by decide) dX8_laysFloors_4 ?_
    refine T_istore (lv' := [(4, .int (1 : Int32)), (3, .int (0 : Int32)), (2, .int x1), (0, .ref 81), (1, .int x1)]) (Nat.le_of_ble_eq_true rfl) rfl dX8_laysFloors_5 ?_
    refine T_aload_n 3 rfl rfl dX8_laysFloors_7 ?_
    refine gIX8_146 rfl kd_81 dX8_laysFloors_8 ?_
    refine T_iconst (1 : Int32) (by decide) dX8_laysFloors_11 ?_
    refine T_isub dX8_laysFloors_12 ?_
    refine T_istore (lv' := [(5, .int ((m.1 81 4) - (1 : Int32))), (4, .int (1 : Int32)), (3, .int (0 : Int32)), (2, .int x1), (0, .ref 81), (1, .int x1)]) (Nat.le_of_ble_eq_true rfl) rfl dX8_laysFloors_13 ?_
    refine T_li (fun y1 => ?_)
    exact T_sub [4, 3, 2, 1, 0] rfl (tX8_laysFloors_15 X   FU (x1, (0 : Int32), (1 : Int32), y1, m)))
def bX8_lowest_6 (x0 : Int64) (x2 : Int64) (x4 : Int32) (k6 : Int64 × Int64 × mMem → mR) (s : Int64 × Int64 × mMem) : mR := match s with
  | (x5, x7, m) => if (lg_cmp x7 (0 : Int64)) = (0 : Int32) then if x4 = (0 : Int32) then g0l x5 (some (some (.long (x0 / x5)), m)) else g0l x5 (some (some (.long (x2 / x5)), m)) else g0l x7 (ll (x5 - x5 / x7 * x7) (fun y1 => k6 (x7, y1, m)))
set_option maxRecDepth 100000 in
theorem tX8_lowest_6 (X : mCx) (x0 : Int64) (x2 : Int64) (x4 : Int32)  : ∀ (n : Nat) (s : Int64 × Int64 × mMem), T qX8_lowest X (lp (bX8_lowest_6 x0 x2 x4) n s) 6 [(0, .long x0), (2, .long x2), (4, .int x4), (5, .long s.1), (7, .long s.2.1)] [] s.2.2 :=
  T_lp (body := bX8_lowest_6 x0 x2 x4) (lv := fun s => [(0, .long x0), (2, .long x2), (4, .int x4), (5, .long s.1), (7, .long s.2.1)]) (st := fun _ => []) (μ := fun s : Int64 × Int64 × mMem => s.2.2) (fun k6 hk6 s => by
    obtain ⟨x5, x7, m⟩ := s
    show T qX8_lowest X (bX8_lowest_6 x0 x2 x4 k6 (x5, x7, m)) 6 [(0, .long x0), (2, .long x2), (4, .int x4), (5, .long x5), (7, .long x7)] [] m
    unfold bX8_lowest_6
    dsimp only
    refine T_lload 4 rfl dX8_lowest_6 ?_
    refine T_lconst (0 : Int64) (by decide) dX8_lowest_8 ?_
    refine T_lcmp dX8_lowest_9 ?_
    refine T_if_eq 31 dX8_lowest_10 (by decide) (fun _ => ?_) (fun _ => ?_)
    · refine T_iload 2 rfl dX8_lowest_31 ?_
      refine T_if_ne 40 dX8_lowest_33 (by decide) (fun _ => ?_) (fun _ => ?_)
      · refine T_lload_n 0 rfl rfl dX8_lowest_36 ?_
        refine T_goto 41 dX8_lowest_37 (by decide) ?_
        refine T_lload 3 rfl dX8_lowest_41 ?_
        refine T_ldiv (x := x0) (y := x5) dX8_lowest_43 ?_
        exact T_lret rfl dX8_lowest_44
      · refine T_lload_n 1 rfl rfl dX8_lowest_40 ?_
        refine T_lload 3 rfl dX8_lowest_41 ?_
        refine T_ldiv (x := x2) (y := x5) dX8_lowest_43 ?_
        exact T_lret rfl dX8_lowest_44
    · refine T_lload 3 rfl dX8_lowest_13 ?_
      refine T_lload 4 rfl dX8_lowest_15 ?_
      refine T_lrem (x := x5) (y := x7) dX8_lowest_17 ?_
      refine T_lstore (lv' := [(9, .long (x5 - x5 / x7 * x7)), (0, .long x0), (2, .long x2), (4, .int x4), (5, .long x5), (7, .long x7)]) (Nat.le_of_ble_eq_true rfl) rfl dX8_lowest_18 ?_
      refine T_ll (fun y1 => ?_)
      refine T_lload 5 rfl dX8_lowest_20 ?_
      refine T_lstore (lv' := [(5, .long x7), (9, .long y1), (0, .long x0), (2, .long x2), (4, .int x4), (7, .long x7)]) (Nat.le_of_ble_eq_true rfl) rfl dX8_lowest_22 ?_
      refine T_lload 1 rfl dX8_lowest_24 ?_
      refine T_lstore (lv' := [(7, .long y1), (5, .long x7), (9, .long y1), (0, .long x0), (2, .long x2), (4, .int x4)]) (Nat.le_of_ble_eq_true rfl) rfl dX8_lowest_26 ?_
      refine T_goto 6 dX8_lowest_28 (by decide) ?_
      exact T_sub [3, 4, 5, 1, 0] rfl (hk6 (x7, y1, m)))
def fX8_lowest (x0 : Int64) (x2 : Int64) (x4 : Int32) (m : mMem) : mR := lp (bX8_lowest_6 x0 x2 x4) FU (x0, x2, m)
set_option maxRecDepth 100000 in
theorem bsX8_lowest (l : Launch) (x0 : Int64) (x2 : Int64) (x4 : Int32) (m : mMem)  : BS l qX8_lowest [.long x0, .long x2, .int x4] m (fX8_lowest x0 x2 x4 m) := BS_of (by decide) (Nat.le_of_ble_eq_true rfl) (fun X _ => by
    show T qX8_lowest X (fX8_lowest x0 x2 x4 m) 0 [(0, .long x0), (2, .long x2), (4, .int x4)] [] m
    unfold fX8_lowest
    refine T_lload_n 0 rfl rfl dX8_lowest_0 ?_
    refine T_lstore (lv' := [(5, .long x0), (0, .long x0), (2, .long x2), (4, .int x4)]) (Nat.le_of_ble_eq_true rfl) rfl dX8_lowest_1 ?_
    refine T_lload_n 2 rfl rfl dX8_lowest_3 ?_
    refine T_lstore (lv' := [(7, .long x2), (5, .long x0), (0, .long x0), (2, .long x2), (4, .int x4)]) (Nat.le_of_ble_eq_true rfl) rfl dX8_lowest_4 ?_
    exact T_sub [2, 3, 4, 1, 0] rfl (tX8_lowest_6 X x0 x2 x4  FU (x0, x2, m)))
def bX8_allFloors_4  (k4 : Int32 × Int32 × mMem → mR) (s : Int32 × Int32 × mMem) : mR := match s with
  | (x1, x2, m) => if (m.1 81 4) ≤ x2 then some (some (.int x1), m) else li (x1 * (m.1 81 2)) (fun y1 => li (x2 + (1 : Int32)) (fun y2 => k4 (y1, y2, m)))
set_option maxRecDepth 100000 in
theorem tX8_allFloors_4 (X : mCx)   : ∀ (n : Nat) (s : Int32 × Int32 × mMem), T qX8_allFloors X (lp (bX8_allFloors_4 ) n s) 4 [(0, .ref 81), (1, .int s.1), (2, .int s.2.1)] [] s.2.2 :=
  T_lp (body := bX8_allFloors_4 ) (lv := fun s => [(0, .ref 81), (1, .int s.1), (2, .int s.2.1)]) (st := fun _ => []) (μ := fun s : Int32 × Int32 × mMem => s.2.2) (fun k4 hk4 s => by
    obtain ⟨x1, x2, m⟩ := s
    show T qX8_allFloors X (bX8_allFloors_4  k4 (x1, x2, m)) 4 [(0, .ref 81), (1, .int x1), (2, .int x2)] [] m
    unfold bX8_allFloors_4
    dsimp only
    refine T_iload_n 2 rfl rfl dX8_allFloors_4 ?_
    refine T_aload_n 0 rfl rfl dX8_allFloors_5 ?_
    refine gIX8_146 rfl kd_81 dX8_allFloors_6 ?_
    refine T_icmp_ge 25 dX8_allFloors_9 (by decide) (fun _ => ?_) (fun _ => ?_)
    · refine T_iload_n 1 rfl rfl dX8_allFloors_25 ?_
      exact T_iret rfl dX8_allFloors_26
    · refine T_iload_n 1 rfl rfl dX8_allFloors_12 ?_
      refine T_aload_n 0 rfl rfl dX8_allFloors_13 ?_
      refine gIX8_143 rfl kd_81 dX8_allFloors_14 ?_
      refine T_imul dX8_allFloors_17 ?_
      refine T_istore_n (lv' := [(1, .int (x1 * (m.1 81 2))), (0, .ref 81), (2, .int x2)]) rfl (Nat.le_of_ble_eq_true rfl) rfl dX8_allFloors_18 ?_
      refine T_li (fun y1 => ?_)
      refine T_iinc (lv' := [(2, .int (x2 + (1 : Int32))), (1, .int y1), (0, .ref 81)]) 2 (1 : Int32) rfl (by decide) (Nat.le_of_ble_eq_true rfl) rfl dX8_allFloors_19 ?_
      refine T_li (fun y2 => ?_)
      refine T_goto 4 dX8_allFloors_22 (by decide) ?_
      exact T_sub [2, 1, 0] rfl (hk4 (y1, y2, m)))
def fX8_allFloors  (m : mMem) : mR := lp (bX8_allFloors_4 ) FU ((1 : Int32), (0 : Int32), m)
set_option maxRecDepth 100000 in
theorem bsX8_allFloors (l : Launch)  (m : mMem)  : BS l qX8_allFloors [.ref 81] m (fX8_allFloors  m) := BS_of (by decide) (Nat.le_of_ble_eq_true rfl) (fun X _ => by
    show T qX8_allFloors X (fX8_allFloors  m) 0 [(0, .ref 81)] [] m
    unfold fX8_allFloors
    refine T_iconst (1 : Int32) (by decide) dX8_allFloors_0 ?_
    refine T_istore_n (lv' := [(1, .int (1 : Int32)), (0, .ref 81)]) rfl (Nat.le_of_ble_eq_true rfl) rfl dX8_allFloors_1 ?_
    refine T_iconst (0 : Int32) (by decide) dX8_allFloors_2 ?_
    refine T_istore_n (lv' := [(2, .int (0 : Int32)), (1, .int (1 : Int32)), (0, .ref 81)]) rfl (Nat.le_of_ble_eq_true rfl) rfl dX8_allFloors_3 ?_
    exact T_sub [2, 1, 0] rfl (tX8_allFloors_4 X   FU ((1 : Int32), (0 : Int32), m)))
def bX8_floorOf_10 (x2 : Int32) (k10 : Int32 × Int32 × mMem → mR) (s : Int32 × Int32 × mMem) : mR := match s with
  | (x3, x4, m) => if x4 ≤ x2 then g0i (m.1 81 2) (some (some (.int (x3 - x3 / (m.1 81 2) * (m.1 81 2))), m)) else g0i (m.1 81 2) (li (x3 / (m.1 81 2)) (fun y2 => li (x4 + (-1 : Int32)) (fun y3 => k10 (y2, y3, m))))
set_option maxRecDepth 100000 in
theorem tX8_floorOf_10 (X : mCx) (x2 : Int32)  : ∀ (n : Nat) (s : Int32 × Int32 × mMem), T qX8_floorOf X (lp (bX8_floorOf_10 x2) n s) 10 [(0, .ref 81), (2, .int x2), (3, .int s.1), (4, .int s.2.1)] [] s.2.2 :=
  T_lp (body := bX8_floorOf_10 x2) (lv := fun s => [(0, .ref 81), (2, .int x2), (3, .int s.1), (4, .int s.2.1)]) (st := fun _ => []) (μ := fun s : Int32 × Int32 × mMem => s.2.2) (fun k10 hk10 s => by
    obtain ⟨x3, x4, m⟩ := s
    show T qX8_floorOf X (bX8_floorOf_10 x2 k10 (x3, x4, m)) 10 [(0, .ref 81), (2, .int x2), (3, .int x3), (4, .int x4)] [] m
    unfold bX8_floorOf_10
    dsimp only
    refine T_iload 3 rfl dX8_floorOf_10 ?_
    refine T_iload_n 1 rfl rfl dX8_floorOf_12 ?_
    refine T_icmp_le 29 dX8_floorOf_13 (by decide) (fun _ => ?_) (fun _ => ?_)
    · refine T_iload_n 2 rfl rfl dX8_floorOf_29 ?_
      refine T_aload_n 0 rfl rfl dX8_floorOf_30 ?_
      refine gIX8_143 rfl kd_81 dX8_floorOf_31 ?_
      refine T_irem (x := x3) (y := (m.1 81 2)) dX8_floorOf_34 ?_
      exact T_iret rfl dX8_floorOf_35
    · refine T_iload_n 2 rfl rfl dX8_floorOf_16 ?_
      refine T_aload_n 0 rfl rfl dX8_floorOf_17 ?_
      refine gIX8_143 rfl kd_81 dX8_floorOf_18 ?_
      refine T_idiv (x := x3) (y := (m.1 81 2)) dX8_floorOf_21 ?_
      refine T_istore_n (lv' := [(3, .int (x3 / (m.1 81 2))), (0, .ref 81), (2, .int x2), (4, .int x4)]) rfl (Nat.le_of_ble_eq_true rfl) rfl dX8_floorOf_22 ?_
      refine T_li (fun y2 => ?_)
      refine T_iinc (lv' := [(4, .int (x4 + (-1 : Int32))), (3, .int y2), (0, .ref 81), (2, .int x2)]) 3 (-1 : Int32) rfl (by decide) (Nat.le_of_ble_eq_true rfl) rfl dX8_floorOf_23 ?_
      refine T_li (fun y3 => ?_)
      refine T_goto 10 dX8_floorOf_26 (by decide) ?_
      exact T_sub [2, 3, 1, 0] rfl (hk10 (y2, y3, m)))
def fX8_floorOf (x1 : Int32) (x2 : Int32) (m : mMem) : mR := li ((m.1 81 4) - (1 : Int32)) (fun y1 => lp (bX8_floorOf_10 x2) FU (x1, y1, m))
set_option maxRecDepth 100000 in
theorem bsX8_floorOf (l : Launch) (x1 : Int32) (x2 : Int32) (m : mMem)  : BS l qX8_floorOf [.ref 81, .int x1, .int x2] m (fX8_floorOf x1 x2 m) := BS_of (by decide) (Nat.le_of_ble_eq_true rfl) (fun X _ => by
    show T qX8_floorOf X (fX8_floorOf x1 x2 m) 0 [(0, .ref 81), (1, .int x1), (2, .int x2)] [] m
    unfold fX8_floorOf
    refine T_iload_n 1 rfl rfl dX8_floorOf_0 ?_
    refine T_istore_n (lv' := [(3, .int x1), (0, .ref 81), (1, .int x1), (2, .int x2)]) rfl (Nat.le_of_ble_eq_true rfl) rfl dX8_floorOf_1 ?_
    refine T_aload_n 1 rfl rfl dX8_floorOf_2 ?_
    refine gIX8_146 rfl kd_81 dX8_floorOf_3 ?_
    refine T_iconst (1 : Int32) (by decide) dX8_floorOf_6 ?_
    refine T_isub dX8_floorOf_7 ?_
    refine T_istore (lv' := [(4, .int ((m.1 81 4) - (1 : Int32))), (3, .int x1), (0, .ref 81), (1, .int x1), (2, .int x2)]) (Nat.le_of_ble_eq_true rfl) rfl dX8_floorOf_8 ?_
    refine T_li (fun y1 => ?_)
    exact T_sub [2, 4, 1, 0] rfl (tX8_floorOf_10 X x2  FU (x1, y1, m)))
theorem lfX8_261 : Cond.fieldLink RX8 261 "RankStairsModel" "torn" "I" ∈ gdL := gd_mem 918 (by decide +kernel) (by decide +kernel)
theorem gIX8_261 {q : mMI} {X : mCx} {tgt : mR} {pc : Nat} {lv : List (Nat × Value)} {st : List Value} {μ : mMem} {b : Nat} (hq : q.1.cls = RX8) (hb : kd b = (8, 0)) (hd : decode q.2.1 pc = .ok (.getfield 261, 3)) (h : T q X tgt (pc + 3) lv (.int (μ.1 b 34) :: st) μ) : T q X tgt pc lv (.ref b :: st) μ := T_getI (c := 8) rfl (by decide) rfl (by decide) (by rw [hq]; exact lfX8_261) hb hd h
theorem pIX8_261 {q : mMI} {X : mCx} {tgt : mR} {pc : Nat} {lv : List (Nat × Value)} {st : List Value} {μ : mMem} {b : Nat} {x : Int32} (hq : q.1.cls = RX8) (hn : narrow .int (.int x) = .int x) (hfit : fits .int (.int x) = true) (hb : kd b = (8, 0)) (hd : decode q.2.1 pc = .ok (.putfield 261, 3)) (h : T q X tgt (pc + 3) lv st (si μ b 34 x)) : T q X tgt pc lv (.int x :: .ref b :: st) μ := T_put (c := 8) rfl (by decide) rfl (by decide) (by rw [hq]; exact lfX8_261) (by decide) hn hfit hb hd h
def fX8_torn  (m : mMem) : mR := some (some (.int (m.1 81 34)), m)
set_option maxRecDepth 100000 in
theorem bsX8_torn (l : Launch)  (m : mMem)  : BS l qX8_torn [.ref 81] m (fX8_torn  m) := BS_of (by decide) (Nat.le_of_ble_eq_true rfl) (fun X _ => by
    show T qX8_torn X (fX8_torn  m) 0 [(0, .ref 81)] [] m
    unfold fX8_torn
    refine T_aload_n 0 rfl rfl dX8_torn_0 ?_
    refine gIX8_261 rfl kd_81 dX8_torn_1 ?_
    exact T_iret rfl dX8_torn_4)
theorem lmX8_67 : Cond.methodLink RX8 67 yX8_in ∈ gdL := gd_mem 995 (by decide +kernel) (by decide +kernel)
theorem lcX8_65 : Cond.constantLong RX8 65 (127) ∈ gdL := gd_mem 994 (by decide +kernel) (by decide +kernel)
def fX8_feed (x1 : Int32) (m : mMem) : mR := bI (fX8_in (x1).toInt64 (0 : Int64) (127 : Int64) m) (fun z2 m1 => if z2 = (0 : Int32) then some (some (.int (-1 : Int32)), m1) else if (m1.1 81 14) = (160 : Int32) then some (some (.int (-3 : Int32)), m1) else ga (m1.1 81 14) 160 (lt (si m1 88 ((m1.1 81 14)).toNatClampNeg x1) (fun m4 => lt (si m4 81 14 ((m4.1 81 14) + (1 : Int32))) (fun m5 => some (some (.int (m5.1 81 14)), m5)))))
set_option maxRecDepth 100000 in
theorem bsX8_feed (l : Launch) (x1 : Int32) (m : mMem)  : BS l qX8_feed [.ref 81, .int x1] m (fX8_feed x1 m) := BS_of (by decide) (Nat.le_of_ble_eq_true rfl) (fun X _ => by
    show T qX8_feed X (fX8_feed x1 m) 0 [(0, .ref 81), (1, .int x1)] [] m
    unfold fX8_feed
    refine T_iload_n 1 rfl rfl dX8_feed_0 ?_
    refine T_i2l dX8_feed_1 ?_
    refine T_lconst (0 : Int64) (by decide) dX8_feed_2 ?_
    refine T_ldc2 lcX8_65 dX8_feed_3 ?_
    refine T_cSI [.long (x1).toInt64, .long (0 : Int64), .long (127 : Int64)] [] mkX8_in lmX8_67 rfl (by decide) (Nat.le_of_ble_eq_true rfl) dX8_feed_6 (bsX8_in _ (x1).toInt64 (0 : Int64) (127 : Int64) m) (fun z2 m1 => ?_)
    refine T_if_ne 14 dX8_feed_9 (by decide) (fun _ => ?_) (fun _ => ?_)
    · refine T_iconst (-1 : Int32) (by decide) dX8_feed_12 ?_
      exact T_iret rfl dX8_feed_13
    · refine T_aload_n 0 rfl rfl dX8_feed_14 ?_
      refine gIX8_71 rfl kd_81 dX8_feed_15 ?_
      refine T_sipush (160 : Int32) (by decide) dX8_feed_18 ?_
      refine T_icmp_ne 27 dX8_feed_21 (by decide) (fun _ => ?_) (fun _ => ?_)
      · refine T_bipush (-3 : Int32) (by decide) dX8_feed_24 ?_
        exact T_iret rfl dX8_feed_26
      · refine T_aload_n 0 rfl rfl dX8_feed_27 ?_
        refine gRX8_28 rfl kd_81 88 rfl dX8_feed_28 ?_
        refine T_aload_n 0 rfl rfl dX8_feed_31 ?_
        refine gIX8_71 rfl kd_81 dX8_feed_32 ?_
        refine T_iload_n 1 rfl rfl dX8_feed_35 ?_
        refine T_iast _ rfl kd_88 dX8_feed_36 ?_
        refine T_lt (fun m4 => ?_)
        refine T_aload_n 0 rfl rfl dX8_feed_37 ?_
        refine T_dup rfl dX8_feed_38 ?_
        refine gIX8_71 rfl kd_81 dX8_feed_39 ?_
        refine T_iconst (1 : Int32) (by decide) dX8_feed_42 ?_
        refine T_iadd dX8_feed_43 ?_
        refine pIX8_71 rfl rfl rfl kd_81 dX8_feed_44 ?_
        refine T_lt (fun m5 => ?_)
        refine T_aload_n 0 rfl rfl dX8_feed_47 ?_
        refine gIX8_71 rfl kd_81 dX8_feed_48 ?_
        exact T_iret rfl dX8_feed_51)
def fX8_end (x1 : Int32) (m : mMem) : mR := bI (fX8_in (x1).toInt64 (0 : Int64) ((m.1 81 14)).toInt64 m) (fun z2 m1 => if z2 = (0 : Int32) then some (some (.int (-1 : Int32)), m1) else li (m1.1 81 14) (fun y4 => lt (si m1 81 14 x1) (fun m5 => some (some (.int y4), m5))))
set_option maxRecDepth 100000 in
theorem bsX8_end (l : Launch) (x1 : Int32) (m : mMem)  : BS l qX8_end [.ref 81, .int x1] m (fX8_end x1 m) := BS_of (by decide) (Nat.le_of_ble_eq_true rfl) (fun X _ => by
    show T qX8_end X (fX8_end x1 m) 0 [(0, .ref 81), (1, .int x1)] [] m
    unfold fX8_end
    refine T_iload_n 1 rfl rfl dX8_end_0 ?_
    refine T_i2l dX8_end_1 ?_
    refine T_lconst (0 : Int64) (by decide) dX8_end_2 ?_
    refine T_aload_n 0 rfl rfl dX8_end_3 ?_
    refine gIX8_71 rfl kd_81 dX8_end_4 ?_
    refine T_i2l dX8_end_7 ?_
    refine T_cSI [.long (x1).toInt64, .long (0 : Int64), .long ((m.1 81 14)).toInt64] [] mkX8_in lmX8_67 rfl (by decide) (Nat.le_of_ble_eq_true rfl) dX8_end_8 (bsX8_in _ (x1).toInt64 (0 : Int64) ((m.1 81 14)).toInt64 m) (fun z2 m1 => ?_)
    refine T_if_ne 16 dX8_end_11 (by decide) (fun _ => ?_) (fun _ => ?_)
    · refine T_iconst (-1 : Int32) (by decide) dX8_end_14 ?_
      exact T_iret rfl dX8_end_15
    · refine T_aload_n 0 rfl rfl dX8_end_16 ?_
      refine gIX8_71 rfl kd_81 dX8_end_17 ?_
      refine T_istore_n (lv' := [(2, .int (m1.1 81 14)), (0, .ref 81), (1, .int x1)]) rfl (Nat.le_of_ble_eq_true rfl) rfl dX8_end_20 ?_
      refine T_li (fun y4 => ?_)
      refine T_aload_n 1 rfl rfl dX8_end_21 ?_
      refine T_iload_n 2 rfl rfl dX8_end_22 ?_
      refine pIX8_71 rfl rfl rfl kd_81 dX8_end_23 ?_
      refine T_lt (fun m5 => ?_)
      refine T_iload_n 0 rfl rfl dX8_end_26 ?_
      exact T_iret rfl dX8_end_27)
theorem lmX8_90 : Cond.methodLink RX8 90 yX8_byteAt ∈ gdL := gd_mem 1010 (by decide +kernel) (by decide +kernel)
theorem lfX8_31 : Cond.fieldLink RX8 31 "RankStairsModel" "cuts" "[I" ∈ gdL := gd_mem 906 (by decide +kernel) (by decide +kernel)
theorem gRX8_31 {q : mMI} {X : mCx} {tgt : mR} {pc : Nat} {lv : List (Nat × Value)} {st : List Value} {μ : mMem} {b : Nat} (hq : q.1.cls = RX8) (hb : kd b = (8, 0)) (z : Nat) (hz : rf b 22 = z) (hd : decode q.2.1 pc = .ok (.getfield 31, 3)) (h : T q X tgt (pc + 3) lv (.ref z :: st) μ) : T q X tgt pc lv (.ref b :: st) μ := T_getR (c := 8) rfl (by decide) rfl (by decide) (by rw [hq]; exact lfX8_31) hb z hz hd h
theorem lfX8_34 : Cond.fieldLink RX8 34 "RankStairsModel" "letters" "[I" ∈ gdL := gd_mem 907 (by decide +kernel) (by decide +kernel)
theorem gRX8_34 {q : mMI} {X : mCx} {tgt : mR} {pc : Nat} {lv : List (Nat × Value)} {st : List Value} {μ : mMem} {b : Nat} (hq : q.1.cls = RX8) (hb : kd b = (8, 0)) (z : Nat) (hz : rf b 23 = z) (hd : decode q.2.1 pc = .ok (.getfield 34, 3)) (h : T q X tgt (pc + 3) lv (.ref z :: st) μ) : T q X tgt pc lv (.ref b :: st) μ := T_getR (c := 8) rfl (by decide) rfl (by decide) (by rw [hq]; exact lfX8_34) hb z hz hd h
theorem lfX8_84 : Cond.fieldLink RX8 84 "RankStairsModel" "token" "I" ∈ gdL := gd_mem 904 (by decide +kernel) (by decide +kernel)
theorem gIX8_84 {q : mMI} {X : mCx} {tgt : mR} {pc : Nat} {lv : List (Nat × Value)} {st : List Value} {μ : mMem} {b : Nat} (hq : q.1.cls = RX8) (hb : kd b = (8, 0)) (hd : decode q.2.1 pc = .ok (.getfield 84, 3)) (h : T q X tgt (pc + 3) lv (.int (μ.1 b 20) :: st) μ) : T q X tgt pc lv (.ref b :: st) μ := T_getI (c := 8) rfl (by decide) rfl (by decide) (by rw [hq]; exact lfX8_84) hb hd h
theorem pIX8_84 {q : mMI} {X : mCx} {tgt : mR} {pc : Nat} {lv : List (Nat × Value)} {st : List Value} {μ : mMem} {b : Nat} {x : Int32} (hq : q.1.cls = RX8) (hn : narrow .int (.int x) = .int x) (hfit : fits .int (.int x) = true) (hb : kd b = (8, 0)) (hd : decode q.2.1 pc = .ok (.putfield 84, 3)) (h : T q X tgt (pc + 3) lv st (si μ b 20 x)) : T q X tgt pc lv (.int x :: .ref b :: st) μ := T_put (c := 8) rfl (by decide) rfl (by decide) (by rw [hq]; exact lfX8_84) (by decide) hn hfit hb hd h
theorem lfX8_87 : Cond.fieldLink RX8 87 "RankStairsModel" "spot" "I" ∈ gdL := gd_mem 902 (by decide +kernel) (by decide +kernel)
theorem gIX8_87 {q : mMI} {X : mCx} {tgt : mR} {pc : Nat} {lv : List (Nat × Value)} {st : List Value} {μ : mMem} {b : Nat} (hq : q.1.cls = RX8) (hb : kd b = (8, 0)) (hd : decode q.2.1 pc = .ok (.getfield 87, 3)) (h : T q X tgt (pc + 3) lv (.int (μ.1 b 18) :: st) μ) : T q X tgt pc lv (.ref b :: st) μ := T_getI (c := 8) rfl (by decide) rfl (by decide) (by rw [hq]; exact lfX8_87) hb hd h
theorem pIX8_87 {q : mMI} {X : mCx} {tgt : mR} {pc : Nat} {lv : List (Nat × Value)} {st : List Value} {μ : mMem} {b : Nat} {x : Int32} (hq : q.1.cls = RX8) (hn : narrow .int (.int x) = .int x) (hfit : fits .int (.int x) = true) (hb : kd b = (8, 0)) (hd : decode q.2.1 pc = .ok (.putfield 87, 3)) (h : T q X tgt (pc + 3) lv st (si μ b 18 x)) : T q X tgt pc lv (.int x :: .ref b :: st) μ := T_put (c := 8) rfl (by decide) rfl (by decide) (by rw [hq]; exact lfX8_87) (by decide) hn hfit hb hd h
def jX8_nameHere_106 (k2 : Int32 × mMem → mR) (x1 : Int32) (x2 : Int32) (m : mMem) : mR := if x2 = (0 : Int32) then li (x1 + (1 : Int32)) (fun y1 => k2 (y1, m)) else some (some (.int x1), m)
set_option maxRecDepth 100000 in
theorem uX8_nameHere_106 (X : mCx) (k2 : Int32 × mMem → mR) (x1 : Int32) (x2 : Int32) (m : mMem) (hk2 : ∀ s : Int32 × mMem, T qX8_nameHere X (k2 s) 2 [(0, .ref 81), (1, .int s.1)] [] s.2) : T qX8_nameHere X (jX8_nameHere_106 k2 x1 x2 m) 106 [(0, .ref 81), (1, .int x1), (2, .int x2)] [] m := by
  unfold jX8_nameHere_106
  refine T_iload_n 2 rfl rfl dX8_nameHere_106 ?_
  refine T_if_eq 112 dX8_nameHere_107 (by decide) (fun _ => ?_) (fun _ => ?_)
  · refine T_iinc (lv' := [(1, .int (x1 + (1 : Int32))), (0, .ref 81), (2, .int x2)]) 1 (1 : Int32) rfl (by decide) (Nat.le_of_ble_eq_true rfl) rfl dX8_nameHere_112 ?_
    refine T_li (fun y1 => ?_)
    refine T_goto 2 dX8_nameHere_115 (by decide) ?_
    exact T_sub [1, 0] rfl (hk2 (y1, m))
  · refine T_iload_n 1 rfl rfl dX8_nameHere_110 ?_
    exact T_iret rfl dX8_nameHere_111
def bX8_nameHere_51 (k2 : Int32 × mMem → mR) (x1 : Int32) (k51 : Int32 × Int32 × mMem → mR) (s : Int32 × Int32 × mMem) : mR := match s with
  | (x2, x3, m) => if x2 = (0 : Int32) then jX8_nameHere_106 k2 x1 x2 m else if ((m.1 81 18) - (m.1 81 19)) ≤ x3 then jX8_nameHere_106 k2 x1 x2 m else bI (fX8_byteAt ((m.1 81 19) + x3) m) (fun z3 m2 => ga x1 8 (ga ((m2.1 89 (x1).toNatClampNeg) + x3) 33 (if z3 = (m2.1 90 (((m2.1 89 (x1).toNatClampNeg) + x3)).toNatClampNeg) then li (x3 + (1 : Int32)) (fun y5 => k51 ((1 : Int32), y5, m2)) else li (x3 + (1 : Int32)) (fun y6 => k51 ((0 : Int32), y6, m2)))))
set_option maxRecDepth 100000 in
theorem tX8_nameHere_51 (X : mCx) (k2 : Int32 × mMem → mR) (x1 : Int32) (hk2 : ∀ s : Int32 × mMem, T qX8_nameHere X (k2 s) 2 [(0, .ref 81), (1, .int s.1)] [] s.2) : ∀ (n : Nat) (s : Int32 × Int32 × mMem), T qX8_nameHere X (lp (bX8_nameHere_51 k2 x1) n s) 51 [(0, .ref 81), (1, .int x1), (2, .int s.1), (3, .int s.2.1)] [] s.2.2 :=
  T_lp (body := bX8_nameHere_51 k2 x1) (lv := fun s => [(0, .ref 81), (1, .int x1), (2, .int s.1), (3, .int s.2.1)]) (st := fun _ => []) (μ := fun s : Int32 × Int32 × mMem => s.2.2) (fun k51 hk51 s => by
    obtain ⟨x2, x3, m⟩ := s
    show T qX8_nameHere X (bX8_nameHere_51 k2 x1 k51 (x2, x3, m)) 51 [(0, .ref 81), (1, .int x1), (2, .int x2), (3, .int x3)] [] m
    unfold bX8_nameHere_51
    dsimp only
    refine T_iload_n 2 rfl rfl dX8_nameHere_51 ?_
    refine T_if_eq 106 dX8_nameHere_52 (by decide) (fun _ => ?_) (fun _ => ?_)
    · exact T_sub [0, 1, 2] rfl (uX8_nameHere_106 X k2 x1 x2 m hk2)
    · refine T_iload_n 3 rfl rfl dX8_nameHere_55 ?_
      refine T_aload_n 0 rfl rfl dX8_nameHere_56 ?_
      refine gIX8_87 rfl kd_81 dX8_nameHere_57 ?_
      refine T_aload_n 0 rfl rfl dX8_nameHere_60 ?_
      refine gIX8_78 rfl kd_81 dX8_nameHere_61 ?_
      refine T_isub dX8_nameHere_64 ?_
      refine T_icmp_ge 106 dX8_nameHere_65 (by decide) (fun _ => ?_) (fun _ => ?_)
      · exact T_sub [0, 1, 2] rfl (uX8_nameHere_106 X k2 x1 x2 m hk2)
      · refine T_aload_n 0 rfl rfl dX8_nameHere_68 ?_
        refine T_aload_n 0 rfl rfl dX8_nameHere_69 ?_
        refine gIX8_78 rfl kd_81 dX8_nameHere_70 ?_
        refine T_iload_n 3 rfl rfl dX8_nameHere_73 ?_
        refine T_iadd dX8_nameHere_74 ?_
        refine T_cVI (c := 8) [.int ((m.1 81 19) + x3)] [] mkX8_byteAt lmX8_90 rfl rfl (by decide) (Nat.le_of_ble_eq_true rfl) kd_81 dX8_nameHere_75 (bsX8_byteAt _ ((m.1 81 19) + x3) m) (fun z3 m2 => ?_)
        refine T_aload_n 0 rfl rfl dX8_nameHere_78 ?_
        refine gRX8_34 rfl kd_81 90 rfl dX8_nameHere_79 ?_
        refine T_aload_n 0 rfl rfl dX8_nameHere_82 ?_
        refine gRX8_31 rfl kd_81 89 rfl dX8_nameHere_83 ?_
        refine T_iload_n 1 rfl rfl dX8_nameHere_86 ?_
        refine T_iald kd_89 dX8_nameHere_87 ?_
        refine T_iload_n 3 rfl rfl dX8_nameHere_88 ?_
        refine T_iadd dX8_nameHere_89 ?_
        refine T_iald kd_90 dX8_nameHere_90 ?_
        refine T_icmp_ne 98 dX8_nameHere_91 (by decide) (fun _ => ?_) (fun _ => ?_)
        · refine T_iconst (1 : Int32) (by decide) dX8_nameHere_94 ?_
          refine T_goto 99 dX8_nameHere_95 (by decide) ?_
          refine T_istore_n (lv' := [(2, .int (1 : Int32)), (0, .ref 81), (1, .int x1), (3, .int x3)]) rfl (Nat.le_of_ble_eq_true rfl) rfl dX8_nameHere_99 ?_
          refine T_iinc (lv' := [(3, .int (x3 + (1 : Int32))), (2, .int (1 : Int32)), (0, .ref 81), (1, .int x1)]) 3 (1 : Int32) rfl (by decide) (Nat.le_of_ble_eq_true rfl) rfl dX8_nameHere_100 ?_
          refine T_li (fun y5 => ?_)
          refine T_goto 51 dX8_nameHere_103 (by decide) ?_
          exact T_sub [2, 3, 1, 0] rfl (hk51 ((1 : Int32), y5, m2))
        · refine T_iconst (0 : Int32) (by decide) dX8_nameHere_98 ?_
          refine T_istore_n (lv' := [(2, .int (0 : Int32)), (0, .ref 81), (1, .int x1), (3, .int x3)]) rfl (Nat.le_of_ble_eq_true rfl) rfl dX8_nameHere_99 ?_
          refine T_iinc (lv' := [(3, .int (x3 + (1 : Int32))), (2, .int (0 : Int32)), (0, .ref 81), (1, .int x1)]) 3 (1 : Int32) rfl (by decide) (Nat.le_of_ble_eq_true rfl) rfl dX8_nameHere_100 ?_
          refine T_li (fun y6 => ?_)
          refine T_goto 51 dX8_nameHere_103 (by decide) ?_
          exact T_sub [2, 3, 1, 0] rfl (hk51 ((0 : Int32), y6, m2)))
def jX8_nameHere_48 (k2 : Int32 × mMem → mR) (x1 : Int32) (xs0 : Int32) (m : mMem) : mR := lp (bX8_nameHere_51 k2 x1) FU (xs0, (0 : Int32), m)
set_option maxRecDepth 100000 in
theorem uX8_nameHere_48 (X : mCx) (k2 : Int32 × mMem → mR) (x1 : Int32) (xs0 : Int32) (m : mMem) (hk2 : ∀ s : Int32 × mMem, T qX8_nameHere X (k2 s) 2 [(0, .ref 81), (1, .int s.1)] [] s.2) : T qX8_nameHere X (jX8_nameHere_48 k2 x1 xs0 m) 48 [(0, .ref 81), (1, .int x1)] [.int xs0] m := by
  unfold jX8_nameHere_48
  refine T_istore_n (lv' := [(2, .int xs0), (0, .ref 81), (1, .int x1)]) rfl (Nat.le_of_ble_eq_true rfl) rfl dX8_nameHere_48 ?_
  refine T_iconst (0 : Int32) (by decide) dX8_nameHere_49 ?_
  refine T_istore_n (lv' := [(3, .int (0 : Int32)), (2, .int xs0), (0, .ref 81), (1, .int x1)]) rfl (Nat.le_of_ble_eq_true rfl) rfl dX8_nameHere_50 ?_
  exact T_sub [2, 3, 1, 0] rfl (tX8_nameHere_51 X k2 x1 hk2 FU (xs0, (0 : Int32), m))
def bX8_nameHere_2  (k2 : Int32 × mMem → mR) (s : Int32 × mMem) : mR := match s with
  | (x1, m) => if (7 : Int32) ≤ x1 then some (some (.int (-4 : Int32)), m) else if (m.1 81 20) = (1 : Int32) then ga (x1 + (1 : Int32)) 8 (ga x1 8 (if ((m.1 81 18) - (m.1 81 19)) = ((m.1 89 ((x1 + (1 : Int32))).toNatClampNeg) - (m.1 89 (x1).toNatClampNeg)) then jX8_nameHere_48 k2 x1 (1 : Int32) m else jX8_nameHere_48 k2 x1 (0 : Int32) m)) else some (some (.int (-4 : Int32)), m)
set_option maxRecDepth 100000 in
theorem tX8_nameHere_2 (X : mCx)   : ∀ (n : Nat) (s : Int32 × mMem), T qX8_nameHere X (lp (bX8_nameHere_2 ) n s) 2 [(0, .ref 81), (1, .int s.1)] [] s.2 :=
  T_lp (body := bX8_nameHere_2 ) (lv := fun s => [(0, .ref 81), (1, .int s.1)]) (st := fun _ => []) (μ := fun s : Int32 × mMem => s.2) (fun k2 hk2 s => by
    obtain ⟨x1, m⟩ := s
    show T qX8_nameHere X (bX8_nameHere_2  k2 (x1, m)) 2 [(0, .ref 81), (1, .int x1)] [] m
    unfold bX8_nameHere_2
    dsimp only
    refine T_iload_n 1 rfl rfl dX8_nameHere_2 ?_
    refine T_bipush (7 : Int32) (by decide) dX8_nameHere_3 ?_
    refine T_icmp_ge 118 dX8_nameHere_5 (by decide) (fun _ => ?_) (fun _ => ?_)
    · refine T_bipush (-4 : Int32) (by decide) dX8_nameHere_118 ?_
      exact T_iret rfl dX8_nameHere_120
    · refine T_aload_n 0 rfl rfl dX8_nameHere_8 ?_
      refine gIX8_84 rfl kd_81 dX8_nameHere_9 ?_
      refine T_iconst (1 : Int32) (by decide) dX8_nameHere_12 ?_
      refine T_icmp_ne 118 dX8_nameHere_13 (by decide) (fun _ => ?_) (fun _ => ?_)
      · refine T_aload_n 0 rfl rfl dX8_nameHere_16 ?_
        refine gIX8_87 rfl kd_81 dX8_nameHere_17 ?_
        refine T_aload_n 0 rfl rfl dX8_nameHere_20 ?_
        refine gIX8_78 rfl kd_81 dX8_nameHere_21 ?_
        refine T_isub dX8_nameHere_24 ?_
        refine T_aload_n 0 rfl rfl dX8_nameHere_25 ?_
        refine gRX8_31 rfl kd_81 89 rfl dX8_nameHere_26 ?_
        refine T_iload_n 1 rfl rfl dX8_nameHere_29 ?_
        refine T_iconst (1 : Int32) (by decide) dX8_nameHere_30 ?_
        refine T_iadd dX8_nameHere_31 ?_
        refine T_iald kd_89 dX8_nameHere_32 ?_
        refine T_aload_n 0 rfl rfl dX8_nameHere_33 ?_
        refine gRX8_31 rfl kd_81 89 rfl dX8_nameHere_34 ?_
        refine T_iload_n 1 rfl rfl dX8_nameHere_37 ?_
        refine T_iald kd_89 dX8_nameHere_38 ?_
        refine T_isub dX8_nameHere_39 ?_
        refine T_icmp_ne 47 dX8_nameHere_40 (by decide) (fun _ => ?_) (fun _ => ?_)
        · refine T_iconst (1 : Int32) (by decide) dX8_nameHere_43 ?_
          refine T_goto 48 dX8_nameHere_44 (by decide) ?_
          exact T_sub [0, 1] rfl (uX8_nameHere_48 X k2 x1 (1 : Int32) m hk2)
        · refine T_iconst (0 : Int32) (by decide) dX8_nameHere_47 ?_
          exact T_sub [0, 1] rfl (uX8_nameHere_48 X k2 x1 (0 : Int32) m hk2)
      · refine T_bipush (-4 : Int32) (by decide) dX8_nameHere_118 ?_
        exact T_iret rfl dX8_nameHere_120)
def fX8_nameHere  (m : mMem) : mR := lp (bX8_nameHere_2 ) FU ((0 : Int32), m)
set_option maxRecDepth 100000 in
theorem bsX8_nameHere (l : Launch)  (m : mMem)  : BS l qX8_nameHere [.ref 81] m (fX8_nameHere  m) := BS_of (by decide) (Nat.le_of_ble_eq_true rfl) (fun X _ => by
    show T qX8_nameHere X (fX8_nameHere  m) 0 [(0, .ref 81)] [] m
    unfold fX8_nameHere
    refine T_iconst (0 : Int32) (by decide) dX8_nameHere_0 ?_
    refine T_istore_n (lv' := [(1, .int (0 : Int32)), (0, .ref 81)]) rfl (Nat.le_of_ble_eq_true rfl) rfl dX8_nameHere_1 ?_
    exact T_sub [1, 0] rfl (tX8_nameHere_2 X   FU ((0 : Int32), m)))
theorem lmX8_105 : Cond.methodLink RX8 105 yX8_fails ∈ gdL := gd_mem 1018 (by decide +kernel) (by decide +kernel)
theorem lfX8_94 : Cond.fieldLink RX8 94 "RankStairsModel" "value" "I" ∈ gdL := gd_mem 905 (by decide +kernel) (by decide +kernel)
theorem gIX8_94 {q : mMI} {X : mCx} {tgt : mR} {pc : Nat} {lv : List (Nat × Value)} {st : List Value} {μ : mMem} {b : Nat} (hq : q.1.cls = RX8) (hb : kd b = (8, 0)) (hd : decode q.2.1 pc = .ok (.getfield 94, 3)) (h : T q X tgt (pc + 3) lv (.int (μ.1 b 21) :: st) μ) : T q X tgt pc lv (.ref b :: st) μ := T_getI (c := 8) rfl (by decide) rfl (by decide) (by rw [hq]; exact lfX8_94) hb hd h
theorem pIX8_94 {q : mMI} {X : mCx} {tgt : mR} {pc : Nat} {lv : List (Nat × Value)} {st : List Value} {μ : mMem} {b : Nat} {x : Int32} (hq : q.1.cls = RX8) (hn : narrow .int (.int x) = .int x) (hfit : fits .int (.int x) = true) (hb : kd b = (8, 0)) (hd : decode q.2.1 pc = .ok (.putfield 94, 3)) (h : T q X tgt (pc + 3) lv st (si μ b 21 x)) : T q X tgt pc lv (.int x :: .ref b :: st) μ := T_put (c := 8) rfl (by decide) rfl (by decide) (by rw [hq]; exact lfX8_94) (by decide) hn hfit hb hd h
theorem lcX8_97 : Cond.constantLong RX8 97 (97) ∈ gdL := gd_mem 1014 (by decide +kernel) (by decide +kernel)
theorem lcX8_99 : Cond.constantLong RX8 99 (122) ∈ gdL := gd_mem 1015 (by decide +kernel) (by decide +kernel)
theorem lcX8_101 : Cond.constantLong RX8 101 (48) ∈ gdL := gd_mem 1016 (by decide +kernel) (by decide +kernel)
theorem lcX8_103 : Cond.constantLong RX8 103 (57) ∈ gdL := gd_mem 1017 (by decide +kernel) (by decide +kernel)
def bX8_goesOn_140  (k140 : mMem → mR) (s : mMem) : mR := match s with
  | m => bI (fX8_byteAt (m.1 81 18) m) (fun z21 m20 => bI (fX8_in (z21).toInt64 (48 : Int64) (57 : Int64) m20) (fun z24 m23 => if z24 = (0 : Int32) then lt (si m23 81 20 (2 : Int32)) (fun m26 => if ((m26.1 81 18) - (m26.1 81 19)) ≤ (2 : Int32) then some (none, m26) else bV (fX8_fails (1 : Int32) m26) (fun m27 => some (none, m27))) else if (2 : Int32) ≤ ((m23.1 81 18) - (m23.1 81 19)) then lt (si m23 81 21 (m23.1 81 21)) (fun m28 => lt (si m28 81 18 ((m28.1 81 18) + (1 : Int32))) (fun m29 => k140 m29)) else bI (fX8_byteAt (m23.1 81 18) m23) (fun z31 m30 => lt (si m30 81 21 ((((10 : Int32) * (m23.1 81 21)) + z31) - (48 : Int32))) (fun m33 => lt (si m33 81 18 ((m33.1 81 18) + (1 : Int32))) (fun m34 => k140 m34)))))
set_option maxRecDepth 100000 in
theorem tX8_goesOn_140 (X : mCx)   : ∀ (n : Nat) (s : mMem), T qX8_goesOn X (lp (bX8_goesOn_140 ) n s) 140 [(0, .ref 81)] [] s :=
  T_lp (body := bX8_goesOn_140 ) (lv := fun s => [(0, .ref 81)]) (st := fun _ => []) (μ := fun s : mMem => s) (fun k140 hk140 s => by
    obtain ⟨m, hms⟩ : ∃ z, z = s := ⟨s, rfl⟩
    subst hms
    show T qX8_goesOn X (bX8_goesOn_140  k140 m) 140 [(0, .ref 81)] [] m
    unfold bX8_goesOn_140
    dsimp only
    refine T_aload_n 0 rfl rfl dX8_goesOn_140 ?_
    refine T_aload_n 0 rfl rfl dX8_goesOn_141 ?_
    refine gIX8_87 rfl kd_81 dX8_goesOn_142 ?_
    refine T_cVI (c := 8) [.int (m.1 81 18)] [] mkX8_byteAt lmX8_90 rfl rfl (by decide) (Nat.le_of_ble_eq_true rfl) kd_81 dX8_goesOn_145 (bsX8_byteAt _ (m.1 81 18) m) (fun z21 m20 => ?_)
    refine T_i2l dX8_goesOn_148 ?_
    refine T_ldc2 lcX8_101 dX8_goesOn_149 ?_
    refine T_ldc2 lcX8_103 dX8_goesOn_152 ?_
    refine T_cSI [.long (z21).toInt64, .long (48 : Int64), .long (57 : Int64)] [] mkX8_in lmX8_67 rfl (by decide) (Nat.le_of_ble_eq_true rfl) dX8_goesOn_155 (bsX8_in _ (z21).toInt64 (48 : Int64) (57 : Int64) m20) (fun z24 m23 => ?_)
    refine T_if_eq 217 dX8_goesOn_158 (by decide) (fun _ => ?_) (fun _ => ?_)
    · refine T_aload_n 0 rfl rfl dX8_goesOn_217 ?_
      refine T_iconst (2 : Int32) (by decide) dX8_goesOn_218 ?_
      refine pIX8_84 rfl rfl rfl kd_81 dX8_goesOn_219 ?_
      refine T_lt (fun m26 => ?_)
      refine T_aload_n 0 rfl rfl dX8_goesOn_222 ?_
      refine gIX8_87 rfl kd_81 dX8_goesOn_223 ?_
      refine T_aload_n 0 rfl rfl dX8_goesOn_226 ?_
      refine gIX8_78 rfl kd_81 dX8_goesOn_227 ?_
      refine T_isub dX8_goesOn_230 ?_
      refine T_iconst (2 : Int32) (by decide) dX8_goesOn_231 ?_
      refine T_icmp_le 269 dX8_goesOn_232 (by decide) (fun _ => ?_) (fun _ => ?_)
      · exact T_vret rfl dX8_goesOn_269
      · refine T_aload_n 0 rfl rfl dX8_goesOn_235 ?_
        refine T_iconst (1 : Int32) (by decide) dX8_goesOn_236 ?_
        refine T_cVV (c := 8) [.int (1 : Int32)] [] mkX8_fails lmX8_105 rfl rfl (by decide) (Nat.le_of_ble_eq_true rfl) kd_81 dX8_goesOn_237 (bsX8_fails _ (1 : Int32) m26) (fun m27 => ?_)
        refine T_goto 269 dX8_goesOn_240 (by decide) ?_
        exact T_vret rfl dX8_goesOn_269
    · refine T_aload_n 0 rfl rfl dX8_goesOn_161 ?_
      refine T_aload_n 0 rfl rfl dX8_goesOn_162 ?_
      refine gIX8_87 rfl kd_81 dX8_goesOn_163 ?_
      refine T_aload_n 0 rfl rfl dX8_goesOn_166 ?_
      refine gIX8_78 rfl kd_81 dX8_goesOn_167 ?_
      refine T_isub dX8_goesOn_170 ?_
      refine T_iconst (2 : Int32) (by decide) dX8_goesOn_171 ?_
      refine T_icmp_ge 197 dX8_goesOn_172 (by decide) (fun _ => ?_) (fun _ => ?_)
      · refine T_aload_n 0 rfl rfl dX8_goesOn_197 ?_
        refine gIX8_94 rfl kd_81 dX8_goesOn_198 ?_
        refine pIX8_94 rfl rfl rfl kd_81 dX8_goesOn_201 ?_
        refine T_lt (fun m28 => ?_)
        refine T_aload_n 0 rfl rfl dX8_goesOn_204 ?_
        refine T_dup rfl dX8_goesOn_205 ?_
        refine gIX8_87 rfl kd_81 dX8_goesOn_206 ?_
        refine T_iconst (1 : Int32) (by decide) dX8_goesOn_209 ?_
        refine T_iadd dX8_goesOn_210 ?_
        refine pIX8_87 rfl rfl rfl kd_81 dX8_goesOn_211 ?_
        refine T_lt (fun m29 => ?_)
        refine T_goto 140 dX8_goesOn_214 (by decide) ?_
        exact T_sub [0] rfl (hk140 m29)
      · refine T_bipush (10 : Int32) (by decide) dX8_goesOn_175 ?_
        refine T_aload_n 0 rfl rfl dX8_goesOn_177 ?_
        refine gIX8_94 rfl kd_81 dX8_goesOn_178 ?_
        refine T_imul dX8_goesOn_181 ?_
        refine T_aload_n 0 rfl rfl dX8_goesOn_182 ?_
        refine T_aload_n 0 rfl rfl dX8_goesOn_183 ?_
        refine gIX8_87 rfl kd_81 dX8_goesOn_184 ?_
        refine T_cVI (c := 8) [.int (m23.1 81 18)] [.int ((10 : Int32) * (m23.1 81 21)), .ref 81] mkX8_byteAt lmX8_90 rfl rfl (by decide) (Nat.le_of_ble_eq_true rfl) kd_81 dX8_goesOn_187 (bsX8_byteAt _ (m23.1 81 18) m23) (fun z31 m30 => ?_)
        refine T_iadd dX8_goesOn_190 ?_
        refine T_bipush (48 : Int32) (by decide) dX8_goesOn_191 ?_
        refine T_isub dX8_goesOn_193 ?_
        refine T_goto 201 dX8_goesOn_194 (by decide) ?_
        refine pIX8_94 rfl rfl rfl kd_81 dX8_goesOn_201 ?_
        refine T_lt (fun m33 => ?_)
        refine T_aload_n 0 rfl rfl dX8_goesOn_204 ?_
        refine T_dup rfl dX8_goesOn_205 ?_
        refine gIX8_87 rfl kd_81 dX8_goesOn_206 ?_
        refine T_iconst (1 : Int32) (by decide) dX8_goesOn_209 ?_
        refine T_iadd dX8_goesOn_210 ?_
        refine pIX8_87 rfl rfl rfl kd_81 dX8_goesOn_211 ?_
        refine T_lt (fun m34 => ?_)
        refine T_goto 140 dX8_goesOn_214 (by decide) ?_
        exact T_sub [0] rfl (hk140 m34))
def bX8_goesOn_84  (k84 : mMem → mR) (s : mMem) : mR := match s with
  | m => bI (fX8_byteAt (m.1 81 18) m) (fun z36 m35 => bI (fX8_in (z36).toInt64 (97 : Int64) (122 : Int64) m35) (fun z39 m38 => if z39 = (0 : Int32) then lt (si m38 81 20 (1 : Int32)) (fun m41 => some (none, m41)) else lt (si m38 81 18 ((m38.1 81 18) + (1 : Int32))) (fun m42 => k84 m42)))
set_option maxRecDepth 100000 in
theorem tX8_goesOn_84 (X : mCx)   : ∀ (n : Nat) (s : mMem), T qX8_goesOn X (lp (bX8_goesOn_84 ) n s) 84 [(0, .ref 81)] [] s :=
  T_lp (body := bX8_goesOn_84 ) (lv := fun s => [(0, .ref 81)]) (st := fun _ => []) (μ := fun s : mMem => s) (fun k84 hk84 s => by
    obtain ⟨m, hms⟩ : ∃ z, z = s := ⟨s, rfl⟩
    subst hms
    show T qX8_goesOn X (bX8_goesOn_84  k84 m) 84 [(0, .ref 81)] [] m
    unfold bX8_goesOn_84
    dsimp only
    refine T_aload_n 0 rfl rfl dX8_goesOn_84 ?_
    refine T_aload_n 0 rfl rfl dX8_goesOn_85 ?_
    refine gIX8_87 rfl kd_81 dX8_goesOn_86 ?_
    refine T_cVI (c := 8) [.int (m.1 81 18)] [] mkX8_byteAt lmX8_90 rfl rfl (by decide) (Nat.le_of_ble_eq_true rfl) kd_81 dX8_goesOn_89 (bsX8_byteAt _ (m.1 81 18) m) (fun z36 m35 => ?_)
    refine T_i2l dX8_goesOn_92 ?_
    refine T_ldc2 lcX8_97 dX8_goesOn_93 ?_
    refine T_ldc2 lcX8_99 dX8_goesOn_96 ?_
    refine T_cSI [.long (z36).toInt64, .long (97 : Int64), .long (122 : Int64)] [] mkX8_in lmX8_67 rfl (by decide) (Nat.le_of_ble_eq_true rfl) dX8_goesOn_99 (bsX8_in _ (z36).toInt64 (97 : Int64) (122 : Int64) m35) (fun z39 m38 => ?_)
    refine T_if_eq 118 dX8_goesOn_102 (by decide) (fun _ => ?_) (fun _ => ?_)
    · refine T_aload_n 0 rfl rfl dX8_goesOn_118 ?_
      refine T_iconst (1 : Int32) (by decide) dX8_goesOn_119 ?_
      refine pIX8_84 rfl rfl rfl kd_81 dX8_goesOn_120 ?_
      refine T_lt (fun m41 => ?_)
      refine T_goto 269 dX8_goesOn_123 (by decide) ?_
      exact T_vret rfl dX8_goesOn_269
    · refine T_aload_n 0 rfl rfl dX8_goesOn_105 ?_
      refine T_dup rfl dX8_goesOn_106 ?_
      refine gIX8_87 rfl kd_81 dX8_goesOn_107 ?_
      refine T_iconst (1 : Int32) (by decide) dX8_goesOn_110 ?_
      refine T_iadd dX8_goesOn_111 ?_
      refine pIX8_87 rfl rfl rfl kd_81 dX8_goesOn_112 ?_
      refine T_lt (fun m42 => ?_)
      refine T_goto 84 dX8_goesOn_115 (by decide) ?_
      exact T_sub [0] rfl (hk84 m42))
def bX8_goesOn_8  (k8 : mMem → mR) (s : mMem) : mR := match s with
  | m => bI (fX8_byteAt (m.1 81 18) m) (fun z2 m1 => if z2 = (32 : Int32) then lt (si m1 81 18 ((m1.1 81 18) + (1 : Int32))) (fun m4 => k8 m4) else lt (si m1 81 19 (m1.1 81 18)) (fun m5 => bI (fX8_byteAt (m5.1 81 18) m5) (fun z7 m6 => lt (si m6 81 21 (0 : Int32)) (fun m9 => if z7 = (-4 : Int32) then lt (si m9 81 20 (0 : Int32)) (fun m10 => some (none, m10)) else bI (fX8_in (z7).toInt64 (97 : Int64) (122 : Int64) m9) (fun z12 m11 => if z12 = (0 : Int32) then bI (fX8_in (z7).toInt64 (48 : Int64) (57 : Int64) m11) (fun z15 m14 => if z15 = (0 : Int32) then lt (si m14 81 20 (3 : Int32)) (fun m17 => lt (si m17 81 18 ((m17.1 81 18) + (1 : Int32))) (fun m18 => if z7 = (59 : Int32) then some (none, m18) else bV (fX8_fails (1 : Int32) m18) (fun m19 => some (none, m19)))) else lp (bX8_goesOn_140 ) FU m14) else lp (bX8_goesOn_84 ) FU m11)))))
set_option maxRecDepth 100000 in
theorem tX8_goesOn_8 (X : mCx)   : ∀ (n : Nat) (s : mMem), T qX8_goesOn X (lp (bX8_goesOn_8 ) n s) 8 [(0, .ref 81)] [] s :=
  T_lp (body := bX8_goesOn_8 ) (lv := fun s => [(0, .ref 81)]) (st := fun _ => []) (μ := fun s : mMem => s) (fun k8 hk8 s => by
    obtain ⟨m, hms⟩ : ∃ z, z = s := ⟨s, rfl⟩
    subst hms
    show T qX8_goesOn X (bX8_goesOn_8  k8 m) 8 [(0, .ref 81)] [] m
    unfold bX8_goesOn_8
    dsimp only
    refine T_aload_n 0 rfl rfl dX8_goesOn_8 ?_
    refine T_aload_n 0 rfl rfl dX8_goesOn_9 ?_
    refine gIX8_87 rfl kd_81 dX8_goesOn_10 ?_
    refine T_cVI (c := 8) [.int (m.1 81 18)] [] mkX8_byteAt lmX8_90 rfl rfl (by decide) (Nat.le_of_ble_eq_true rfl) kd_81 dX8_goesOn_13 (bsX8_byteAt _ (m.1 81 18) m) (fun z2 m1 => ?_)
    refine T_bipush (32 : Int32) (by decide) dX8_goesOn_16 ?_
    refine T_icmp_ne 34 dX8_goesOn_18 (by decide) (fun _ => ?_) (fun _ => ?_)
    · refine T_aload_n 0 rfl rfl dX8_goesOn_21 ?_
      refine T_dup rfl dX8_goesOn_22 ?_
      refine gIX8_87 rfl kd_81 dX8_goesOn_23 ?_
      refine T_iconst (1 : Int32) (by decide) dX8_goesOn_26 ?_
      refine T_iadd dX8_goesOn_27 ?_
      refine pIX8_87 rfl rfl rfl kd_81 dX8_goesOn_28 ?_
      refine T_lt (fun m4 => ?_)
      refine T_goto 8 dX8_goesOn_31 (by decide) ?_
      exact T_sub [0] rfl (hk8 m4)
    · refine T_aload_n 0 rfl rfl dX8_goesOn_34 ?_
      refine T_aload_n 0 rfl rfl dX8_goesOn_35 ?_
      refine gIX8_87 rfl kd_81 dX8_goesOn_36 ?_
      refine pIX8_78 rfl rfl rfl kd_81 dX8_goesOn_39 ?_
      refine T_lt (fun m5 => ?_)
      refine T_aload_n 0 rfl rfl dX8_goesOn_42 ?_
      refine T_aload_n 0 rfl rfl dX8_goesOn_43 ?_
      refine gIX8_87 rfl kd_81 dX8_goesOn_44 ?_
      refine T_cVI (c := 8) [.int (m5.1 81 18)] [] mkX8_byteAt lmX8_90 rfl rfl (by decide) (Nat.le_of_ble_eq_true rfl) kd_81 dX8_goesOn_47 (bsX8_byteAt _ (m5.1 81 18) m5) (fun z7 m6 => ?_)
      refine T_istore_n (lv' := [(1, .int z7), (0, .ref 81)]) rfl (Nat.le_of_ble_eq_true rfl) rfl dX8_goesOn_50 ?_
      refine T_aload_n 1 rfl rfl dX8_goesOn_51 ?_
      refine T_iconst (0 : Int32) (by decide) dX8_goesOn_52 ?_
      refine pIX8_94 rfl rfl rfl kd_81 dX8_goesOn_53 ?_
      refine T_lt (fun m9 => ?_)
      refine T_iload_n 0 rfl rfl dX8_goesOn_56 ?_
      refine T_bipush (-4 : Int32) (by decide) dX8_goesOn_57 ?_
      refine T_icmp_ne 70 dX8_goesOn_59 (by decide) (fun _ => ?_) (fun _ => ?_)
      · refine T_aload_n 1 rfl rfl dX8_goesOn_62 ?_
        refine T_iconst (0 : Int32) (by decide) dX8_goesOn_63 ?_
        refine pIX8_84 rfl rfl rfl kd_81 dX8_goesOn_64 ?_
        refine T_lt (fun m10 => ?_)
        refine T_goto 269 dX8_goesOn_67 (by decide) ?_
        exact T_vret rfl dX8_goesOn_269
      · refine T_iload_n 0 rfl rfl dX8_goesOn_70 ?_
        refine T_i2l dX8_goesOn_71 ?_
        refine T_ldc2 lcX8_97 dX8_goesOn_72 ?_
        refine T_ldc2 lcX8_99 dX8_goesOn_75 ?_
        refine T_cSI [.long (z7).toInt64, .long (97 : Int64), .long (122 : Int64)] [] mkX8_in lmX8_67 rfl (by decide) (Nat.le_of_ble_eq_true rfl) dX8_goesOn_78 (bsX8_in _ (z7).toInt64 (97 : Int64) (122 : Int64) m9) (fun z12 m11 => ?_)
        refine T_if_eq 126 dX8_goesOn_81 (by decide) (fun _ => ?_) (fun _ => ?_)
        · refine T_iload_n 0 rfl rfl dX8_goesOn_126 ?_
          refine T_i2l dX8_goesOn_127 ?_
          refine T_ldc2 lcX8_101 dX8_goesOn_128 ?_
          refine T_ldc2 lcX8_103 dX8_goesOn_131 ?_
          refine T_cSI [.long (z7).toInt64, .long (48 : Int64), .long (57 : Int64)] [] mkX8_in lmX8_67 rfl (by decide) (Nat.le_of_ble_eq_true rfl) dX8_goesOn_134 (bsX8_in _ (z7).toInt64 (48 : Int64) (57 : Int64) m11) (fun z15 m14 => ?_)
          refine T_if_eq 243 dX8_goesOn_137 (by decide) (fun _ => ?_) (fun _ => ?_)
          · refine T_aload_n 1 rfl rfl dX8_goesOn_243 ?_
            refine T_iconst (3 : Int32) (by decide) dX8_goesOn_244 ?_
            refine pIX8_84 rfl rfl rfl kd_81 dX8_goesOn_245 ?_
            refine T_lt (fun m17 => ?_)
            refine T_aload_n 1 rfl rfl dX8_goesOn_248 ?_
            refine T_dup rfl dX8_goesOn_249 ?_
            refine gIX8_87 rfl kd_81 dX8_goesOn_250 ?_
            refine T_iconst (1 : Int32) (by decide) dX8_goesOn_253 ?_
            refine T_iadd dX8_goesOn_254 ?_
            refine pIX8_87 rfl rfl rfl kd_81 dX8_goesOn_255 ?_
            refine T_lt (fun m18 => ?_)
            refine T_iload_n 0 rfl rfl dX8_goesOn_258 ?_
            refine T_bipush (59 : Int32) (by decide) dX8_goesOn_259 ?_
            refine T_icmp_eq 269 dX8_goesOn_261 (by decide) (fun _ => ?_) (fun _ => ?_)
            · exact T_vret rfl dX8_goesOn_269
            · refine T_aload_n 1 rfl rfl dX8_goesOn_264 ?_
              refine T_iconst (1 : Int32) (by decide) dX8_goesOn_265 ?_
              refine T_cVV (c := 8) [.int (1 : Int32)] [] mkX8_fails lmX8_105 rfl rfl (by decide) (Nat.le_of_ble_eq_true rfl) kd_81 dX8_goesOn_266 (bsX8_fails _ (1 : Int32) m18) (fun m19 => ?_)
              exact T_vret rfl dX8_goesOn_269
          · exact T_sub [1] rfl (tX8_goesOn_140 X   FU m14)
        · exact T_sub [1] rfl (tX8_goesOn_84 X   FU m11))
def fX8_goesOn  (m : mMem) : mR := if (m.1 81 16) ≤ (0 : Int32) then lp (bX8_goesOn_8 ) FU m else some (none, m)
set_option maxRecDepth 100000 in
theorem bsX8_goesOn (l : Launch)  (m : mMem)  : BS l qX8_goesOn [.ref 81] m (fX8_goesOn  m) := BS_of (by decide) (Nat.le_of_ble_eq_true rfl) (fun X _ => by
    show T qX8_goesOn X (fX8_goesOn  m) 0 [(0, .ref 81)] [] m
    unfold fX8_goesOn
    refine T_aload_n 0 rfl rfl dX8_goesOn_0 ?_
    refine gIX8_75 rfl kd_81 dX8_goesOn_1 ?_
    refine T_if_le 8 dX8_goesOn_4 (by decide) (fun _ => ?_) (fun _ => ?_)
    · exact T_sub [0] rfl (tX8_goesOn_8 X   FU m)
    · exact T_vret rfl dX8_goesOn_7)
def fX8_isStep (x1 : Int32) (m : mMem) : mR := bI (fX8_in (x1).toInt64 (0 : Int64) (((m.1 81 2) - (1 : Int32))).toInt64 m) (fun z2 m1 => gb z2 (some (some (.int z2), m1)))
set_option maxRecDepth 100000 in
theorem bsX8_isStep (l : Launch) (x1 : Int32) (m : mMem)  : BS l qX8_isStep [.ref 81, .int x1] m (fX8_isStep x1 m) := BS_of (by decide) (Nat.le_of_ble_eq_true rfl) (fun X _ => by
    show T qX8_isStep X (fX8_isStep x1 m) 0 [(0, .ref 81), (1, .int x1)] [] m
    unfold fX8_isStep
    refine T_iload_n 1 rfl rfl dX8_isStep_0 ?_
    refine T_i2l dX8_isStep_1 ?_
    refine T_lconst (0 : Int64) (by decide) dX8_isStep_2 ?_
    refine T_aload_n 0 rfl rfl dX8_isStep_3 ?_
    refine gIX8_143 rfl kd_81 dX8_isStep_4 ?_
    refine T_iconst (1 : Int32) (by decide) dX8_isStep_7 ?_
    refine T_isub dX8_isStep_8 ?_
    refine T_i2l dX8_isStep_9 ?_
    refine T_cSI [.long (x1).toInt64, .long (0 : Int64), .long (((m.1 81 2) - (1 : Int32))).toInt64] [] mkX8_in lmX8_67 rfl (by decide) (Nat.le_of_ble_eq_true rfl) dX8_isStep_10 (bsX8_in _ (x1).toInt64 (0 : Int64) (((m.1 81 2) - (1 : Int32))).toInt64 m) (fun z2 m1 => ?_)
    exact T_zret rfl dX8_isStep_13)
def fX8_isLodger (x1 : Int32) (m : mMem) : mR := bI (fX8_in (x1).toInt64 (0 : Int64) (((m.1 81 4) - (1 : Int32))).toInt64 m) (fun z2 m1 => gb z2 (some (some (.int z2), m1)))
set_option maxRecDepth 100000 in
theorem bsX8_isLodger (l : Launch) (x1 : Int32) (m : mMem)  : BS l qX8_isLodger [.ref 81, .int x1] m (fX8_isLodger x1 m) := BS_of (by decide) (Nat.le_of_ble_eq_true rfl) (fun X _ => by
    show T qX8_isLodger X (fX8_isLodger x1 m) 0 [(0, .ref 81), (1, .int x1)] [] m
    unfold fX8_isLodger
    refine T_iload_n 1 rfl rfl dX8_isLodger_0 ?_
    refine T_i2l dX8_isLodger_1 ?_
    refine T_lconst (0 : Int64) (by decide) dX8_isLodger_2 ?_
    refine T_aload_n 0 rfl rfl dX8_isLodger_3 ?_
    refine gIX8_146 rfl kd_81 dX8_isLodger_4 ?_
    refine T_iconst (1 : Int32) (by decide) dX8_isLodger_7 ?_
    refine T_isub dX8_isLodger_8 ?_
    refine T_i2l dX8_isLodger_9 ?_
    refine T_cSI [.long (x1).toInt64, .long (0 : Int64), .long (((m.1 81 4) - (1 : Int32))).toInt64] [] mkX8_in lmX8_67 rfl (by decide) (Nat.le_of_ble_eq_true rfl) dX8_isLodger_10 (bsX8_in _ (x1).toInt64 (0 : Int64) (((m.1 81 4) - (1 : Int32))).toInt64 m) (fun z2 m1 => ?_)
    exact T_zret rfl dX8_isLodger_13)
theorem lmX8_152 : Cond.methodLink RX8 152 yX8_holdOn ∈ gdL := gd_mem 1047 (by decide +kernel) (by decide +kernel)
def fX8_rule (x1 : Int32) (m : mMem) : mR := if x1 = (0 : Int32) then some (some (.int (m.1 81 2)), m) else if x1 = (1 : Int32) then some (some (.int (m.1 81 4)), m) else if x1 = (2 : Int32) then ga (32 : Int32) 210 (some (some (.int ((m.1 82 ((32 : Int32)).toNatClampNeg) + (1 : Int32))), m)) else if x1 = (3 : Int32) then bI (fX8_holdOn (0 : Int32) m) (fun z2 m1 => some (some (.int z2), m1)) else if x1 = (4 : Int32) then ga (34 : Int32) 210 (some (some (.int (m.1 82 ((34 : Int32)).toNatClampNeg)), m)) else some (some (.int (-1 : Int32)), m)
set_option maxRecDepth 100000 in
theorem bsX8_rule (l : Launch) (x1 : Int32) (m : mMem)  : BS l qX8_rule [.ref 81, .int x1] m (fX8_rule x1 m) := BS_of (by decide) (Nat.le_of_ble_eq_true rfl) (fun X _ => by
    show T qX8_rule X (fX8_rule x1 m) 0 [(0, .ref 81), (1, .int x1)] [] m
    unfold fX8_rule
    refine T_iload_n 1 rfl rfl dX8_rule_0 ?_
    refine T_ite (fun hc => ?_) (fun hn0 => ?_)
    · refine T_tsIn (0 : Int32) 36 hc dX8_rule_1 (by decide) (by decide) rfl (by decide) ?_
      refine T_aload_n 0 rfl rfl dX8_rule_36 ?_
      refine gIX8_143 rfl kd_81 dX8_rule_37 ?_
      exact T_iret rfl dX8_rule_40
    · refine T_ite (fun hc => ?_) (fun hn1 => ?_)
      · refine T_tsIn (1 : Int32) 41 hc dX8_rule_1 (by decide) (by decide) rfl (by decide) ?_
        refine T_aload_n 0 rfl rfl dX8_rule_41 ?_
        refine gIX8_146 rfl kd_81 dX8_rule_42 ?_
        exact T_iret rfl dX8_rule_45
      · refine T_ite (fun hc => ?_) (fun hn2 => ?_)
        · refine T_tsIn (2 : Int32) 46 hc dX8_rule_1 (by decide) (by decide) rfl (by decide) ?_
          refine T_aload_n 0 rfl rfl dX8_rule_46 ?_
          refine gRX8_7 rfl kd_81 82 rfl dX8_rule_47 ?_
          refine T_bipush (32 : Int32) (by decide) dX8_rule_50 ?_
          refine T_iald kd_82 dX8_rule_52 ?_
          refine T_iconst (1 : Int32) (by decide) dX8_rule_53 ?_
          refine T_iadd dX8_rule_54 ?_
          exact T_iret rfl dX8_rule_55
        · refine T_ite (fun hc => ?_) (fun hn3 => ?_)
          · refine T_tsIn (3 : Int32) 56 hc dX8_rule_1 (by decide) (by decide) rfl (by decide) ?_
            refine T_aload_n 0 rfl rfl dX8_rule_56 ?_
            refine T_iconst (0 : Int32) (by decide) dX8_rule_57 ?_
            refine T_cVI (c := 8) [.int (0 : Int32)] [] mkX8_holdOn lmX8_152 rfl rfl (by decide) (Nat.le_of_ble_eq_true rfl) kd_81 dX8_rule_58 (bsX8_holdOn _ (0 : Int32) m) (fun z2 m1 => ?_)
            exact T_iret rfl dX8_rule_61
          · refine T_ite (fun hc => ?_) (fun hn4 => ?_)
            · refine T_tsIn (4 : Int32) 62 hc dX8_rule_1 (by decide) (by decide) rfl (by decide) ?_
              refine T_aload_n 0 rfl rfl dX8_rule_62 ?_
              refine gRX8_7 rfl kd_81 82 rfl dX8_rule_63 ?_
              refine T_bipush (34 : Int32) (by decide) dX8_rule_66 ?_
              refine T_iald kd_82 dX8_rule_68 ?_
              exact T_iret rfl dX8_rule_69
            · refine T_tsOut 70 (by have e0 := neT (k := 0) hn0 (by decide); have e1 := neT (k := 1) hn1 (by decide); have e2 := neT (k := 2) hn2 (by decide); have e3 := neT (k := 3) hn3 (by decide); have e4 := neT (k := 4) hn4 (by decide); omega) dX8_rule_1 (by decide) ?_
              refine T_iconst (-1 : Int32) (by decide) dX8_rule_70 ?_
              exact T_iret rfl dX8_rule_71)
theorem lfX8_155 : Cond.fieldLink RX8 155 "RankStairsModel" "out" "I" ∈ gdL := gd_mem 889 (by decide +kernel) (by decide +kernel)
theorem gIX8_155 {q : mMI} {X : mCx} {tgt : mR} {pc : Nat} {lv : List (Nat × Value)} {st : List Value} {μ : mMem} {b : Nat} (hq : q.1.cls = RX8) (hb : kd b = (8, 0)) (hd : decode q.2.1 pc = .ok (.getfield 155, 3)) (h : T q X tgt (pc + 3) lv (.int (μ.1 b 5) :: st) μ) : T q X tgt pc lv (.ref b :: st) μ := T_getI (c := 8) rfl (by decide) rfl (by decide) (by rw [hq]; exact lfX8_155) hb hd h
theorem pIX8_155 {q : mMI} {X : mCx} {tgt : mR} {pc : Nat} {lv : List (Nat × Value)} {st : List Value} {μ : mMem} {b : Nat} {x : Int32} (hq : q.1.cls = RX8) (hn : narrow .int (.int x) = .int x) (hfit : fits .int (.int x) = true) (hb : kd b = (8, 0)) (hd : decode q.2.1 pc = .ok (.putfield 155, 3)) (h : T q X tgt (pc + 3) lv st (si μ b 5 x)) : T q X tgt pc lv (.int x :: .ref b :: st) μ := T_put (c := 8) rfl (by decide) rfl (by decide) (by rw [hq]; exact lfX8_155) (by decide) hn hfit hb hd h
def fX8_isBroken (x1 : Int32) (x2 : Int32) (m : mMem) : mR := if (((m.1 81 5) >>> (x2 &&& 31)) &&& (1 : Int32)) = (1 : Int32) then some (some (.int (1 : Int32)), m) else ga ((x1 + ((2 : Int32) * x2)) + (1 : Int32)) 210 (bI (fX8_holdOn x1 m) (fun z2 m1 => if (m.1 82 (((x1 + ((2 : Int32) * x2)) + (1 : Int32))).toNatClampNeg) < z2 then some (some (.int (0 : Int32)), m1) else some (some (.int (1 : Int32)), m1)))
set_option maxRecDepth 100000 in
theorem bsX8_isBroken (l : Launch) (x1 : Int32) (x2 : Int32) (m : mMem)  : BS l qX8_isBroken [.ref 81, .int x1, .int x2] m (fX8_isBroken x1 x2 m) := BS_of (by decide) (Nat.le_of_ble_eq_true rfl) (fun X _ => by
    show T qX8_isBroken X (fX8_isBroken x1 x2 m) 0 [(0, .ref 81), (1, .int x1), (2, .int x2)] [] m
    unfold fX8_isBroken
    refine T_aload_n 0 rfl rfl dX8_isBroken_0 ?_
    refine gIX8_155 rfl kd_81 dX8_isBroken_1 ?_
    refine T_iload_n 2 rfl rfl dX8_isBroken_4 ?_
    refine T_ishr dX8_isBroken_5 ?_
    refine T_iconst (1 : Int32) (by decide) dX8_isBroken_6 ?_
    refine T_iand dX8_isBroken_7 ?_
    refine T_iconst (1 : Int32) (by decide) dX8_isBroken_8 ?_
    refine T_icmp_eq 32 dX8_isBroken_9 (by decide) (fun _ => ?_) (fun _ => ?_)
    · refine T_iconst (1 : Int32) (by decide) dX8_isBroken_32 ?_
      refine T_goto 37 dX8_isBroken_33 (by decide) ?_
      exact T_zretc (by decide) rfl dX8_isBroken_37
    · refine T_aload_n 0 rfl rfl dX8_isBroken_12 ?_
      refine gRX8_7 rfl kd_81 82 rfl dX8_isBroken_13 ?_
      refine T_iload_n 1 rfl rfl dX8_isBroken_16 ?_
      refine T_iconst (2 : Int32) (by decide) dX8_isBroken_17 ?_
      refine T_iload_n 2 rfl rfl dX8_isBroken_18 ?_
      refine T_imul dX8_isBroken_19 ?_
      refine T_iadd dX8_isBroken_20 ?_
      refine T_iconst (1 : Int32) (by decide) dX8_isBroken_21 ?_
      refine T_iadd dX8_isBroken_22 ?_
      refine T_iald kd_82 dX8_isBroken_23 ?_
      refine T_aload_n 0 rfl rfl dX8_isBroken_24 ?_
      refine T_iload_n 1 rfl rfl dX8_isBroken_25 ?_
      refine T_cVI (c := 8) [.int x1] [.int (m.1 82 (((x1 + ((2 : Int32) * x2)) + (1 : Int32))).toNatClampNeg)] mkX8_holdOn lmX8_152 rfl rfl (by decide) (Nat.le_of_ble_eq_true rfl) kd_81 dX8_isBroken_26 (bsX8_holdOn _ x1 m) (fun z2 m1 => ?_)
      refine T_icmp_lt 36 dX8_isBroken_29 (by decide) (fun _ => ?_) (fun _ => ?_)
      · refine T_iconst (0 : Int32) (by decide) dX8_isBroken_36 ?_
        exact T_zretc (by decide) rfl dX8_isBroken_37
      · refine T_iconst (1 : Int32) (by decide) dX8_isBroken_32 ?_
        refine T_goto 37 dX8_isBroken_33 (by decide) ?_
        exact T_zretc (by decide) rfl dX8_isBroken_37)
theorem lmX8_165 : Cond.methodLink RX8 165 yX8_isLoaded ∈ gdL := gd_mem 1079 (by decide +kernel) (by decide +kernel)
theorem lfX8_16 : Cond.fieldLink RX8 16 "RankStairsModel" "legs" "[I" ∈ gdL := gd_mem 887 (by decide +kernel) (by decide +kernel)
theorem gRX8_16 {q : mMI} {X : mCx} {tgt : mR} {pc : Nat} {lv : List (Nat × Value)} {st : List Value} {μ : mMem} {b : Nat} (hq : q.1.cls = RX8) (hb : kd b = (8, 0)) (z : Nat) (hz : rf b 3 = z) (hd : decode q.2.1 pc = .ok (.getfield 16, 3)) (h : T q X tgt (pc + 3) lv (.ref z :: st) μ) : T q X tgt pc lv (.ref b :: st) μ := T_getR (c := 8) rfl (by decide) rfl (by decide) (by rw [hq]; exact lfX8_16) hb z hz hd h
def jX8_reachOn_20 (xs0 : Int32) (xs1 : Int32) (m : mMem) : mR := li (xs1 - xs0) (fun y4 => if (1 : Int32) ≤ y4 then some (some (.int y4), m) else some (some (.int (1 : Int32)), m))
set_option maxRecDepth 100000 in
theorem uX8_reachOn_20 (X : mCx) (xs0 : Int32) (xs1 : Int32) (m : mMem)  : T qX8_reachOn X (jX8_reachOn_20 xs0 xs1 m) 20 [] [.int xs0, .int xs1] m := by
  unfold jX8_reachOn_20
  refine T_isub dX8_reachOn_20 ?_
  refine T_istore_n (lv' := [(3, .int (xs1 - xs0))]) rfl (Nat.le_of_ble_eq_true rfl) rfl dX8_reachOn_21 ?_
  refine T_li (fun y4 => ?_)
  refine T_iload_n 0 rfl rfl dX8_reachOn_22 ?_
  refine T_iconst (1 : Int32) (by decide) dX8_reachOn_23 ?_
  refine T_icmp_ge 31 dX8_reachOn_24 (by decide) (fun _ => ?_) (fun _ => ?_)
  · refine T_iload_n 0 rfl rfl dX8_reachOn_31 ?_
    exact T_iret rfl dX8_reachOn_32
  · refine T_iconst (1 : Int32) (by decide) dX8_reachOn_27 ?_
    refine T_goto 32 dX8_reachOn_28 (by decide) ?_
    exact T_iret rfl dX8_reachOn_32
def fX8_reachOn (x1 : Int32) (x2 : Int32) (m : mMem) : mR := ga x2 4 (bI (fX8_isLoaded x1 x2 m) (fun z2 m1 => if z2 = (0 : Int32) then jX8_reachOn_20 (0 : Int32) (m.1 84 (x2).toNatClampNeg) m1 else jX8_reachOn_20 (1 : Int32) (m.1 84 (x2).toNatClampNeg) m1))
set_option maxRecDepth 100000 in
theorem bsX8_reachOn (l : Launch) (x1 : Int32) (x2 : Int32) (m : mMem)  : BS l qX8_reachOn [.ref 81, .int x1, .int x2] m (fX8_reachOn x1 x2 m) := BS_of (by decide) (Nat.le_of_ble_eq_true rfl) (fun X _ => by
    show T qX8_reachOn X (fX8_reachOn x1 x2 m) 0 [(0, .ref 81), (1, .int x1), (2, .int x2)] [] m
    unfold fX8_reachOn
    refine T_aload_n 0 rfl rfl dX8_reachOn_0 ?_
    refine gRX8_16 rfl kd_81 84 rfl dX8_reachOn_1 ?_
    refine T_iload_n 2 rfl rfl dX8_reachOn_4 ?_
    refine T_iald kd_84 dX8_reachOn_5 ?_
    refine T_aload_n 0 rfl rfl dX8_reachOn_6 ?_
    refine T_iload_n 1 rfl rfl dX8_reachOn_7 ?_
    refine T_iload_n 2 rfl rfl dX8_reachOn_8 ?_
    refine T_cVI (c := 8) [.int x1, .int x2] [.int (m.1 84 (x2).toNatClampNeg)] mkX8_isLoaded lmX8_165 rfl rfl (by decide) (Nat.le_of_ble_eq_true rfl) kd_81 dX8_reachOn_9 (bsX8_isLoaded _ x1 x2 m) (fun z2 m1 => ?_)
    refine T_if_eq 19 dX8_reachOn_12 (by decide) (fun _ => ?_) (fun _ => ?_)
    · refine T_iconst (0 : Int32) (by decide) dX8_reachOn_19 ?_
      exact T_sub [] rfl (uX8_reachOn_20 X (0 : Int32) (m.1 84 (x2).toNatClampNeg) m1 )
    · refine T_iconst (1 : Int32) (by decide) dX8_reachOn_15 ?_
      refine T_goto 20 dX8_reachOn_16 (by decide) ?_
      exact T_sub [] rfl (uX8_reachOn_20 X (1 : Int32) (m.1 84 (x2).toNatClampNeg) m1 ))
theorem lmX8_187 : Cond.methodLink RX8 187 yX8_sets ∈ gdL := gd_mem 1096 (by decide +kernel) (by decide +kernel)
theorem lcX8_191 : Cond.constantLong RX8 191 (99) ∈ gdL := gd_mem 1104 (by decide +kernel) (by decide +kernel)
theorem lcX8_193 : Cond.constantLong RX8 193 (3) ∈ gdL := gd_mem 1113 (by decide +kernel) (by decide +kernel)
def fX8_law (x1 : Int32) (x2 : Int32) (m : mMem) : mR := if x1 = (0 : Int32) then bI (fX8_in (x2).toInt64 (0 : Int64) (3 : Int64) m) (fun z2 m1 => if z2 = (0 : Int32) then some (some (.int (-1 : Int32)), m1) else bI (fX8_sets (1 : Int32) (32 : Int32) (x2 - (1 : Int32)) m1) (fun z5 m4 => some (some (.int ((1 : Int32) + z5)), m4))) else if x1 = (1 : Int32) then bI (fX8_in (x2).toInt64 (1 : Int64) (99 : Int64) m) (fun z8 m7 => if z8 = (0 : Int32) then some (some (.int (-1 : Int32)), m7) else bI (fX8_sets (1 : Int32) (33 : Int32) (x2 - (30 : Int32)) m7) (fun z11 m10 => some (some (.int ((30 : Int32) + z11)), m10))) else some (some (.int (-1 : Int32)), m)
set_option maxRecDepth 100000 in
theorem bsX8_law (l : Launch) (x1 : Int32) (x2 : Int32) (m : mMem)  : BS l qX8_law [.ref 81, .int x1, .int x2] m (fX8_law x1 x2 m) := BS_of (by decide) (Nat.le_of_ble_eq_true rfl) (fun X _ => by
    show T qX8_law X (fX8_law x1 x2 m) 0 [(0, .ref 81), (1, .int x1), (2, .int x2)] [] m
    unfold fX8_law
    refine T_iload_n 1 rfl rfl dX8_law_0 ?_
    refine T_if_ne 33 dX8_law_1 (by decide) (fun _ => ?_) (fun _ => ?_)
    · refine T_iload_n 2 rfl rfl dX8_law_4 ?_
      refine T_i2l dX8_law_5 ?_
      refine T_lconst (0 : Int64) (by decide) dX8_law_6 ?_
      refine T_ldc2 lcX8_193 dX8_law_7 ?_
      refine T_cSI [.long (x2).toInt64, .long (0 : Int64), .long (3 : Int64)] [] mkX8_in lmX8_67 rfl (by decide) (Nat.le_of_ble_eq_true rfl) dX8_law_10 (bsX8_in _ (x2).toInt64 (0 : Int64) (3 : Int64) m) (fun z2 m1 => ?_)
      refine T_if_eq 31 dX8_law_13 (by decide) (fun _ => ?_) (fun _ => ?_)
      · refine T_iconst (-1 : Int32) (by decide) dX8_law_31 ?_
        exact T_iret rfl dX8_law_32
      · refine T_iconst (1 : Int32) (by decide) dX8_law_16 ?_
        refine T_aload_n 0 rfl rfl dX8_law_17 ?_
        refine T_iconst (1 : Int32) (by decide) dX8_law_18 ?_
        refine T_bipush (32 : Int32) (by decide) dX8_law_19 ?_
        refine T_iload_n 2 rfl rfl dX8_law_21 ?_
        refine T_iconst (1 : Int32) (by decide) dX8_law_22 ?_
        refine T_isub dX8_law_23 ?_
        refine T_cVI (c := 8) [.int (1 : Int32), .int (32 : Int32), .int (x2 - (1 : Int32))] [.int (1 : Int32)] mkX8_sets lmX8_187 rfl rfl (by decide) (Nat.le_of_ble_eq_true rfl) kd_81 dX8_law_24 (bsX8_sets _ (1 : Int32) (32 : Int32) (x2 - (1 : Int32)) m1) (fun z5 m4 => ?_)
        refine T_iadd dX8_law_27 ?_
        refine T_goto 32 dX8_law_28 (by decide) ?_
        exact T_iret rfl dX8_law_32
    · refine T_iload_n 1 rfl rfl dX8_law_33 ?_
      refine T_iconst (1 : Int32) (by decide) dX8_law_34 ?_
      refine T_icmp_ne 67 dX8_law_35 (by decide) (fun _ => ?_) (fun _ => ?_)
      · refine T_iload_n 2 rfl rfl dX8_law_38 ?_
        refine T_i2l dX8_law_39 ?_
        refine T_lconst (1 : Int64) (by decide) dX8_law_40 ?_
        refine T_ldc2 lcX8_191 dX8_law_41 ?_
        refine T_cSI [.long (x2).toInt64, .long (1 : Int64), .long (99 : Int64)] [] mkX8_in lmX8_67 rfl (by decide) (Nat.le_of_ble_eq_true rfl) dX8_law_44 (bsX8_in _ (x2).toInt64 (1 : Int64) (99 : Int64) m) (fun z8 m7 => ?_)
        refine T_if_eq 67 dX8_law_47 (by decide) (fun _ => ?_) (fun _ => ?_)
        · refine T_iconst (-1 : Int32) (by decide) dX8_law_67 ?_
          exact T_iret rfl dX8_law_68
        · refine T_bipush (30 : Int32) (by decide) dX8_law_50 ?_
          refine T_aload_n 0 rfl rfl dX8_law_52 ?_
          refine T_iconst (1 : Int32) (by decide) dX8_law_53 ?_
          refine T_bipush (33 : Int32) (by decide) dX8_law_54 ?_
          refine T_iload_n 2 rfl rfl dX8_law_56 ?_
          refine T_bipush (30 : Int32) (by decide) dX8_law_57 ?_
          refine T_isub dX8_law_59 ?_
          refine T_cVI (c := 8) [.int (1 : Int32), .int (33 : Int32), .int (x2 - (30 : Int32))] [.int (30 : Int32)] mkX8_sets lmX8_187 rfl rfl (by decide) (Nat.le_of_ble_eq_true rfl) kd_81 dX8_law_60 (bsX8_sets _ (1 : Int32) (33 : Int32) (x2 - (30 : Int32)) m7) (fun z11 m10 => ?_)
          refine T_iadd dX8_law_63 ?_
          refine T_goto 68 dX8_law_64 (by decide) ?_
          exact T_iret rfl dX8_law_68
      · refine T_iconst (-1 : Int32) (by decide) dX8_law_67 ?_
        exact T_iret rfl dX8_law_68)
theorem lmX8_162 : Cond.methodLink RX8 162 yX8_rankOn ∈ gdL := gd_mem 1059 (by decide +kernel) (by decide +kernel)
def jX8_year_46 (k4 : Int32 × Int32 × mMem → mR) (x1 : Int32) (x2 : Int32) (x3 : Int32) (xs0 : Int32) (xs1 : Int32) (xs2 : Int32) (m : mMem) : mR := ga xs2 210 (lt (si m 82 (xs2).toNatClampNeg (xs1 + xs0)) (fun m4 => bI (fX8_rankOn (0 : Int32) x2 m4) (fun z6 m5 => if z6 = x3 then li (x1 + (0 : Int32)) (fun y8 => li (x2 + (1 : Int32)) (fun y9 => k4 (y8, y9, m5))) else li (x1 + (1 : Int32)) (fun y10 => li (x2 + (1 : Int32)) (fun y11 => k4 (y10, y11, m5))))))
set_option maxRecDepth 100000 in
theorem uX8_year_46 (X : mCx) (k4 : Int32 × Int32 × mMem → mR) (x1 : Int32) (x2 : Int32) (x3 : Int32) (xs0 : Int32) (xs1 : Int32) (xs2 : Int32) (m : mMem) (hk4 : ∀ s : Int32 × Int32 × mMem, T qX8_year X (k4 s) 4 [(0, .ref 81), (1, .int s.1), (2, .int s.2.1)] [] s.2.2) : T qX8_year X (jX8_year_46 k4 x1 x2 x3 xs0 xs1 xs2 m) 46 [(0, .ref 81), (1, .int x1), (2, .int x2), (3, .int x3)] [.int xs0, .int xs1, .int xs2, .ref 82] m := by
  unfold jX8_year_46
  refine T_iadd dX8_year_46 ?_
  refine T_iast _ rfl kd_82 dX8_year_47 ?_
  refine T_lt (fun m4 => ?_)
  refine T_iload_n 1 rfl rfl dX8_year_48 ?_
  refine T_aload_n 0 rfl rfl dX8_year_49 ?_
  refine T_iconst (0 : Int32) (by decide) dX8_year_50 ?_
  refine T_iload_n 2 rfl rfl dX8_year_51 ?_
  refine T_cVI (c := 8) [.int (0 : Int32), .int x2] [.int x1] mkX8_rankOn lmX8_162 rfl rfl (by decide) (Nat.le_of_ble_eq_true rfl) kd_81 dX8_year_52 (bsX8_rankOn _ (0 : Int32) x2 m4) (fun z6 m5 => ?_)
  refine T_iload_n 3 rfl rfl dX8_year_55 ?_
  refine T_icmp_eq 63 dX8_year_56 (by decide) (fun _ => ?_) (fun _ => ?_)
  · refine T_iconst (0 : Int32) (by decide) dX8_year_63 ?_
    refine T_iadd dX8_year_64 ?_
    refine T_istore_n (lv' := [(1, .int (x1 + (0 : Int32))), (0, .ref 81), (2, .int x2), (3, .int x3)]) rfl (Nat.le_of_ble_eq_true rfl) rfl dX8_year_65 ?_
    refine T_li (fun y8 => ?_)
    refine T_iinc (lv' := [(2, .int (x2 + (1 : Int32))), (1, .int y8), (0, .ref 81), (3, .int x3)]) 2 (1 : Int32) rfl (by decide) (Nat.le_of_ble_eq_true rfl) rfl dX8_year_66 ?_
    refine T_li (fun y9 => ?_)
    refine T_goto 4 dX8_year_69 (by decide) ?_
    exact T_sub [2, 1, 0] rfl (hk4 (y8, y9, m5))
  · refine T_iconst (1 : Int32) (by decide) dX8_year_59 ?_
    refine T_goto 64 dX8_year_60 (by decide) ?_
    refine T_iadd dX8_year_64 ?_
    refine T_istore_n (lv' := [(1, .int (x1 + (1 : Int32))), (0, .ref 81), (2, .int x2), (3, .int x3)]) rfl (Nat.le_of_ble_eq_true rfl) rfl dX8_year_65 ?_
    refine T_li (fun y10 => ?_)
    refine T_iinc (lv' := [(2, .int (x2 + (1 : Int32))), (1, .int y10), (0, .ref 81), (3, .int x3)]) 2 (1 : Int32) rfl (by decide) (Nat.le_of_ble_eq_true rfl) rfl dX8_year_66 ?_
    refine T_li (fun y11 => ?_)
    refine T_goto 4 dX8_year_69 (by decide) ?_
    exact T_sub [2, 1, 0] rfl (hk4 (y10, y11, m5))
def bX8_year_4  (k4 : Int32 × Int32 × mMem → mR) (s : Int32 × Int32 × mMem) : mR := match s with
  | (x1, x2, m) => if (m.1 81 2) ≤ x2 then some (some (.int x1), m) else bI (fX8_rankOn (0 : Int32) x2 m) (fun z2 m1 => ga ((2 : Int32) * x2) 210 (ga ((2 : Int32) * x2) 210 (if (60 : Int32) ≤ (m1.1 82 (((2 : Int32) * x2)).toNatClampNeg) then jX8_year_46 k4 x1 x2 z2 (0 : Int32) (m1.1 82 (((2 : Int32) * x2)).toNatClampNeg) ((2 : Int32) * x2) m1 else jX8_year_46 k4 x1 x2 z2 (1 : Int32) (m1.1 82 (((2 : Int32) * x2)).toNatClampNeg) ((2 : Int32) * x2) m1)))
set_option maxRecDepth 100000 in
theorem tX8_year_4 (X : mCx)   : ∀ (n : Nat) (s : Int32 × Int32 × mMem), T qX8_year X (lp (bX8_year_4 ) n s) 4 [(0, .ref 81), (1, .int s.1), (2, .int s.2.1)] [] s.2.2 :=
  T_lp (body := bX8_year_4 ) (lv := fun s => [(0, .ref 81), (1, .int s.1), (2, .int s.2.1)]) (st := fun _ => []) (μ := fun s : Int32 × Int32 × mMem => s.2.2) (fun k4 hk4 s => by
    obtain ⟨x1, x2, m⟩ := s
    show T qX8_year X (bX8_year_4  k4 (x1, x2, m)) 4 [(0, .ref 81), (1, .int x1), (2, .int x2)] [] m
    unfold bX8_year_4
    dsimp only
    refine T_iload_n 2 rfl rfl dX8_year_4 ?_
    refine T_aload_n 0 rfl rfl dX8_year_5 ?_
    refine gIX8_143 rfl kd_81 dX8_year_6 ?_
    refine T_icmp_ge 72 dX8_year_9 (by decide) (fun _ => ?_) (fun _ => ?_)
    · refine T_iload_n 1 rfl rfl dX8_year_72 ?_
      exact T_iret rfl dX8_year_73
    · refine T_aload_n 0 rfl rfl dX8_year_12 ?_
      refine T_iconst (0 : Int32) (by decide) dX8_year_13 ?_
      refine T_iload_n 2 rfl rfl dX8_year_14 ?_
      refine T_cVI (c := 8) [.int (0 : Int32), .int x2] [] mkX8_rankOn lmX8_162 rfl rfl (by decide) (Nat.le_of_ble_eq_true rfl) kd_81 dX8_year_15 (bsX8_rankOn _ (0 : Int32) x2 m) (fun z2 m1 => ?_)
      refine T_istore_n (lv' := [(3, .int z2), (0, .ref 81), (1, .int x1), (2, .int x2)]) rfl (Nat.le_of_ble_eq_true rfl) rfl dX8_year_18 ?_
      refine T_aload_n 1 rfl rfl dX8_year_19 ?_
      refine gRX8_7 rfl kd_81 82 rfl dX8_year_20 ?_
      refine T_iconst (2 : Int32) (by decide) dX8_year_23 ?_
      refine T_iload_n 3 rfl rfl dX8_year_24 ?_
      refine T_imul dX8_year_25 ?_
      refine T_dup2 rfl rfl dX8_year_26 ?_
      refine T_iald kd_82 dX8_year_27 ?_
      refine T_aload_n 1 rfl rfl dX8_year_28 ?_
      refine gRX8_7 rfl kd_81 82 rfl dX8_year_29 ?_
      refine T_iconst (2 : Int32) (by decide) dX8_year_32 ?_
      refine T_iload_n 3 rfl rfl dX8_year_33 ?_
      refine T_imul dX8_year_34 ?_
      refine T_iald kd_82 dX8_year_35 ?_
      refine T_bipush (60 : Int32) (by decide) dX8_year_36 ?_
      refine T_icmp_ge 45 dX8_year_38 (by decide) (fun _ => ?_) (fun _ => ?_)
      · refine T_iconst (0 : Int32) (by decide) dX8_year_45 ?_
        exact T_sub [1, 2, 3, 0] rfl (uX8_year_46 X k4 x1 x2 z2 (0 : Int32) (m1.1 82 (((2 : Int32) * x2)).toNatClampNeg) ((2 : Int32) * x2) m1 hk4)
      · refine T_iconst (1 : Int32) (by decide) dX8_year_41 ?_
        refine T_goto 46 dX8_year_42 (by decide) ?_
        exact T_sub [1, 2, 3, 0] rfl (uX8_year_46 X k4 x1 x2 z2 (1 : Int32) (m1.1 82 (((2 : Int32) * x2)).toNatClampNeg) ((2 : Int32) * x2) m1 hk4))
def fX8_year  (m : mMem) : mR := lp (bX8_year_4 ) FU ((0 : Int32), (0 : Int32), m)
set_option maxRecDepth 100000 in
theorem bsX8_year (l : Launch)  (m : mMem)  : BS l qX8_year [.ref 81] m (fX8_year  m) := BS_of (by decide) (Nat.le_of_ble_eq_true rfl) (fun X _ => by
    show T qX8_year X (fX8_year  m) 0 [(0, .ref 81)] [] m
    unfold fX8_year
    refine T_iconst (0 : Int32) (by decide) dX8_year_0 ?_
    refine T_istore_n (lv' := [(1, .int (0 : Int32)), (0, .ref 81)]) rfl (Nat.le_of_ble_eq_true rfl) rfl dX8_year_1 ?_
    refine T_iconst (0 : Int32) (by decide) dX8_year_2 ?_
    refine T_istore_n (lv' := [(2, .int (0 : Int32)), (1, .int (0 : Int32)), (0, .ref 81)]) rfl (Nat.le_of_ble_eq_true rfl) rfl dX8_year_3 ?_
    exact T_sub [2, 1, 0] rfl (tX8_year_4 X   FU ((0 : Int32), (0 : Int32), m)))
theorem lfX8_149 : Cond.fieldLink RX8 149 "RankStairsModel" "seenMany" "I" ∈ gdL := gd_mem 913 (by decide +kernel) (by decide +kernel)
theorem gIX8_149 {q : mMI} {X : mCx} {tgt : mR} {pc : Nat} {lv : List (Nat × Value)} {st : List Value} {μ : mMem} {b : Nat} (hq : q.1.cls = RX8) (hb : kd b = (8, 0)) (hd : decode q.2.1 pc = .ok (.getfield 149, 3)) (h : T q X tgt (pc + 3) lv (.int (μ.1 b 29) :: st) μ) : T q X tgt pc lv (.ref b :: st) μ := T_getI (c := 8) rfl (by decide) rfl (by decide) (by rw [hq]; exact lfX8_149) hb hd h
theorem pIX8_149 {q : mMI} {X : mCx} {tgt : mR} {pc : Nat} {lv : List (Nat × Value)} {st : List Value} {μ : mMem} {b : Nat} {x : Int32} (hq : q.1.cls = RX8) (hn : narrow .int (.int x) = .int x) (hfit : fits .int (.int x) = true) (hb : kd b = (8, 0)) (hd : decode q.2.1 pc = .ok (.putfield 149, 3)) (h : T q X tgt (pc + 3) lv st (si μ b 29 x)) : T q X tgt pc lv (.int x :: .ref b :: st) μ := T_put (c := 8) rfl (by decide) rfl (by decide) (by rw [hq]; exact lfX8_149) (by decide) hn hfit hb hd h
def fX8_forget (x1 : Int32) (m : mMem) : mR := bI (fX8_in (x1).toInt64 (0 : Int64) ((m.1 81 29)).toInt64 m) (fun z2 m1 => if z2 = (0 : Int32) then some (some (.int (-1 : Int32)), m1) else li (m1.1 81 29) (fun y4 => lt (si m1 81 29 x1) (fun m5 => some (some (.int y4), m5))))
set_option maxRecDepth 100000 in
theorem bsX8_forget (l : Launch) (x1 : Int32) (m : mMem)  : BS l qX8_forget [.ref 81, .int x1] m (fX8_forget x1 m) := BS_of (by decide) (Nat.le_of_ble_eq_true rfl) (fun X _ => by
    show T qX8_forget X (fX8_forget x1 m) 0 [(0, .ref 81), (1, .int x1)] [] m
    unfold fX8_forget
    refine T_iload_n 1 rfl rfl dX8_forget_0 ?_
    refine T_i2l dX8_forget_1 ?_
    refine T_lconst (0 : Int64) (by decide) dX8_forget_2 ?_
    refine T_aload_n 0 rfl rfl dX8_forget_3 ?_
    refine gIX8_149 rfl kd_81 dX8_forget_4 ?_
    refine T_i2l dX8_forget_7 ?_
    refine T_cSI [.long (x1).toInt64, .long (0 : Int64), .long ((m.1 81 29)).toInt64] [] mkX8_in lmX8_67 rfl (by decide) (Nat.le_of_ble_eq_true rfl) dX8_forget_8 (bsX8_in _ (x1).toInt64 (0 : Int64) ((m.1 81 29)).toInt64 m) (fun z2 m1 => ?_)
    refine T_if_ne 16 dX8_forget_11 (by decide) (fun _ => ?_) (fun _ => ?_)
    · refine T_iconst (-1 : Int32) (by decide) dX8_forget_14 ?_
      exact T_iret rfl dX8_forget_15
    · refine T_aload_n 0 rfl rfl dX8_forget_16 ?_
      refine gIX8_149 rfl kd_81 dX8_forget_17 ?_
      refine T_istore_n (lv' := [(2, .int (m1.1 81 29)), (0, .ref 81), (1, .int x1)]) rfl (Nat.le_of_ble_eq_true rfl) rfl dX8_forget_20 ?_
      refine T_li (fun y4 => ?_)
      refine T_aload_n 1 rfl rfl dX8_forget_21 ?_
      refine T_iload_n 2 rfl rfl dX8_forget_22 ?_
      refine pIX8_149 rfl rfl rfl kd_81 dX8_forget_23 ?_
      refine T_lt (fun m5 => ?_)
      refine T_iload_n 0 rfl rfl dX8_forget_26 ?_
      exact T_iret rfl dX8_forget_27)
theorem lmX8_223 : Cond.methodLink RX8 223 yX8_copies ∈ gdL := gd_mem 1189 (by decide +kernel) (by decide +kernel)
theorem lfX8_52 : Cond.fieldLink RX8 52 "RankStairsModel" "isKept" "[Z" ∈ gdL := gd_mem 914 (by decide +kernel) (by decide +kernel)
theorem gRX8_52 {q : mMI} {X : mCx} {tgt : mR} {pc : Nat} {lv : List (Nat × Value)} {st : List Value} {μ : mMem} {b : Nat} (hq : q.1.cls = RX8) (hb : kd b = (8, 0)) (z : Nat) (hz : rf b 30 = z) (hd : decode q.2.1 pc = .ok (.getfield 52, 3)) (h : T q X tgt (pc + 3) lv (.ref z :: st) μ) : T q X tgt pc lv (.ref b :: st) μ := T_getR (c := 8) rfl (by decide) rfl (by decide) (by rw [hq]; exact lfX8_52) hb z hz hd h
def fX8_keep (x1 : Int32) (m : mMem) : mR := bI (fX8_in (x1).toInt64 (0 : Int64) (1 : Int64) m) (fun z2 m1 => if z2 = (0 : Int32) then some (some (.int (-1 : Int32)), m1) else bV (fX8_copies (0 : Int32) ((35 : Int32) * (x1 + (1 : Int32))) m1) (fun m4 => ga x1 2 (if (m4.1 96 (x1).toNatClampNeg) = (0 : Int32) then ga x1 2 (lt (si m4 96 (x1).toNatClampNeg (1 : Int32)) (fun m5 => some (some (.int (0 : Int32)), m5))) else ga x1 2 (lt (si m4 96 (x1).toNatClampNeg (1 : Int32)) (fun m6 => some (some (.int (1 : Int32)), m6))))))
set_option maxRecDepth 100000 in
theorem bsX8_keep (l : Launch) (x1 : Int32) (m : mMem)  : BS l qX8_keep [.ref 81, .int x1] m (fX8_keep x1 m) := BS_of (by decide) (Nat.le_of_ble_eq_true rfl) (fun X _ => by
    show T qX8_keep X (fX8_keep x1 m) 0 [(0, .ref 81), (1, .int x1)] [] m
    unfold fX8_keep
    refine T_iload_n 1 rfl rfl dX8_keep_0 ?_
    refine T_i2l dX8_keep_1 ?_
    refine T_lconst (0 : Int64) (by decide) dX8_keep_2 ?_
    refine T_lconst (1 : Int64) (by decide) dX8_keep_3 ?_
    refine T_cSI [.long (x1).toInt64, .long (0 : Int64), .long (1 : Int64)] [] mkX8_in lmX8_67 rfl (by decide) (Nat.le_of_ble_eq_true rfl) dX8_keep_4 (bsX8_in _ (x1).toInt64 (0 : Int64) (1 : Int64) m) (fun z2 m1 => ?_)
    refine T_if_ne 12 dX8_keep_7 (by decide) (fun _ => ?_) (fun _ => ?_)
    · refine T_iconst (-1 : Int32) (by decide) dX8_keep_10 ?_
      exact T_iret rfl dX8_keep_11
    · refine T_aload_n 0 rfl rfl dX8_keep_12 ?_
      refine T_iconst (0 : Int32) (by decide) dX8_keep_13 ?_
      refine T_bipush (35 : Int32) (by decide) dX8_keep_14 ?_
      refine T_iload_n 1 rfl rfl dX8_keep_16 ?_
      refine T_iconst (1 : Int32) (by decide) dX8_keep_17 ?_
      refine T_iadd dX8_keep_18 ?_
      refine T_imul dX8_keep_19 ?_
      refine T_cVV (c := 8) [.int (0 : Int32), .int ((35 : Int32) * (x1 + (1 : Int32)))] [] mkX8_copies lmX8_223 rfl rfl (by decide) (Nat.le_of_ble_eq_true rfl) kd_81 dX8_keep_20 (bsX8_copies _ (0 : Int32) ((35 : Int32) * (x1 + (1 : Int32))) m1) (fun m4 => ?_)
      refine T_aload_n 0 rfl rfl dX8_keep_23 ?_
      refine gRX8_52 rfl kd_81 96 rfl dX8_keep_24 ?_
      refine T_iload_n 1 rfl rfl dX8_keep_27 ?_
      refine T_zald kd_96 dX8_keep_28 ?_
      refine T_if_eq 36 dX8_keep_29 (by decide) (fun _ => ?_) (fun _ => ?_)
      · refine T_iconst (0 : Int32) (by decide) dX8_keep_36 ?_
        refine T_istore_n (lv' := [(2, .int (0 : Int32)), (0, .ref 81), (1, .int x1)]) rfl (Nat.le_of_ble_eq_true rfl) rfl dX8_keep_37 ?_
        refine T_aload_n 1 rfl rfl dX8_keep_38 ?_
        refine gRX8_52 rfl kd_81 96 rfl dX8_keep_39 ?_
        refine T_iload_n 2 rfl rfl dX8_keep_42 ?_
        refine T_iconst (1 : Int32) (by decide) dX8_keep_43 ?_
        refine T_zast (1 : Int32) (by decide) kd_96 dX8_keep_44 ?_
        refine T_lt (fun m5 => ?_)
        refine T_iload_n 0 rfl rfl dX8_keep_45 ?_
        exact T_iret rfl dX8_keep_46
      · refine T_iconst (1 : Int32) (by decide) dX8_keep_32 ?_
        refine T_goto 37 dX8_keep_33 (by decide) ?_
        refine T_istore_n (lv' := [(2, .int (1 : Int32)), (0, .ref 81), (1, .int x1)]) rfl (Nat.le_of_ble_eq_true rfl) rfl dX8_keep_37 ?_
        refine T_aload_n 1 rfl rfl dX8_keep_38 ?_
        refine gRX8_52 rfl kd_81 96 rfl dX8_keep_39 ?_
        refine T_iload_n 2 rfl rfl dX8_keep_42 ?_
        refine T_iconst (1 : Int32) (by decide) dX8_keep_43 ?_
        refine T_zast (1 : Int32) (by decide) kd_96 dX8_keep_44 ?_
        refine T_lt (fun m6 => ?_)
        refine T_iload_n 0 rfl rfl dX8_keep_45 ?_
        exact T_iret rfl dX8_keep_46)
def fX8_back (x1 : Int32) (m : mMem) : mR := bI (fX8_in (x1).toInt64 (0 : Int64) (1 : Int64) m) (fun z2 m1 => if z2 = (0 : Int32) then some (some (.int (-1 : Int32)), m1) else ga x1 2 (if (m1.1 96 (x1).toNatClampNeg) = (0 : Int32) then some (some (.int (-2 : Int32)), m1) else bV (fX8_copies ((35 : Int32) * (x1 + (1 : Int32))) (0 : Int32) m1) (fun m4 => ga (34 : Int32) 210 (some (some (.int (m4.1 82 ((34 : Int32)).toNatClampNeg)), m4)))))
set_option maxRecDepth 100000 in
theorem bsX8_back (l : Launch) (x1 : Int32) (m : mMem)  : BS l qX8_back [.ref 81, .int x1] m (fX8_back x1 m) := BS_of (by decide) (Nat.le_of_ble_eq_true rfl) (fun X _ => by
    show T qX8_back X (fX8_back x1 m) 0 [(0, .ref 81), (1, .int x1)] [] m
    unfold fX8_back
    refine T_iload_n 1 rfl rfl dX8_back_0 ?_
    refine T_i2l dX8_back_1 ?_
    refine T_lconst (0 : Int64) (by decide) dX8_back_2 ?_
    refine T_lconst (1 : Int64) (by decide) dX8_back_3 ?_
    refine T_cSI [.long (x1).toInt64, .long (0 : Int64), .long (1 : Int64)] [] mkX8_in lmX8_67 rfl (by decide) (Nat.le_of_ble_eq_true rfl) dX8_back_4 (bsX8_in _ (x1).toInt64 (0 : Int64) (1 : Int64) m) (fun z2 m1 => ?_)
    refine T_if_ne 12 dX8_back_7 (by decide) (fun _ => ?_) (fun _ => ?_)
    · refine T_iconst (-1 : Int32) (by decide) dX8_back_10 ?_
      exact T_iret rfl dX8_back_11
    · refine T_aload_n 0 rfl rfl dX8_back_12 ?_
      refine gRX8_52 rfl kd_81 96 rfl dX8_back_13 ?_
      refine T_iload_n 1 rfl rfl dX8_back_16 ?_
      refine T_zald kd_96 dX8_back_17 ?_
      refine T_if_ne 24 dX8_back_18 (by decide) (fun _ => ?_) (fun _ => ?_)
      · refine T_bipush (-2 : Int32) (by decide) dX8_back_21 ?_
        exact T_iret rfl dX8_back_23
      · refine T_aload_n 0 rfl rfl dX8_back_24 ?_
        refine T_bipush (35 : Int32) (by decide) dX8_back_25 ?_
        refine T_iload_n 1 rfl rfl dX8_back_27 ?_
        refine T_iconst (1 : Int32) (by decide) dX8_back_28 ?_
        refine T_iadd dX8_back_29 ?_
        refine T_imul dX8_back_30 ?_
        refine T_iconst (0 : Int32) (by decide) dX8_back_31 ?_
        refine T_cVV (c := 8) [.int ((35 : Int32) * (x1 + (1 : Int32))), .int (0 : Int32)] [] mkX8_copies lmX8_223 rfl rfl (by decide) (Nat.le_of_ble_eq_true rfl) kd_81 dX8_back_32 (bsX8_copies _ ((35 : Int32) * (x1 + (1 : Int32))) (0 : Int32) m1) (fun m4 => ?_)
        refine T_aload_n 0 rfl rfl dX8_back_35 ?_
        refine gRX8_7 rfl kd_81 82 rfl dX8_back_36 ?_
        refine T_bipush (34 : Int32) (by decide) dX8_back_39 ?_
        refine T_iald kd_82 dX8_back_41 ?_
        exact T_iret rfl dX8_back_42)
theorem lfX8_56 : Cond.fieldLink RX8 56 "RankStairsModel" "lanes" "[I" ∈ gdL := gd_mem 915 (by decide +kernel) (by decide +kernel)
theorem gRX8_56 {q : mMI} {X : mCx} {tgt : mR} {pc : Nat} {lv : List (Nat × Value)} {st : List Value} {μ : mMem} {b : Nat} (hq : q.1.cls = RX8) (hb : kd b = (8, 0)) (z : Nat) (hz : rf b 31 = z) (hd : decode q.2.1 pc = .ok (.getfield 56, 3)) (h : T q X tgt (pc + 3) lv (.ref z :: st) μ) : T q X tgt pc lv (.ref b :: st) μ := T_getR (c := 8) rfl (by decide) rfl (by decide) (by rw [hq]; exact lfX8_56) hb z hz hd h
theorem lfX8_59 : Cond.fieldLink RX8 59 "RankStairsModel" "lengths" "[I" ∈ gdL := gd_mem 916 (by decide +kernel) (by decide +kernel)
theorem gRX8_59 {q : mMI} {X : mCx} {tgt : mR} {pc : Nat} {lv : List (Nat × Value)} {st : List Value} {μ : mMem} {b : Nat} (hq : q.1.cls = RX8) (hb : kd b = (8, 0)) (z : Nat) (hz : rf b 32 = z) (hd : decode q.2.1 pc = .ok (.getfield 59, 3)) (h : T q X tgt (pc + 3) lv (.ref z :: st) μ) : T q X tgt pc lv (.ref b :: st) μ := T_getR (c := 8) rfl (by decide) rfl (by decide) (by rw [hq]; exact lfX8_59) hb z hz hd h
theorem lfX8_62 : Cond.fieldLink RX8 62 "RankStairsModel" "cells" "[I" ∈ gdL := gd_mem 917 (by decide +kernel) (by decide +kernel)
theorem gRX8_62 {q : mMI} {X : mCx} {tgt : mR} {pc : Nat} {lv : List (Nat × Value)} {st : List Value} {μ : mMem} {b : Nat} (hq : q.1.cls = RX8) (hb : kd b = (8, 0)) (z : Nat) (hz : rf b 33 = z) (hd : decode q.2.1 pc = .ok (.getfield 62, 3)) (h : T q X tgt (pc + 3) lv (.ref z :: st) μ) : T q X tgt pc lv (.ref b :: st) μ := T_getR (c := 8) rfl (by decide) rfl (by decide) (by rw [hq]; exact lfX8_62) hb z hz hd h
theorem lcX8_257 : Cond.constantLong RX8 257 (2) ∈ gdL := gd_mem 1294 (by decide +kernel) (by decide +kernel)
def bX8_sheet_56 (x1 : Int32) (k56 : Int32 × mMem → mR) (s : Int32 × mMem) : mR := match s with
  | (x4, m) => if (40 : Int32) ≤ x4 then some (some (.int (1 : Int32)), m) else ga (((40 : Int32) * x1) + x4) 160 (lt (si m 99 ((((40 : Int32) * x1) + x4)).toNatClampNeg (0 : Int32)) (fun m9 => li (x4 + (1 : Int32)) (fun y10 => k56 (y10, m9))))
set_option maxRecDepth 100000 in
theorem tX8_sheet_56 (X : mCx) (x1 : Int32)  : ∀ (n : Nat) (s : Int32 × mMem), T qX8_sheet X (lp (bX8_sheet_56 x1) n s) 56 [(0, .ref 81), (1, .int x1), (4, .int s.1)] [] s.2 :=
  T_lp (body := bX8_sheet_56 x1) (lv := fun s => [(0, .ref 81), (1, .int x1), (4, .int s.1)]) (st := fun _ => []) (μ := fun s : Int32 × mMem => s.2) (fun k56 hk56 s => by
    obtain ⟨x4, m⟩ := s
    show T qX8_sheet X (bX8_sheet_56 x1 k56 (x4, m)) 56 [(0, .ref 81), (1, .int x1), (4, .int x4)] [] m
    unfold bX8_sheet_56
    dsimp only
    refine T_iload 2 rfl dX8_sheet_56 ?_
    refine T_bipush (40 : Int32) (by decide) dX8_sheet_58 ?_
    refine T_icmp_ge 82 dX8_sheet_60 (by decide) (fun _ => ?_) (fun _ => ?_)
    · refine T_iconst (1 : Int32) (by decide) dX8_sheet_82 ?_
      exact T_iret rfl dX8_sheet_83
    · refine T_aload_n 0 rfl rfl dX8_sheet_63 ?_
      refine gRX8_62 rfl kd_81 99 rfl dX8_sheet_64 ?_
      refine T_bipush (40 : Int32) (by decide) dX8_sheet_67 ?_
      refine T_iload_n 1 rfl rfl dX8_sheet_69 ?_
      refine T_imul dX8_sheet_70 ?_
      refine T_iload 2 rfl dX8_sheet_71 ?_
      refine T_iadd dX8_sheet_73 ?_
      refine T_iconst (0 : Int32) (by decide) dX8_sheet_74 ?_
      refine T_iast _ rfl kd_99 dX8_sheet_75 ?_
      refine T_lt (fun m9 => ?_)
      refine T_iinc (lv' := [(4, .int (x4 + (1 : Int32))), (0, .ref 81), (1, .int x1)]) 2 (1 : Int32) rfl (by decide) (Nat.le_of_ble_eq_true rfl) rfl dX8_sheet_76 ?_
      refine T_li (fun y10 => ?_)
      refine T_goto 56 dX8_sheet_79 (by decide) ?_
      exact T_sub [1, 2, 0] rfl (hk56 (y10, m9)))
def fX8_sheet (x1 : Int32) (x2 : Int32) (x3 : Int32) (m : mMem) : mR := bI (fX8_in (x1).toInt64 (0 : Int64) (3 : Int64) m) (fun z2 m1 => if z2 = (0 : Int32) then some (some (.int (-1 : Int32)), m1) else bI (fX8_in (x2).toInt64 (0 : Int64) (2 : Int64) m1) (fun z5 m4 => if z5 = (0 : Int32) then some (some (.int (-1 : Int32)), m4) else if x3 ≤ (40 : Int32) then if (0 : Int32) ≤ x3 then ga x1 4 (lt (si m4 97 (x1).toNatClampNeg x2) (fun m7 => ga x1 4 (lt (si m7 98 (x1).toNatClampNeg x3) (fun m8 => lp (bX8_sheet_56 x1) FU ((0 : Int32), m8))))) else some (some (.int (-14 : Int32)), m4) else some (some (.int (-1 : Int32)), m4)))
set_option maxRecDepth 100000 in
theorem bsX8_sheet (l : Launch) (x1 : Int32) (x2 : Int32) (x3 : Int32) (m : mMem)  : BS l qX8_sheet [.ref 81, .int x1, .int x2, .int x3] m (fX8_sheet x1 x2 x3 m) := BS_of (by decide) (Nat.le_of_ble_eq_true rfl) (fun X _ => by
    show T qX8_sheet X (fX8_sheet x1 x2 x3 m) 0 [(0, .ref 81), (1, .int x1), (2, .int x2), (3, .int x3)] [] m
    unfold fX8_sheet
    refine T_iload_n 1 rfl rfl dX8_sheet_0 ?_
    refine T_i2l dX8_sheet_1 ?_
    refine T_lconst (0 : Int64) (by decide) dX8_sheet_2 ?_
    refine T_ldc2 lcX8_193 dX8_sheet_3 ?_
    refine T_cSI [.long (x1).toInt64, .long (0 : Int64), .long (3 : Int64)] [] mkX8_in lmX8_67 rfl (by decide) (Nat.le_of_ble_eq_true rfl) dX8_sheet_6 (bsX8_in _ (x1).toInt64 (0 : Int64) (3 : Int64) m) (fun z2 m1 => ?_)
    refine T_if_eq 30 dX8_sheet_9 (by decide) (fun _ => ?_) (fun _ => ?_)
    · refine T_iconst (-1 : Int32) (by decide) dX8_sheet_30 ?_
      exact T_iret rfl dX8_sheet_31
    · refine T_iload_n 2 rfl rfl dX8_sheet_12 ?_
      refine T_i2l dX8_sheet_13 ?_
      refine T_lconst (0 : Int64) (by decide) dX8_sheet_14 ?_
      refine T_ldc2 lcX8_257 dX8_sheet_15 ?_
      refine T_cSI [.long (x2).toInt64, .long (0 : Int64), .long (2 : Int64)] [] mkX8_in lmX8_67 rfl (by decide) (Nat.le_of_ble_eq_true rfl) dX8_sheet_18 (bsX8_in _ (x2).toInt64 (0 : Int64) (2 : Int64) m1) (fun z5 m4 => ?_)
      refine T_if_eq 30 dX8_sheet_21 (by decide) (fun _ => ?_) (fun _ => ?_)
      · refine T_iconst (-1 : Int32) (by decide) dX8_sheet_30 ?_
        exact T_iret rfl dX8_sheet_31
      · refine T_iload_n 3 rfl rfl dX8_sheet_24 ?_
        refine T_bipush (40 : Int32) (by decide) dX8_sheet_25 ?_
        refine T_icmp_le 32 dX8_sheet_27 (by decide) (fun _ => ?_) (fun _ => ?_)
        · refine T_iload_n 3 rfl rfl dX8_sheet_32 ?_
          refine T_if_ge 39 dX8_sheet_33 (by decide) (fun _ => ?_) (fun _ => ?_)
          · refine T_aload_n 0 rfl rfl dX8_sheet_39 ?_
            refine gRX8_56 rfl kd_81 97 rfl dX8_sheet_40 ?_
            refine T_iload_n 1 rfl rfl dX8_sheet_43 ?_
            refine T_iload_n 2 rfl rfl dX8_sheet_44 ?_
            refine T_iast _ rfl kd_97 dX8_sheet_45 ?_
            refine T_lt (fun m7 => ?_)
            refine T_aload_n 0 rfl rfl dX8_sheet_46 ?_
            refine gRX8_59 rfl kd_81 98 rfl dX8_sheet_47 ?_
            refine T_iload_n 1 rfl rfl dX8_sheet_50 ?_
            refine T_iload_n 3 rfl rfl dX8_sheet_51 ?_
            refine T_iast _ rfl kd_98 dX8_sheet_52 ?_
            refine T_lt (fun m8 => ?_)
            refine T_iconst (0 : Int32) (by decide) dX8_sheet_53 ?_
            refine T_istore (lv' := [(4, .int (0 : Int32)), (0, .ref 81), (1, .int x1), (2, .int x2), (3, .int x3)]) (Nat.le_of_ble_eq_true rfl) rfl dX8_sheet_54 ?_
            exact T_sub [1, 2, 0] rfl (tX8_sheet_56 X x1  FU ((0 : Int32), m8))
          · refine T_bipush (-14 : Int32) (by decide) dX8_sheet_36 ?_
            exact T_iret rfl dX8_sheet_38
        · refine T_iconst (-1 : Int32) (by decide) dX8_sheet_30 ?_
          exact T_iret rfl dX8_sheet_31)
def fX8_lay (x1 : Int32) (x2 : Int32) (x3 : Int32) (m : mMem) : mR := bI (fX8_in (x1).toInt64 (0 : Int64) (3 : Int64) m) (fun z2 m1 => if z2 = (0 : Int32) then some (some (.int (-1 : Int32)), m1) else ga x1 4 (if (m1.1 97 (x1).toNatClampNeg) = (-4 : Int32) then some (some (.int (-11 : Int32)), m1) else ga x1 4 (bI (fX8_in (x2).toInt64 (0 : Int64) (((m1.1 98 (x1).toNatClampNeg) - (1 : Int32))).toInt64 m1) (fun z5 m4 => if z5 = (0 : Int32) then some (some (.int (-12 : Int32)), m4) else ga x1 4 (if (m4.1 97 (x1).toNatClampNeg) = (0 : Int32) then ga (((40 : Int32) * x1) + x2) 160 (lt (si m4 99 ((((40 : Int32) * x1) + x2)).toNatClampNeg ((x3 <<< ((24 : Int32) &&& 31)) >>> ((24 : Int32) &&& 31))) (fun m7 => some (some (.int (1 : Int32)), m7))) else ga x1 4 (if (m4.1 97 (x1).toNatClampNeg) = (1 : Int32) then ga (((40 : Int32) * x1) + x2) 160 (lt (si m4 99 ((((40 : Int32) * x1) + x2)).toNatClampNeg ((x3 <<< ((16 : Int32) &&& 31)) >>> ((16 : Int32) &&& 31))) (fun m8 => some (some (.int (1 : Int32)), m8))) else ga (((40 : Int32) * x1) + x2) 160 (lt (si m4 99 ((((40 : Int32) * x1) + x2)).toNatClampNeg x3) (fun m9 => some (some (.int (1 : Int32)), m9)))))))))
set_option maxRecDepth 100000 in
theorem bsX8_lay (l : Launch) (x1 : Int32) (x2 : Int32) (x3 : Int32) (m : mMem)  : BS l qX8_lay [.ref 81, .int x1, .int x2, .int x3] m (fX8_lay x1 x2 x3 m) := BS_of (by decide) (Nat.le_of_ble_eq_true rfl) (fun X _ => by
    show T qX8_lay X (fX8_lay x1 x2 x3 m) 0 [(0, .ref 81), (1, .int x1), (2, .int x2), (3, .int x3)] [] m
    unfold fX8_lay
    refine T_iload_n 1 rfl rfl dX8_lay_0 ?_
    refine T_i2l dX8_lay_1 ?_
    refine T_lconst (0 : Int64) (by decide) dX8_lay_2 ?_
    refine T_ldc2 lcX8_193 dX8_lay_3 ?_
    refine T_cSI [.long (x1).toInt64, .long (0 : Int64), .long (3 : Int64)] [] mkX8_in lmX8_67 rfl (by decide) (Nat.le_of_ble_eq_true rfl) dX8_lay_6 (bsX8_in _ (x1).toInt64 (0 : Int64) (3 : Int64) m) (fun z2 m1 => ?_)
    refine T_if_ne 14 dX8_lay_9 (by decide) (fun _ => ?_) (fun _ => ?_)
    · refine T_iconst (-1 : Int32) (by decide) dX8_lay_12 ?_
      exact T_iret rfl dX8_lay_13
    · refine T_aload_n 0 rfl rfl dX8_lay_14 ?_
      refine gRX8_56 rfl kd_81 97 rfl dX8_lay_15 ?_
      refine T_iload_n 1 rfl rfl dX8_lay_18 ?_
      refine T_iald kd_97 dX8_lay_19 ?_
      refine T_bipush (-4 : Int32) (by decide) dX8_lay_20 ?_
      refine T_icmp_ne 28 dX8_lay_22 (by decide) (fun _ => ?_) (fun _ => ?_)
      · refine T_bipush (-11 : Int32) (by decide) dX8_lay_25 ?_
        exact T_iret rfl dX8_lay_27
      · refine T_iload_n 2 rfl rfl dX8_lay_28 ?_
        refine T_i2l dX8_lay_29 ?_
        refine T_lconst (0 : Int64) (by decide) dX8_lay_30 ?_
        refine T_aload_n 0 rfl rfl dX8_lay_31 ?_
        refine gRX8_59 rfl kd_81 98 rfl dX8_lay_32 ?_
        refine T_iload_n 1 rfl rfl dX8_lay_35 ?_
        refine T_iald kd_98 dX8_lay_36 ?_
        refine T_iconst (1 : Int32) (by decide) dX8_lay_37 ?_
        refine T_isub dX8_lay_38 ?_
        refine T_i2l dX8_lay_39 ?_
        refine T_cSI [.long (x2).toInt64, .long (0 : Int64), .long (((m1.1 98 (x1).toNatClampNeg) - (1 : Int32))).toInt64] [] mkX8_in lmX8_67 rfl (by decide) (Nat.le_of_ble_eq_true rfl) dX8_lay_40 (bsX8_in _ (x2).toInt64 (0 : Int64) (((m1.1 98 (x1).toNatClampNeg) - (1 : Int32))).toInt64 m1) (fun z5 m4 => ?_)
        refine T_if_ne 49 dX8_lay_43 (by decide) (fun _ => ?_) (fun _ => ?_)
        · refine T_bipush (-12 : Int32) (by decide) dX8_lay_46 ?_
          exact T_iret rfl dX8_lay_48
        · refine T_aload_n 0 rfl rfl dX8_lay_49 ?_
          refine gRX8_62 rfl kd_81 99 rfl dX8_lay_50 ?_
          refine T_bipush (40 : Int32) (by decide) dX8_lay_53 ?_
          refine T_iload_n 1 rfl rfl dX8_lay_55 ?_
          refine T_imul dX8_lay_56 ?_
          refine T_iload_n 2 rfl rfl dX8_lay_57 ?_
          refine T_iadd dX8_lay_58 ?_
          refine T_aload_n 0 rfl rfl dX8_lay_59 ?_
          refine gRX8_56 rfl kd_81 97 rfl dX8_lay_60 ?_
          refine T_iload_n 1 rfl rfl dX8_lay_63 ?_
          refine T_iald kd_97 dX8_lay_64 ?_
          refine T_if_ne 78 dX8_lay_65 (by decide) (fun _ => ?_) (fun _ => ?_)
          · refine T_iload_n 3 rfl rfl dX8_lay_68 ?_
            refine T_bipush (24 : Int32) (by decide) dX8_lay_69 ?_
            refine T_ishl dX8_lay_71 ?_
            refine T_bipush (24 : Int32) (by decide) dX8_lay_72 ?_
            refine T_ishr dX8_lay_74 ?_
            refine T_goto 99 dX8_lay_75 (by decide) ?_
            refine T_iast _ rfl kd_99 dX8_lay_99 ?_
            refine T_lt (fun m7 => ?_)
            refine T_iconst (1 : Int32) (by decide) dX8_lay_100 ?_
            exact T_iret rfl dX8_lay_101
          · refine T_aload_n 0 rfl rfl dX8_lay_78 ?_
            refine gRX8_56 rfl kd_81 97 rfl dX8_lay_79 ?_
            refine T_iload_n 1 rfl rfl dX8_lay_82 ?_
            refine T_iald kd_97 dX8_lay_83 ?_
            refine T_iconst (1 : Int32) (by decide) dX8_lay_84 ?_
            refine T_icmp_ne 98 dX8_lay_85 (by decide) (fun _ => ?_) (fun _ => ?_)
            · refine T_iload_n 3 rfl rfl dX8_lay_88 ?_
              refine T_bipush (16 : Int32) (by decide) dX8_lay_89 ?_
              refine T_ishl dX8_lay_91 ?_
              refine T_bipush (16 : Int32) (by decide) dX8_lay_92 ?_
              refine T_ishr dX8_lay_94 ?_
              refine T_goto 99 dX8_lay_95 (by decide) ?_
              refine T_iast _ rfl kd_99 dX8_lay_99 ?_
              refine T_lt (fun m8 => ?_)
              refine T_iconst (1 : Int32) (by decide) dX8_lay_100 ?_
              exact T_iret rfl dX8_lay_101
            · refine T_iload_n 3 rfl rfl dX8_lay_98 ?_
              refine T_iast _ rfl kd_99 dX8_lay_99 ?_
              refine T_lt (fun m9 => ?_)
              refine T_iconst (1 : Int32) (by decide) dX8_lay_100 ?_
              exact T_iret rfl dX8_lay_101)
theorem lmX8_109 : Cond.methodLink RX8 109 yX8_goesOn ∈ gdL := gd_mem 1006 (by decide +kernel) (by decide +kernel)
def jX8_number_62 (xs0 : Int32) (m : mMem) : mR := bV (fX8_goesOn m) (fun m5 => some (some (.int xs0), m5))
set_option maxRecDepth 100000 in
theorem uX8_number_62 (X : mCx) (xs0 : Int32) (m : mMem)  : T qX8_number X (jX8_number_62 xs0 m) 62 [(0, .ref 81)] [.int xs0] m := by
  unfold jX8_number_62
  refine T_istore_n (lv' := [(3, .int xs0), (0, .ref 81)]) rfl (Nat.le_of_ble_eq_true rfl) rfl dX8_number_62 ?_
  refine T_aload_n 1 rfl rfl dX8_number_63 ?_
  refine T_cVV (c := 8) [] [] mkX8_goesOn lmX8_109 rfl rfl (by decide) (Nat.le_of_ble_eq_true rfl) kd_81 dX8_number_64 (bsX8_goesOn _  m) (fun m5 => ?_)
  refine T_iload_n 0 rfl rfl dX8_number_67 ?_
  exact T_iret rfl dX8_number_68
def jX8_number_47 (x1 : Int32) (m : mMem) : mR := if (m.1 81 16) = (0 : Int32) then jX8_number_62 (m.1 81 21) m else jX8_number_62 x1 m
set_option maxRecDepth 100000 in
theorem uX8_number_47 (X : mCx) (x1 : Int32) (m : mMem)  : T qX8_number X (jX8_number_47 x1 m) 47 [(0, .ref 81), (1, .int x1)] [] m := by
  unfold jX8_number_47
  refine T_aload_n 0 rfl rfl dX8_number_47 ?_
  refine gIX8_75 rfl kd_81 dX8_number_48 ?_
  refine T_if_ne 61 dX8_number_51 (by decide) (fun _ => ?_) (fun _ => ?_)
  · refine T_aload_n 0 rfl rfl dX8_number_54 ?_
    refine gIX8_94 rfl kd_81 dX8_number_55 ?_
    refine T_goto 62 dX8_number_58 (by decide) ?_
    exact T_sub [0] rfl (uX8_number_62 X (m.1 81 21) m )
  · refine T_iload_n 1 rfl rfl dX8_number_61 ?_
    exact T_sub [0] rfl (uX8_number_62 X x1 m )
def jX8_number_20 (x1 : Int32) (x2 : Int32) (m : mMem) : mR := if (m.1 81 16) = (0 : Int32) then bI (fX8_in ((m.1 81 21)).toInt64 (x1).toInt64 (x2).toInt64 m) (fun z2 m1 => if z2 = (0 : Int32) then bV (fX8_fails (3 : Int32) m1) (fun m4 => jX8_number_47 x1 m4) else jX8_number_47 x1 m1) else jX8_number_47 x1 m
set_option maxRecDepth 100000 in
theorem uX8_number_20 (X : mCx) (x1 : Int32) (x2 : Int32) (m : mMem)  : T qX8_number X (jX8_number_20 x1 x2 m) 20 [(0, .ref 81), (1, .int x1), (2, .int x2)] [] m := by
  unfold jX8_number_20
  refine T_aload_n 0 rfl rfl dX8_number_20 ?_
  refine gIX8_75 rfl kd_81 dX8_number_21 ?_
  refine T_if_ne 47 dX8_number_24 (by decide) (fun _ => ?_) (fun _ => ?_)
  · refine T_aload_n 0 rfl rfl dX8_number_27 ?_
    refine gIX8_94 rfl kd_81 dX8_number_28 ?_
    refine T_i2l dX8_number_31 ?_
    refine T_iload_n 1 rfl rfl dX8_number_32 ?_
    refine T_i2l dX8_number_33 ?_
    refine T_iload_n 2 rfl rfl dX8_number_34 ?_
    refine T_i2l dX8_number_35 ?_
    refine T_cSI [.long ((m.1 81 21)).toInt64, .long (x1).toInt64, .long (x2).toInt64] [] mkX8_in lmX8_67 rfl (by decide) (Nat.le_of_ble_eq_true rfl) dX8_number_36 (bsX8_in _ ((m.1 81 21)).toInt64 (x1).toInt64 (x2).toInt64 m) (fun z2 m1 => ?_)
    refine T_if_ne 47 dX8_number_39 (by decide) (fun _ => ?_) (fun _ => ?_)
    · refine T_aload_n 0 rfl rfl dX8_number_42 ?_
      refine T_iconst (3 : Int32) (by decide) dX8_number_43 ?_
      refine T_cVV (c := 8) [.int (3 : Int32)] [] mkX8_fails lmX8_105 rfl rfl (by decide) (Nat.le_of_ble_eq_true rfl) kd_81 dX8_number_44 (bsX8_fails _ (3 : Int32) m1) (fun m4 => ?_)
      exact T_sub [0, 1] rfl (uX8_number_47 X x1 m4 )
    · exact T_sub [0, 1] rfl (uX8_number_47 X x1 m1 )
  · exact T_sub [0, 1] rfl (uX8_number_47 X x1 m )
def fX8_number (x1 : Int32) (x2 : Int32) (m : mMem) : mR := if (m.1 81 16) = (0 : Int32) then if (m.1 81 20) = (2 : Int32) then jX8_number_20 x1 x2 m else bV (fX8_fails (2 : Int32) m) (fun m6 => jX8_number_20 x1 x2 m6) else jX8_number_20 x1 x2 m
set_option maxRecDepth 100000 in
theorem bsX8_number (l : Launch) (x1 : Int32) (x2 : Int32) (m : mMem)  : BS l qX8_number [.ref 81, .int x1, .int x2] m (fX8_number x1 x2 m) := BS_of (by decide) (Nat.le_of_ble_eq_true rfl) (fun X _ => by
    show T qX8_number X (fX8_number x1 x2 m) 0 [(0, .ref 81), (1, .int x1), (2, .int x2)] [] m
    unfold fX8_number
    refine T_aload_n 0 rfl rfl dX8_number_0 ?_
    refine gIX8_75 rfl kd_81 dX8_number_1 ?_
    refine T_if_ne 20 dX8_number_4 (by decide) (fun _ => ?_) (fun _ => ?_)
    · refine T_aload_n 0 rfl rfl dX8_number_7 ?_
      refine gIX8_84 rfl kd_81 dX8_number_8 ?_
      refine T_iconst (2 : Int32) (by decide) dX8_number_11 ?_
      refine T_icmp_eq 20 dX8_number_12 (by decide) (fun _ => ?_) (fun _ => ?_)
      · exact T_sub [0, 1, 2] rfl (uX8_number_20 X x1 x2 m )
      · refine T_aload_n 0 rfl rfl dX8_number_15 ?_
        refine T_iconst (2 : Int32) (by decide) dX8_number_16 ?_
        refine T_cVV (c := 8) [.int (2 : Int32)] [] mkX8_fails lmX8_105 rfl rfl (by decide) (Nat.le_of_ble_eq_true rfl) kd_81 dX8_number_17 (bsX8_fails _ (2 : Int32) m) (fun m6 => ?_)
        exact T_sub [0, 1, 2] rfl (uX8_number_20 X x1 x2 m6 )
    · exact T_sub [0, 1, 2] rfl (uX8_number_20 X x1 x2 m ))
theorem lmX8_158 : Cond.methodLink RX8 158 yX8_isBroken ∈ gdL := gd_mem 1063 (by decide +kernel) (by decide +kernel)
def bX8_brokenOn_4 (x1 : Int32) (k4 : Int32 × Int32 × mMem → mR) (s : Int32 × Int32 × mMem) : mR := match s with
  | (x2, x3, m) => if (m.1 81 2) ≤ x3 then some (some (.int x2), m) else bI (fX8_isBroken x1 x3 m) (fun z2 m1 => if z2 = (0 : Int32) then li (x2 ||| (0 : Int32)) (fun y4 => li (x3 + (1 : Int32)) (fun y5 => k4 (y4, y5, m1))) else li (x2 ||| ((1 : Int32) <<< (x3 &&& 31))) (fun y6 => li (x3 + (1 : Int32)) (fun y7 => k4 (y6, y7, m1))))
set_option maxRecDepth 100000 in
theorem tX8_brokenOn_4 (X : mCx) (x1 : Int32)  : ∀ (n : Nat) (s : Int32 × Int32 × mMem), T qX8_brokenOn X (lp (bX8_brokenOn_4 x1) n s) 4 [(0, .ref 81), (1, .int x1), (2, .int s.1), (3, .int s.2.1)] [] s.2.2 :=
  T_lp (body := bX8_brokenOn_4 x1) (lv := fun s => [(0, .ref 81), (1, .int x1), (2, .int s.1), (3, .int s.2.1)]) (st := fun _ => []) (μ := fun s : Int32 × Int32 × mMem => s.2.2) (fun k4 hk4 s => by
    obtain ⟨x2, x3, m⟩ := s
    show T qX8_brokenOn X (bX8_brokenOn_4 x1 k4 (x2, x3, m)) 4 [(0, .ref 81), (1, .int x1), (2, .int x2), (3, .int x3)] [] m
    unfold bX8_brokenOn_4
    dsimp only
    refine T_iload_n 3 rfl rfl dX8_brokenOn_4 ?_
    refine T_aload_n 0 rfl rfl dX8_brokenOn_5 ?_
    refine gIX8_143 rfl kd_81 dX8_brokenOn_6 ?_
    refine T_icmp_ge 37 dX8_brokenOn_9 (by decide) (fun _ => ?_) (fun _ => ?_)
    · refine T_iload_n 2 rfl rfl dX8_brokenOn_37 ?_
      exact T_iret rfl dX8_brokenOn_38
    · refine T_iload_n 2 rfl rfl dX8_brokenOn_12 ?_
      refine T_aload_n 0 rfl rfl dX8_brokenOn_13 ?_
      refine T_iload_n 1 rfl rfl dX8_brokenOn_14 ?_
      refine T_iload_n 3 rfl rfl dX8_brokenOn_15 ?_
      refine T_cVI (c := 8) [.int x1, .int x3] [.int x2] mkX8_isBroken lmX8_158 rfl rfl (by decide) (Nat.le_of_ble_eq_true rfl) kd_81 dX8_brokenOn_16 (bsX8_isBroken _ x1 x3 m) (fun z2 m1 => ?_)
      refine T_if_eq 28 dX8_brokenOn_19 (by decide) (fun _ => ?_) (fun _ => ?_)
      · refine T_iconst (0 : Int32) (by decide) dX8_brokenOn_28 ?_
        refine T_ior dX8_brokenOn_29 ?_
        refine T_istore_n (lv' := [(2, .int (x2 ||| (0 : Int32))), (0, .ref 81), (1, .int x1), (3, .int x3)]) rfl (Nat.le_of_ble_eq_true rfl) rfl dX8_brokenOn_30 ?_
        refine T_li (fun y4 => ?_)
        refine T_iinc (lv' := [(3, .int (x3 + (1 : Int32))), (2, .int y4), (0, .ref 81), (1, .int x1)]) 3 (1 : Int32) rfl (by decide) (Nat.le_of_ble_eq_true rfl) rfl dX8_brokenOn_31 ?_
        refine T_li (fun y5 => ?_)
        refine T_goto 4 dX8_brokenOn_34 (by decide) ?_
        exact T_sub [2, 3, 1, 0] rfl (hk4 (y4, y5, m1))
      · refine T_iconst (1 : Int32) (by decide) dX8_brokenOn_22 ?_
        refine T_iload_n 3 rfl rfl dX8_brokenOn_23 ?_
        refine T_ishl dX8_brokenOn_24 ?_
        refine T_goto 29 dX8_brokenOn_25 (by decide) ?_
        refine T_ior dX8_brokenOn_29 ?_
        refine T_istore_n (lv' := [(2, .int (x2 ||| ((1 : Int32) <<< (x3 &&& 31)))), (0, .ref 81), (1, .int x1), (3, .int x3)]) rfl (Nat.le_of_ble_eq_true rfl) rfl dX8_brokenOn_30 ?_
        refine T_li (fun y6 => ?_)
        refine T_iinc (lv' := [(3, .int (x3 + (1 : Int32))), (2, .int y6), (0, .ref 81), (1, .int x1)]) 3 (1 : Int32) rfl (by decide) (Nat.le_of_ble_eq_true rfl) rfl dX8_brokenOn_31 ?_
        refine T_li (fun y7 => ?_)
        refine T_goto 4 dX8_brokenOn_34 (by decide) ?_
        exact T_sub [2, 3, 1, 0] rfl (hk4 (y6, y7, m1)))
def fX8_brokenOn (x1 : Int32) (m : mMem) : mR := lp (bX8_brokenOn_4 x1) FU ((0 : Int32), (0 : Int32), m)
set_option maxRecDepth 100000 in
theorem bsX8_brokenOn (l : Launch) (x1 : Int32) (m : mMem)  : BS l qX8_brokenOn [.ref 81, .int x1] m (fX8_brokenOn x1 m) := BS_of (by decide) (Nat.le_of_ble_eq_true rfl) (fun X _ => by
    show T qX8_brokenOn X (fX8_brokenOn x1 m) 0 [(0, .ref 81), (1, .int x1)] [] m
    unfold fX8_brokenOn
    refine T_iconst (0 : Int32) (by decide) dX8_brokenOn_0 ?_
    refine T_istore_n (lv' := [(2, .int (0 : Int32)), (0, .ref 81), (1, .int x1)]) rfl (Nat.le_of_ble_eq_true rfl) rfl dX8_brokenOn_1 ?_
    refine T_iconst (0 : Int32) (by decide) dX8_brokenOn_2 ?_
    refine T_istore_n (lv' := [(3, .int (0 : Int32)), (2, .int (0 : Int32)), (0, .ref 81), (1, .int x1)]) rfl (Nat.le_of_ble_eq_true rfl) rfl dX8_brokenOn_3 ?_
    exact T_sub [2, 3, 1, 0] rfl (tX8_brokenOn_4 X x1  FU ((0 : Int32), (0 : Int32), m)))
def fX8_mayTread (x1 : Int32) (x2 : Int32) (x3 : Int32) (m : mMem) : mR := bI (fX8_rankOn x1 x3 m) (fun z2 m1 => ga ((x1 + (20 : Int32)) + ((3 : Int32) * x2)) 210 (li (z2 - (m1.1 82 (((x1 + (20 : Int32)) + ((3 : Int32) * x2))).toNatClampNeg)) (fun y4 => ga (x1 + (32 : Int32)) 210 (li ((m1.1 82 ((x1 + (32 : Int32))).toNatClampNeg) + (1 : Int32)) (fun y5 => bI (fX8_isBroken x1 x3 m1) (fun z7 m6 => if z7 = (0 : Int32) then ga x3 10 (if (m6.1 83 (x3).toNatClampNeg) = (3 : Int32) then some (some (.int (1 : Int32)), m6) else bI (fX8_in (y4).toInt64 ((-y5)).toInt64 (y5).toInt64 m6) (fun z10 m9 => if z10 = (0 : Int32) then some (some (.int (0 : Int32)), m9) else some (some (.int (1 : Int32)), m9))) else some (some (.int (0 : Int32)), m6)))))))
set_option maxRecDepth 100000 in
theorem bsX8_mayTread (l : Launch) (x1 : Int32) (x2 : Int32) (x3 : Int32) (m : mMem)  : BS l qX8_mayTread [.ref 81, .int x1, .int x2, .int x3] m (fX8_mayTread x1 x2 x3 m) := BS_of (by decide) (Nat.le_of_ble_eq_true rfl) (fun X _ => by
    show T qX8_mayTread X (fX8_mayTread x1 x2 x3 m) 0 [(0, .ref 81), (1, .int x1), (2, .int x2), (3, .int x3)] [] m
    unfold fX8_mayTread
    refine T_aload_n 0 rfl rfl dX8_mayTread_0 ?_
    refine T_iload_n 1 rfl rfl dX8_mayTread_1 ?_
    refine T_iload_n 3 rfl rfl dX8_mayTread_2 ?_
    refine T_cVI (c := 8) [.int x1, .int x3] [] mkX8_rankOn lmX8_162 rfl rfl (by decide) (Nat.le_of_ble_eq_true rfl) kd_81 dX8_mayTread_3 (bsX8_rankOn _ x1 x3 m) (fun z2 m1 => ?_)
    refine T_aload_n 0 rfl rfl dX8_mayTread_6 ?_
    refine gRX8_7 rfl kd_81 82 rfl dX8_mayTread_7 ?_
    refine T_iload_n 1 rfl rfl dX8_mayTread_10 ?_
    refine T_bipush (20 : Int32) (by decide) dX8_mayTread_11 ?_
    refine T_iadd dX8_mayTread_13 ?_
    refine T_iconst (3 : Int32) (by decide) dX8_mayTread_14 ?_
    refine T_iload_n 2 rfl rfl dX8_mayTread_15 ?_
    refine T_imul dX8_mayTread_16 ?_
    refine T_iadd dX8_mayTread_17 ?_
    refine T_iald kd_82 dX8_mayTread_18 ?_
    refine T_isub dX8_mayTread_19 ?_
    refine T_istore (lv' := [(4, .int (z2 - (m1.1 82 (((x1 + (20 : Int32)) + ((3 : Int32) * x2))).toNatClampNeg))), (0, .ref 81), (1, .int x1), (2, .int x2), (3, .int x3)]) (Nat.le_of_ble_eq_true rfl) rfl dX8_mayTread_20 ?_
    refine T_li (fun y4 => ?_)
    refine T_aload_n 1 rfl rfl dX8_mayTread_22 ?_
    refine gRX8_7 rfl kd_81 82 rfl dX8_mayTread_23 ?_
    refine T_iload_n 2 rfl rfl dX8_mayTread_26 ?_
    refine T_bipush (32 : Int32) (by decide) dX8_mayTread_27 ?_
    refine T_iadd dX8_mayTread_29 ?_
    refine T_iald kd_82 dX8_mayTread_30 ?_
    refine T_iconst (1 : Int32) (by decide) dX8_mayTread_31 ?_
    refine T_iadd dX8_mayTread_32 ?_
    refine T_istore (lv' := [(5, .int ((m1.1 82 ((x1 + (32 : Int32))).toNatClampNeg) + (1 : Int32))), (4, .int y4), (0, .ref 81), (1, .int x1), (2, .int x2), (3, .int x3)]) (Nat.le_of_ble_eq_true rfl) rfl dX8_mayTread_33 ?_
    refine T_li (fun y5 => ?_)
    refine T_aload_n 2 rfl rfl dX8_mayTread_35 ?_
    refine T_iload_n 3 rfl rfl dX8_mayTread_36 ?_
    refine T_iload_n 5 rfl rfl dX8_mayTread_37 ?_
    refine T_cVI (c := 8) [.int x1, .int x3] [] mkX8_isBroken lmX8_158 rfl rfl (by decide) (Nat.le_of_ble_eq_true rfl) kd_81 dX8_mayTread_38 (bsX8_isBroken _ x1 x3 m1) (fun z7 m6 => ?_)
    refine T_if_ne 74 dX8_mayTread_41 (by decide) (fun _ => ?_) (fun _ => ?_)
    · refine T_aload_n 2 rfl rfl dX8_mayTread_44 ?_
      refine gRX8_13 rfl kd_81 83 rfl dX8_mayTread_45 ?_
      refine T_iload_n 5 rfl rfl dX8_mayTread_48 ?_
      refine T_iald kd_83 dX8_mayTread_49 ?_
      refine T_iconst (3 : Int32) (by decide) dX8_mayTread_50 ?_
      refine T_icmp_eq 70 dX8_mayTread_51 (by decide) (fun _ => ?_) (fun _ => ?_)
      · refine T_iconst (1 : Int32) (by decide) dX8_mayTread_70 ?_
        refine T_goto 75 dX8_mayTread_71 (by decide) ?_
        exact T_zretc (by decide) rfl dX8_mayTread_75
      · refine T_iload 1 rfl dX8_mayTread_54 ?_
        refine T_i2l dX8_mayTread_56 ?_
        refine T_iload 0 rfl dX8_mayTread_57 ?_
        refine T_ineg dX8_mayTread_59 ?_
        refine T_i2l dX8_mayTread_60 ?_
        refine T_iload 0 rfl dX8_mayTread_61 ?_
        refine T_i2l dX8_mayTread_63 ?_
        refine T_cSI [.long (y4).toInt64, .long ((-y5)).toInt64, .long (y5).toInt64] [] mkX8_in lmX8_67 rfl (by decide) (Nat.le_of_ble_eq_true rfl) dX8_mayTread_64 (bsX8_in _ (y4).toInt64 ((-y5)).toInt64 (y5).toInt64 m6) (fun z10 m9 => ?_)
        refine T_if_eq 74 dX8_mayTread_67 (by decide) (fun _ => ?_) (fun _ => ?_)
        · refine T_iconst (0 : Int32) (by decide) dX8_mayTread_74 ?_
          exact T_zretc (by decide) rfl dX8_mayTread_75
        · refine T_iconst (1 : Int32) (by decide) dX8_mayTread_70 ?_
          refine T_goto 75 dX8_mayTread_71 (by decide) ?_
          exact T_zretc (by decide) rfl dX8_mayTread_75
    · refine T_iconst (0 : Int32) (by decide) dX8_mayTread_74 ?_
      exact T_zretc (by decide) rfl dX8_mayTread_75)
theorem lmX8_172 : Cond.methodLink RX8 172 yX8_isStep ∈ gdL := gd_mem 1055 (by decide +kernel) (by decide +kernel)
def fX8_step (x1 : Int32) (x2 : Int32) (m : mMem) : mR := bI (fX8_isStep x1 m) (fun z2 m1 => if z2 = (0 : Int32) then some (some (.int (-1 : Int32)), m1) else if x2 = (0 : Int32) then ga x1 10 (some (some (.int (m1.1 83 (x1).toNatClampNeg)), m1)) else if x2 = (1 : Int32) then ga ((2 : Int32) * x1) 210 (some (some (.int (m1.1 82 (((2 : Int32) * x1)).toNatClampNeg)), m1)) else if x2 = (2 : Int32) then ga (((2 : Int32) * x1) + (1 : Int32)) 210 (some (some (.int (m1.1 82 ((((2 : Int32) * x1) + (1 : Int32))).toNatClampNeg)), m1)) else if x2 = (3 : Int32) then bI (fX8_rankOn (0 : Int32) x1 m1) (fun z5 m4 => some (some (.int z5), m4)) else if x2 = (4 : Int32) then bI (fX8_isBroken (0 : Int32) x1 m1) (fun z8 m7 => if z8 = (0 : Int32) then some (some (.int (0 : Int32)), m7) else some (some (.int (1 : Int32)), m7)) else some (some (.int (-1 : Int32)), m1))
set_option maxRecDepth 100000 in
theorem bsX8_step (l : Launch) (x1 : Int32) (x2 : Int32) (m : mMem)  : BS l qX8_step [.ref 81, .int x1, .int x2] m (fX8_step x1 x2 m) := BS_of (by decide) (Nat.le_of_ble_eq_true rfl) (fun X _ => by
    show T qX8_step X (fX8_step x1 x2 m) 0 [(0, .ref 81), (1, .int x1), (2, .int x2)] [] m
    unfold fX8_step
    refine T_aload_n 0 rfl rfl dX8_step_0 ?_
    refine T_iload_n 1 rfl rfl dX8_step_1 ?_
    refine T_cVI (c := 8) [.int x1] [] mkX8_isStep lmX8_172 rfl rfl (by decide) (Nat.le_of_ble_eq_true rfl) kd_81 dX8_step_2 (bsX8_isStep _ x1 m) (fun z2 m1 => ?_)
    refine T_if_ne 10 dX8_step_5 (by decide) (fun _ => ?_) (fun _ => ?_)
    · refine T_iconst (-1 : Int32) (by decide) dX8_step_8 ?_
      exact T_iret rfl dX8_step_9
    · refine T_iload_n 2 rfl rfl dX8_step_10 ?_
      refine T_ite (fun hc => ?_) (fun hn0 => ?_)
      · refine T_tsIn (0 : Int32) 44 hc dX8_step_11 (by decide) (by decide) rfl (by decide) ?_
        refine T_aload_n 0 rfl rfl dX8_step_44 ?_
        refine gRX8_13 rfl kd_81 83 rfl dX8_step_45 ?_
        refine T_iload_n 1 rfl rfl dX8_step_48 ?_
        refine T_iald kd_83 dX8_step_49 ?_
        exact T_iret rfl dX8_step_50
      · refine T_ite (fun hc => ?_) (fun hn1 => ?_)
        · refine T_tsIn (1 : Int32) 51 hc dX8_step_11 (by decide) (by decide) rfl (by decide) ?_
          refine T_aload_n 0 rfl rfl dX8_step_51 ?_
          refine gRX8_7 rfl kd_81 82 rfl dX8_step_52 ?_
          refine T_iconst (2 : Int32) (by decide) dX8_step_55 ?_
          refine T_iload_n 1 rfl rfl dX8_step_56 ?_
          refine T_imul dX8_step_57 ?_
          refine T_iald kd_82 dX8_step_58 ?_
          exact T_iret rfl dX8_step_59
        · refine T_ite (fun hc => ?_) (fun hn2 => ?_)
          · refine T_tsIn (2 : Int32) 60 hc dX8_step_11 (by decide) (by decide) rfl (by decide) ?_
            refine T_aload_n 0 rfl rfl dX8_step_60 ?_
            refine gRX8_7 rfl kd_81 82 rfl dX8_step_61 ?_
            refine T_iconst (2 : Int32) (by decide) dX8_step_64 ?_
            refine T_iload_n 1 rfl rfl dX8_step_65 ?_
            refine T_imul dX8_step_66 ?_
            refine T_iconst (1 : Int32) (by decide) dX8_step_67 ?_
            refine T_iadd dX8_step_68 ?_
            refine T_iald kd_82 dX8_step_69 ?_
            exact T_iret rfl dX8_step_70
          · refine T_ite (fun hc => ?_) (fun hn3 => ?_)
            · refine T_tsIn (3 : Int32) 71 hc dX8_step_11 (by decide) (by decide) rfl (by decide) ?_
              refine T_aload_n 0 rfl rfl dX8_step_71 ?_
              refine T_iconst (0 : Int32) (by decide) dX8_step_72 ?_
              refine T_iload_n 1 rfl rfl dX8_step_73 ?_
              refine T_cVI (c := 8) [.int (0 : Int32), .int x1] [] mkX8_rankOn lmX8_162 rfl rfl (by decide) (Nat.le_of_ble_eq_true rfl) kd_81 dX8_step_74 (bsX8_rankOn _ (0 : Int32) x1 m1) (fun z5 m4 => ?_)
              exact T_iret rfl dX8_step_77
            · refine T_ite (fun hc => ?_) (fun hn4 => ?_)
              · refine T_tsIn (4 : Int32) 78 hc dX8_step_11 (by decide) (by decide) rfl (by decide) ?_
                refine T_aload_n 0 rfl rfl dX8_step_78 ?_
                refine T_iconst (0 : Int32) (by decide) dX8_step_79 ?_
                refine T_iload_n 1 rfl rfl dX8_step_80 ?_
                refine T_cVI (c := 8) [.int (0 : Int32), .int x1] [] mkX8_isBroken lmX8_158 rfl rfl (by decide) (Nat.le_of_ble_eq_true rfl) kd_81 dX8_step_81 (bsX8_isBroken _ (0 : Int32) x1 m1) (fun z8 m7 => ?_)
                refine T_if_eq 91 dX8_step_84 (by decide) (fun _ => ?_) (fun _ => ?_)
                · refine T_iconst (0 : Int32) (by decide) dX8_step_91 ?_
                  exact T_iret rfl dX8_step_92
                · refine T_iconst (1 : Int32) (by decide) dX8_step_87 ?_
                  refine T_goto 92 dX8_step_88 (by decide) ?_
                  exact T_iret rfl dX8_step_92
              · refine T_tsOut 93 (by have e0 := neT (k := 0) hn0 (by decide); have e1 := neT (k := 1) hn1 (by decide); have e2 := neT (k := 2) hn2 (by decide); have e3 := neT (k := 3) hn3 (by decide); have e4 := neT (k := 4) hn4 (by decide); omega) dX8_step_11 (by decide) ?_
                refine T_iconst (-1 : Int32) (by decide) dX8_step_93 ?_
                exact T_iret rfl dX8_step_94)
theorem lcX8_185 : Cond.constantLong RX8 185 (60) ∈ gdL := gd_mem 1095 (by decide +kernel) (by decide +kernel)
def jX8_age_26 (x1 : Int32) (x2 : Int32) (xs0 : Int32) (m : mMem) : mR := bI (fX8_sets xs0 ((2 : Int32) * x1) x2 m) (fun z5 m4 => some (some (.int z5), m4))
set_option maxRecDepth 100000 in
theorem uX8_age_26 (X : mCx) (x1 : Int32) (x2 : Int32) (xs0 : Int32) (m : mMem)  : T qX8_age X (jX8_age_26 x1 x2 xs0 m) 26 [(1, .int x1), (2, .int x2)] [.int xs0, .ref 81] m := by
  unfold jX8_age_26
  refine T_iconst (2 : Int32) (by decide) dX8_age_26 ?_
  refine T_iload_n 0 rfl rfl dX8_age_27 ?_
  refine T_imul dX8_age_28 ?_
  refine T_iload_n 1 rfl rfl dX8_age_29 ?_
  refine T_cVI (c := 8) [.int xs0, .int ((2 : Int32) * x1), .int x2] [] mkX8_sets lmX8_187 rfl rfl (by decide) (Nat.le_of_ble_eq_true rfl) kd_81 dX8_age_30 (bsX8_sets _ xs0 ((2 : Int32) * x1) x2 m) (fun z5 m4 => ?_)
  exact T_iret rfl dX8_age_33
def jX8_age_25 (x1 : Int32) (x2 : Int32) (m : mMem) : mR := jX8_age_26 x1 x2 (0 : Int32) m
set_option maxRecDepth 100000 in
theorem uX8_age_25 (X : mCx) (x1 : Int32) (x2 : Int32) (m : mMem)  : T qX8_age X (jX8_age_25 x1 x2 m) 25 [(1, .int x1), (2, .int x2)] [.ref 81] m := by
  unfold jX8_age_25
  refine T_iconst (0 : Int32) (by decide) dX8_age_25 ?_
  exact T_sub [0, 1] rfl (uX8_age_26 X x1 x2 (0 : Int32) m )
def fX8_age (x1 : Int32) (x2 : Int32) (m : mMem) : mR := bI (fX8_isStep x1 m) (fun z2 m1 => if z2 = (0 : Int32) then jX8_age_25 x1 x2 m1 else bI (fX8_in (x2).toInt64 (0 : Int64) (60 : Int64) m1) (fun z8 m7 => if z8 = (0 : Int32) then jX8_age_25 x1 x2 m7 else jX8_age_26 x1 x2 (1 : Int32) m7))
set_option maxRecDepth 100000 in
theorem bsX8_age (l : Launch) (x1 : Int32) (x2 : Int32) (m : mMem)  : BS l qX8_age [.ref 81, .int x1, .int x2] m (fX8_age x1 x2 m) := BS_of (by decide) (Nat.le_of_ble_eq_true rfl) (fun X _ => by
    show T qX8_age X (fX8_age x1 x2 m) 0 [(0, .ref 81), (1, .int x1), (2, .int x2)] [] m
    unfold fX8_age
    refine T_aload_n 0 rfl rfl dX8_age_0 ?_
    refine T_aload_n 0 rfl rfl dX8_age_1 ?_
    refine T_iload_n 1 rfl rfl dX8_age_2 ?_
    refine T_cVI (c := 8) [.int x1] [.ref 81] mkX8_isStep lmX8_172 rfl rfl (by decide) (Nat.le_of_ble_eq_true rfl) kd_81 dX8_age_3 (bsX8_isStep _ x1 m) (fun z2 m1 => ?_)
    refine T_if_eq 25 dX8_age_6 (by decide) (fun _ => ?_) (fun _ => ?_)
    · exact T_sub [1, 2] rfl (uX8_age_25 X x1 x2 m1 )
    · refine T_iload_n 2 rfl rfl dX8_age_9 ?_
      refine T_i2l dX8_age_10 ?_
      refine T_lconst (0 : Int64) (by decide) dX8_age_11 ?_
      refine T_ldc2 lcX8_185 dX8_age_12 ?_
      refine T_cSI [.long (x2).toInt64, .long (0 : Int64), .long (60 : Int64)] [.ref 81] mkX8_in lmX8_67 rfl (by decide) (Nat.le_of_ble_eq_true rfl) dX8_age_15 (bsX8_in _ (x2).toInt64 (0 : Int64) (60 : Int64) m1) (fun z8 m7 => ?_)
      refine T_if_eq 25 dX8_age_18 (by decide) (fun _ => ?_) (fun _ => ?_)
      · exact T_sub [1, 2] rfl (uX8_age_25 X x1 x2 m7 )
      · refine T_iconst (1 : Int32) (by decide) dX8_age_21 ?_
        refine T_goto 26 dX8_age_22 (by decide) ?_
        exact T_sub [1, 2] rfl (uX8_age_26 X x1 x2 (1 : Int32) m7 ))
def jX8_wear_26 (x1 : Int32) (x2 : Int32) (xs0 : Int32) (m : mMem) : mR := bI (fX8_sets xs0 (((2 : Int32) * x1) + (1 : Int32)) x2 m) (fun z5 m4 => some (some (.int z5), m4))
set_option maxRecDepth 100000 in
theorem uX8_wear_26 (X : mCx) (x1 : Int32) (x2 : Int32) (xs0 : Int32) (m : mMem)  : T qX8_wear X (jX8_wear_26 x1 x2 xs0 m) 26 [(1, .int x1), (2, .int x2)] [.int xs0, .ref 81] m := by
  unfold jX8_wear_26
  refine T_iconst (2 : Int32) (by decide) dX8_wear_26 ?_
  refine T_iload_n 0 rfl rfl dX8_wear_27 ?_
  refine T_imul dX8_wear_28 ?_
  refine T_iconst (1 : Int32) (by decide) dX8_wear_29 ?_
  refine T_iadd dX8_wear_30 ?_
  refine T_iload_n 1 rfl rfl dX8_wear_31 ?_
  refine T_cVI (c := 8) [.int xs0, .int (((2 : Int32) * x1) + (1 : Int32)), .int x2] [] mkX8_sets lmX8_187 rfl rfl (by decide) (Nat.le_of_ble_eq_true rfl) kd_81 dX8_wear_32 (bsX8_sets _ xs0 (((2 : Int32) * x1) + (1 : Int32)) x2 m) (fun z5 m4 => ?_)
  exact T_iret rfl dX8_wear_35
def jX8_wear_25 (x1 : Int32) (x2 : Int32) (m : mMem) : mR := jX8_wear_26 x1 x2 (0 : Int32) m
set_option maxRecDepth 100000 in
theorem uX8_wear_25 (X : mCx) (x1 : Int32) (x2 : Int32) (m : mMem)  : T qX8_wear X (jX8_wear_25 x1 x2 m) 25 [(1, .int x1), (2, .int x2)] [.ref 81] m := by
  unfold jX8_wear_25
  refine T_iconst (0 : Int32) (by decide) dX8_wear_25 ?_
  exact T_sub [0, 1] rfl (uX8_wear_26 X x1 x2 (0 : Int32) m )
def fX8_wear (x1 : Int32) (x2 : Int32) (m : mMem) : mR := bI (fX8_isStep x1 m) (fun z2 m1 => if z2 = (0 : Int32) then jX8_wear_25 x1 x2 m1 else bI (fX8_in (x2).toInt64 (0 : Int64) (99 : Int64) m1) (fun z8 m7 => if z8 = (0 : Int32) then jX8_wear_25 x1 x2 m7 else jX8_wear_26 x1 x2 (1 : Int32) m7))
set_option maxRecDepth 100000 in
theorem bsX8_wear (l : Launch) (x1 : Int32) (x2 : Int32) (m : mMem)  : BS l qX8_wear [.ref 81, .int x1, .int x2] m (fX8_wear x1 x2 m) := BS_of (by decide) (Nat.le_of_ble_eq_true rfl) (fun X _ => by
    show T qX8_wear X (fX8_wear x1 x2 m) 0 [(0, .ref 81), (1, .int x1), (2, .int x2)] [] m
    unfold fX8_wear
    refine T_aload_n 0 rfl rfl dX8_wear_0 ?_
    refine T_aload_n 0 rfl rfl dX8_wear_1 ?_
    refine T_iload_n 1 rfl rfl dX8_wear_2 ?_
    refine T_cVI (c := 8) [.int x1] [.ref 81] mkX8_isStep lmX8_172 rfl rfl (by decide) (Nat.le_of_ble_eq_true rfl) kd_81 dX8_wear_3 (bsX8_isStep _ x1 m) (fun z2 m1 => ?_)
    refine T_if_eq 25 dX8_wear_6 (by decide) (fun _ => ?_) (fun _ => ?_)
    · exact T_sub [1, 2] rfl (uX8_wear_25 X x1 x2 m1 )
    · refine T_iload_n 2 rfl rfl dX8_wear_9 ?_
      refine T_i2l dX8_wear_10 ?_
      refine T_lconst (0 : Int64) (by decide) dX8_wear_11 ?_
      refine T_ldc2 lcX8_191 dX8_wear_12 ?_
      refine T_cSI [.long (x2).toInt64, .long (0 : Int64), .long (99 : Int64)] [.ref 81] mkX8_in lmX8_67 rfl (by decide) (Nat.le_of_ble_eq_true rfl) dX8_wear_15 (bsX8_in _ (x2).toInt64 (0 : Int64) (99 : Int64) m1) (fun z8 m7 => ?_)
      refine T_if_eq 25 dX8_wear_18 (by decide) (fun _ => ?_) (fun _ => ?_)
      · exact T_sub [1, 2] rfl (uX8_wear_25 X x1 x2 m7 )
      · refine T_iconst (1 : Int32) (by decide) dX8_wear_21 ?_
        refine T_goto 26 dX8_wear_22 (by decide) ?_
        exact T_sub [1, 2] rfl (uX8_wear_26 X x1 x2 (1 : Int32) m7 ))
def fX8_mend (x1 : Int32) (m : mMem) : mR := bI (fX8_isStep x1 m) (fun z2 m1 => if z2 = (0 : Int32) then some (some (.int (-1 : Int32)), m1) else ga ((2 : Int32) * x1) 210 (lt (si m1 82 (((2 : Int32) * x1)).toNatClampNeg (0 : Int32)) (fun m4 => bI (fX8_sets (1 : Int32) (((2 : Int32) * x1) + (1 : Int32)) (0 : Int32) m4) (fun z6 m5 => some (some (.int z6), m5)))))
set_option maxRecDepth 100000 in
theorem bsX8_mend (l : Launch) (x1 : Int32) (m : mMem)  : BS l qX8_mend [.ref 81, .int x1] m (fX8_mend x1 m) := BS_of (by decide) (Nat.le_of_ble_eq_true rfl) (fun X _ => by
    show T qX8_mend X (fX8_mend x1 m) 0 [(0, .ref 81), (1, .int x1)] [] m
    unfold fX8_mend
    refine T_aload_n 0 rfl rfl dX8_mend_0 ?_
    refine T_iload_n 1 rfl rfl dX8_mend_1 ?_
    refine T_cVI (c := 8) [.int x1] [] mkX8_isStep lmX8_172 rfl rfl (by decide) (Nat.le_of_ble_eq_true rfl) kd_81 dX8_mend_2 (bsX8_isStep _ x1 m) (fun z2 m1 => ?_)
    refine T_if_ne 10 dX8_mend_5 (by decide) (fun _ => ?_) (fun _ => ?_)
    · refine T_iconst (-1 : Int32) (by decide) dX8_mend_8 ?_
      exact T_iret rfl dX8_mend_9
    · refine T_aload_n 0 rfl rfl dX8_mend_10 ?_
      refine gRX8_7 rfl kd_81 82 rfl dX8_mend_11 ?_
      refine T_iconst (2 : Int32) (by decide) dX8_mend_14 ?_
      refine T_iload_n 1 rfl rfl dX8_mend_15 ?_
      refine T_imul dX8_mend_16 ?_
      refine T_iconst (0 : Int32) (by decide) dX8_mend_17 ?_
      refine T_iast _ rfl kd_82 dX8_mend_18 ?_
      refine T_lt (fun m4 => ?_)
      refine T_aload_n 0 rfl rfl dX8_mend_19 ?_
      refine T_iconst (1 : Int32) (by decide) dX8_mend_20 ?_
      refine T_iconst (2 : Int32) (by decide) dX8_mend_21 ?_
      refine T_iload_n 1 rfl rfl dX8_mend_22 ?_
      refine T_imul dX8_mend_23 ?_
      refine T_iconst (1 : Int32) (by decide) dX8_mend_24 ?_
      refine T_iadd dX8_mend_25 ?_
      refine T_iconst (0 : Int32) (by decide) dX8_mend_26 ?_
      refine T_cVI (c := 8) [.int (1 : Int32), .int (((2 : Int32) * x1) + (1 : Int32)), .int (0 : Int32)] [] mkX8_sets lmX8_187 rfl rfl (by decide) (Nat.le_of_ble_eq_true rfl) kd_81 dX8_mend_27 (bsX8_sets _ (1 : Int32) (((2 : Int32) * x1) + (1 : Int32)) (0 : Int32) m4) (fun z6 m5 => ?_)
      exact T_iret rfl dX8_mend_30)
theorem lmX8_176 : Cond.methodLink RX8 176 yX8_isLodger ∈ gdL := gd_mem 1071 (by decide +kernel) (by decide +kernel)
def jX8_rank_26 (x1 : Int32) (x2 : Int32) (xs0 : Int32) (m : mMem) : mR := bI (fX8_sets xs0 ((20 : Int32) + ((3 : Int32) * x1)) x2 m) (fun z5 m4 => some (some (.int z5), m4))
set_option maxRecDepth 100000 in
theorem uX8_rank_26 (X : mCx) (x1 : Int32) (x2 : Int32) (xs0 : Int32) (m : mMem)  : T qX8_rank X (jX8_rank_26 x1 x2 xs0 m) 26 [(1, .int x1), (2, .int x2)] [.int xs0, .ref 81] m := by
  unfold jX8_rank_26
  refine T_bipush (20 : Int32) (by decide) dX8_rank_26 ?_
  refine T_iconst (3 : Int32) (by decide) dX8_rank_28 ?_
  refine T_iload_n 0 rfl rfl dX8_rank_29 ?_
  refine T_imul dX8_rank_30 ?_
  refine T_iadd dX8_rank_31 ?_
  refine T_iload_n 1 rfl rfl dX8_rank_32 ?_
  refine T_cVI (c := 8) [.int xs0, .int ((20 : Int32) + ((3 : Int32) * x1)), .int x2] [] mkX8_sets lmX8_187 rfl rfl (by decide) (Nat.le_of_ble_eq_true rfl) kd_81 dX8_rank_33 (bsX8_sets _ xs0 ((20 : Int32) + ((3 : Int32) * x1)) x2 m) (fun z5 m4 => ?_)
  exact T_iret rfl dX8_rank_36
def jX8_rank_25 (x1 : Int32) (x2 : Int32) (m : mMem) : mR := jX8_rank_26 x1 x2 (0 : Int32) m
set_option maxRecDepth 100000 in
theorem uX8_rank_25 (X : mCx) (x1 : Int32) (x2 : Int32) (m : mMem)  : T qX8_rank X (jX8_rank_25 x1 x2 m) 25 [(1, .int x1), (2, .int x2)] [.ref 81] m := by
  unfold jX8_rank_25
  refine T_iconst (0 : Int32) (by decide) dX8_rank_25 ?_
  exact T_sub [0, 1] rfl (uX8_rank_26 X x1 x2 (0 : Int32) m )
def fX8_rank (x1 : Int32) (x2 : Int32) (m : mMem) : mR := bI (fX8_isLodger x1 m) (fun z2 m1 => if z2 = (0 : Int32) then jX8_rank_25 x1 x2 m1 else bI (fX8_in (x2).toInt64 (0 : Int64) (3 : Int64) m1) (fun z8 m7 => if z8 = (0 : Int32) then jX8_rank_25 x1 x2 m7 else jX8_rank_26 x1 x2 (1 : Int32) m7))
set_option maxRecDepth 100000 in
theorem bsX8_rank (l : Launch) (x1 : Int32) (x2 : Int32) (m : mMem)  : BS l qX8_rank [.ref 81, .int x1, .int x2] m (fX8_rank x1 x2 m) := BS_of (by decide) (Nat.le_of_ble_eq_true rfl) (fun X _ => by
    show T qX8_rank X (fX8_rank x1 x2 m) 0 [(0, .ref 81), (1, .int x1), (2, .int x2)] [] m
    unfold fX8_rank
    refine T_aload_n 0 rfl rfl dX8_rank_0 ?_
    refine T_aload_n 0 rfl rfl dX8_rank_1 ?_
    refine T_iload_n 1 rfl rfl dX8_rank_2 ?_
    refine T_cVI (c := 8) [.int x1] [.ref 81] mkX8_isLodger lmX8_176 rfl rfl (by decide) (Nat.le_of_ble_eq_true rfl) kd_81 dX8_rank_3 (bsX8_isLodger _ x1 m) (fun z2 m1 => ?_)
    refine T_if_eq 25 dX8_rank_6 (by decide) (fun _ => ?_) (fun _ => ?_)
    · exact T_sub [1, 2] rfl (uX8_rank_25 X x1 x2 m1 )
    · refine T_iload_n 2 rfl rfl dX8_rank_9 ?_
      refine T_i2l dX8_rank_10 ?_
      refine T_lconst (0 : Int64) (by decide) dX8_rank_11 ?_
      refine T_ldc2 lcX8_193 dX8_rank_12 ?_
      refine T_cSI [.long (x2).toInt64, .long (0 : Int64), .long (3 : Int64)] [.ref 81] mkX8_in lmX8_67 rfl (by decide) (Nat.le_of_ble_eq_true rfl) dX8_rank_15 (bsX8_in _ (x2).toInt64 (0 : Int64) (3 : Int64) m1) (fun z8 m7 => ?_)
      refine T_if_eq 25 dX8_rank_18 (by decide) (fun _ => ?_) (fun _ => ?_)
      · exact T_sub [1, 2] rfl (uX8_rank_25 X x1 x2 m7 )
      · refine T_iconst (1 : Int32) (by decide) dX8_rank_21 ?_
        refine T_goto 26 dX8_rank_22 (by decide) ?_
        exact T_sub [1, 2] rfl (uX8_rank_26 X x1 x2 (1 : Int32) m7 ))
theorem lcX8_195 : Cond.constantLong RX8 195 (9) ∈ gdL := gd_mem 1118 (by decide +kernel) (by decide +kernel)
def jX8_load_26 (x1 : Int32) (x2 : Int32) (xs0 : Int32) (m : mMem) : mR := bI (fX8_sets xs0 (((20 : Int32) + ((3 : Int32) * x1)) + (1 : Int32)) x2 m) (fun z5 m4 => some (some (.int z5), m4))
set_option maxRecDepth 100000 in
theorem uX8_load_26 (X : mCx) (x1 : Int32) (x2 : Int32) (xs0 : Int32) (m : mMem)  : T qX8_load X (jX8_load_26 x1 x2 xs0 m) 26 [(1, .int x1), (2, .int x2)] [.int xs0, .ref 81] m := by
  unfold jX8_load_26
  refine T_bipush (20 : Int32) (by decide) dX8_load_26 ?_
  refine T_iconst (3 : Int32) (by decide) dX8_load_28 ?_
  refine T_iload_n 0 rfl rfl dX8_load_29 ?_
  refine T_imul dX8_load_30 ?_
  refine T_iadd dX8_load_31 ?_
  refine T_iconst (1 : Int32) (by decide) dX8_load_32 ?_
  refine T_iadd dX8_load_33 ?_
  refine T_iload_n 1 rfl rfl dX8_load_34 ?_
  refine T_cVI (c := 8) [.int xs0, .int (((20 : Int32) + ((3 : Int32) * x1)) + (1 : Int32)), .int x2] [] mkX8_sets lmX8_187 rfl rfl (by decide) (Nat.le_of_ble_eq_true rfl) kd_81 dX8_load_35 (bsX8_sets _ xs0 (((20 : Int32) + ((3 : Int32) * x1)) + (1 : Int32)) x2 m) (fun z5 m4 => ?_)
  exact T_iret rfl dX8_load_38
def jX8_load_25 (x1 : Int32) (x2 : Int32) (m : mMem) : mR := jX8_load_26 x1 x2 (0 : Int32) m
set_option maxRecDepth 100000 in
theorem uX8_load_25 (X : mCx) (x1 : Int32) (x2 : Int32) (m : mMem)  : T qX8_load X (jX8_load_25 x1 x2 m) 25 [(1, .int x1), (2, .int x2)] [.ref 81] m := by
  unfold jX8_load_25
  refine T_iconst (0 : Int32) (by decide) dX8_load_25 ?_
  exact T_sub [0, 1] rfl (uX8_load_26 X x1 x2 (0 : Int32) m )
def fX8_load (x1 : Int32) (x2 : Int32) (m : mMem) : mR := bI (fX8_isLodger x1 m) (fun z2 m1 => if z2 = (0 : Int32) then jX8_load_25 x1 x2 m1 else bI (fX8_in (x2).toInt64 (0 : Int64) (9 : Int64) m1) (fun z8 m7 => if z8 = (0 : Int32) then jX8_load_25 x1 x2 m7 else jX8_load_26 x1 x2 (1 : Int32) m7))
set_option maxRecDepth 100000 in
theorem bsX8_load (l : Launch) (x1 : Int32) (x2 : Int32) (m : mMem)  : BS l qX8_load [.ref 81, .int x1, .int x2] m (fX8_load x1 x2 m) := BS_of (by decide) (Nat.le_of_ble_eq_true rfl) (fun X _ => by
    show T qX8_load X (fX8_load x1 x2 m) 0 [(0, .ref 81), (1, .int x1), (2, .int x2)] [] m
    unfold fX8_load
    refine T_aload_n 0 rfl rfl dX8_load_0 ?_
    refine T_aload_n 0 rfl rfl dX8_load_1 ?_
    refine T_iload_n 1 rfl rfl dX8_load_2 ?_
    refine T_cVI (c := 8) [.int x1] [.ref 81] mkX8_isLodger lmX8_176 rfl rfl (by decide) (Nat.le_of_ble_eq_true rfl) kd_81 dX8_load_3 (bsX8_isLodger _ x1 m) (fun z2 m1 => ?_)
    refine T_if_eq 25 dX8_load_6 (by decide) (fun _ => ?_) (fun _ => ?_)
    · exact T_sub [1, 2] rfl (uX8_load_25 X x1 x2 m1 )
    · refine T_iload_n 2 rfl rfl dX8_load_9 ?_
      refine T_i2l dX8_load_10 ?_
      refine T_lconst (0 : Int64) (by decide) dX8_load_11 ?_
      refine T_ldc2 lcX8_195 dX8_load_12 ?_
      refine T_cSI [.long (x2).toInt64, .long (0 : Int64), .long (9 : Int64)] [.ref 81] mkX8_in lmX8_67 rfl (by decide) (Nat.le_of_ble_eq_true rfl) dX8_load_15 (bsX8_in _ (x2).toInt64 (0 : Int64) (9 : Int64) m1) (fun z8 m7 => ?_)
      refine T_if_eq 25 dX8_load_18 (by decide) (fun _ => ?_) (fun _ => ?_)
      · exact T_sub [1, 2] rfl (uX8_load_25 X x1 x2 m7 )
      · refine T_iconst (1 : Int32) (by decide) dX8_load_21 ?_
        refine T_goto 26 dX8_load_22 (by decide) ?_
        exact T_sub [1, 2] rfl (uX8_load_26 X x1 x2 (1 : Int32) m7 ))
def jX8_move_22 (x1 : Int32) (x2 : Int32) (xs0 : Int32) (m : mMem) : mR := bI (fX8_sets xs0 (((20 : Int32) + ((3 : Int32) * x1)) + (2 : Int32)) x2 m) (fun z5 m4 => some (some (.int z5), m4))
set_option maxRecDepth 100000 in
theorem uX8_move_22 (X : mCx) (x1 : Int32) (x2 : Int32) (xs0 : Int32) (m : mMem)  : T qX8_move X (jX8_move_22 x1 x2 xs0 m) 22 [(1, .int x1), (2, .int x2)] [.int xs0, .ref 81] m := by
  unfold jX8_move_22
  refine T_bipush (20 : Int32) (by decide) dX8_move_22 ?_
  refine T_iconst (3 : Int32) (by decide) dX8_move_24 ?_
  refine T_iload_n 0 rfl rfl dX8_move_25 ?_
  refine T_imul dX8_move_26 ?_
  refine T_iadd dX8_move_27 ?_
  refine T_iconst (2 : Int32) (by decide) dX8_move_28 ?_
  refine T_iadd dX8_move_29 ?_
  refine T_iload_n 1 rfl rfl dX8_move_30 ?_
  refine T_cVI (c := 8) [.int xs0, .int (((20 : Int32) + ((3 : Int32) * x1)) + (2 : Int32)), .int x2] [] mkX8_sets lmX8_187 rfl rfl (by decide) (Nat.le_of_ble_eq_true rfl) kd_81 dX8_move_31 (bsX8_sets _ xs0 (((20 : Int32) + ((3 : Int32) * x1)) + (2 : Int32)) x2 m) (fun z5 m4 => ?_)
  exact T_iret rfl dX8_move_34
def jX8_move_21 (x1 : Int32) (x2 : Int32) (m : mMem) : mR := jX8_move_22 x1 x2 (0 : Int32) m
set_option maxRecDepth 100000 in
theorem uX8_move_21 (X : mCx) (x1 : Int32) (x2 : Int32) (m : mMem)  : T qX8_move X (jX8_move_21 x1 x2 m) 21 [(1, .int x1), (2, .int x2)] [.ref 81] m := by
  unfold jX8_move_21
  refine T_iconst (0 : Int32) (by decide) dX8_move_21 ?_
  exact T_sub [0, 1] rfl (uX8_move_22 X x1 x2 (0 : Int32) m )
def fX8_move (x1 : Int32) (x2 : Int32) (m : mMem) : mR := bI (fX8_isLodger x1 m) (fun z2 m1 => if z2 = (0 : Int32) then jX8_move_21 x1 x2 m1 else bI (fX8_isStep x2 m1) (fun z8 m7 => if z8 = (0 : Int32) then jX8_move_21 x1 x2 m7 else jX8_move_22 x1 x2 (1 : Int32) m7))
set_option maxRecDepth 100000 in
theorem bsX8_move (l : Launch) (x1 : Int32) (x2 : Int32) (m : mMem)  : BS l qX8_move [.ref 81, .int x1, .int x2] m (fX8_move x1 x2 m) := BS_of (by decide) (Nat.le_of_ble_eq_true rfl) (fun X _ => by
    show T qX8_move X (fX8_move x1 x2 m) 0 [(0, .ref 81), (1, .int x1), (2, .int x2)] [] m
    unfold fX8_move
    refine T_aload_n 0 rfl rfl dX8_move_0 ?_
    refine T_aload_n 0 rfl rfl dX8_move_1 ?_
    refine T_iload_n 1 rfl rfl dX8_move_2 ?_
    refine T_cVI (c := 8) [.int x1] [.ref 81] mkX8_isLodger lmX8_176 rfl rfl (by decide) (Nat.le_of_ble_eq_true rfl) kd_81 dX8_move_3 (bsX8_isLodger _ x1 m) (fun z2 m1 => ?_)
    refine T_if_eq 21 dX8_move_6 (by decide) (fun _ => ?_) (fun _ => ?_)
    · exact T_sub [1, 2] rfl (uX8_move_21 X x1 x2 m1 )
    · refine T_aload_n 0 rfl rfl dX8_move_9 ?_
      refine T_iload_n 2 rfl rfl dX8_move_10 ?_
      refine T_cVI (c := 8) [.int x2] [.ref 81] mkX8_isStep lmX8_172 rfl rfl (by decide) (Nat.le_of_ble_eq_true rfl) kd_81 dX8_move_11 (bsX8_isStep _ x2 m1) (fun z8 m7 => ?_)
      refine T_if_eq 21 dX8_move_14 (by decide) (fun _ => ?_) (fun _ => ?_)
      · exact T_sub [1, 2] rfl (uX8_move_21 X x1 x2 m7 )
      · refine T_iconst (1 : Int32) (by decide) dX8_move_17 ?_
        refine T_goto 22 dX8_move_18 (by decide) ?_
        exact T_sub [1, 2] rfl (uX8_move_22 X x1 x2 (1 : Int32) m7 ))
theorem lfX8_49 : Cond.fieldLink RX8 49 "RankStairsModel" "seen" "[I" ∈ gdL := gd_mem 912 (by decide +kernel) (by decide +kernel)
theorem gRX8_49 {q : mMI} {X : mCx} {tgt : mR} {pc : Nat} {lv : List (Nat × Value)} {st : List Value} {μ : mMem} {b : Nat} (hq : q.1.cls = RX8) (hb : kd b = (8, 0)) (z : Nat) (hz : rf b 28 = z) (hd : decode q.2.1 pc = .ok (.getfield 49, 3)) (h : T q X tgt (pc + 3) lv (.ref z :: st) μ) : T q X tgt pc lv (.ref b :: st) μ := T_getR (c := 8) rfl (by decide) rfl (by decide) (by rw [hq]; exact lfX8_49) hb z hz hd h
theorem lcX8_245 : Cond.constantLong RX8 245 (40) ∈ gdL := gd_mem 1252 (by decide +kernel) (by decide +kernel)
def fX8_see (x1 : Int32) (x2 : Int32) (m : mMem) : mR := bI (fX8_isStep x1 m) (fun z2 m1 => if z2 = (0 : Int32) then some (some (.int (-1 : Int32)), m1) else bI (fX8_in (x2).toInt64 (0 : Int64) (40 : Int64) m1) (fun z5 m4 => if z5 = (0 : Int32) then some (some (.int (-1 : Int32)), m4) else if (m4.1 81 29) = (6 : Int32) then some (some (.int (-3 : Int32)), m4) else ga ((2 : Int32) * (m4.1 81 29)) 12 (lt (si m4 95 (((2 : Int32) * (m4.1 81 29))).toNatClampNeg x1) (fun m7 => ga (((2 : Int32) * (m7.1 81 29)) + (1 : Int32)) 12 (lt (si m7 95 ((((2 : Int32) * (m7.1 81 29)) + (1 : Int32))).toNatClampNeg x2) (fun m8 => lt (si m8 81 29 ((m8.1 81 29) + (1 : Int32))) (fun m9 => some (some (.int (m9.1 81 29)), m9))))))))
set_option maxRecDepth 100000 in
theorem bsX8_see (l : Launch) (x1 : Int32) (x2 : Int32) (m : mMem)  : BS l qX8_see [.ref 81, .int x1, .int x2] m (fX8_see x1 x2 m) := BS_of (by decide) (Nat.le_of_ble_eq_true rfl) (fun X _ => by
    show T qX8_see X (fX8_see x1 x2 m) 0 [(0, .ref 81), (1, .int x1), (2, .int x2)] [] m
    unfold fX8_see
    refine T_aload_n 0 rfl rfl dX8_see_0 ?_
    refine T_iload_n 1 rfl rfl dX8_see_1 ?_
    refine T_cVI (c := 8) [.int x1] [] mkX8_isStep lmX8_172 rfl rfl (by decide) (Nat.le_of_ble_eq_true rfl) kd_81 dX8_see_2 (bsX8_isStep _ x1 m) (fun z2 m1 => ?_)
    refine T_if_eq 20 dX8_see_5 (by decide) (fun _ => ?_) (fun _ => ?_)
    · refine T_iconst (-1 : Int32) (by decide) dX8_see_20 ?_
      exact T_iret rfl dX8_see_21
    · refine T_iload_n 2 rfl rfl dX8_see_8 ?_
      refine T_i2l dX8_see_9 ?_
      refine T_lconst (0 : Int64) (by decide) dX8_see_10 ?_
      refine T_ldc2 lcX8_245 dX8_see_11 ?_
      refine T_cSI [.long (x2).toInt64, .long (0 : Int64), .long (40 : Int64)] [] mkX8_in lmX8_67 rfl (by decide) (Nat.le_of_ble_eq_true rfl) dX8_see_14 (bsX8_in _ (x2).toInt64 (0 : Int64) (40 : Int64) m1) (fun z5 m4 => ?_)
      refine T_if_ne 22 dX8_see_17 (by decide) (fun _ => ?_) (fun _ => ?_)
      · refine T_iconst (-1 : Int32) (by decide) dX8_see_20 ?_
        exact T_iret rfl dX8_see_21
      · refine T_aload_n 0 rfl rfl dX8_see_22 ?_
        refine gIX8_149 rfl kd_81 dX8_see_23 ?_
        refine T_bipush (6 : Int32) (by decide) dX8_see_26 ?_
        refine T_icmp_ne 34 dX8_see_28 (by decide) (fun _ => ?_) (fun _ => ?_)
        · refine T_bipush (-3 : Int32) (by decide) dX8_see_31 ?_
          exact T_iret rfl dX8_see_33
        · refine T_aload_n 0 rfl rfl dX8_see_34 ?_
          refine gRX8_49 rfl kd_81 95 rfl dX8_see_35 ?_
          refine T_iconst (2 : Int32) (by decide) dX8_see_38 ?_
          refine T_aload_n 0 rfl rfl dX8_see_39 ?_
          refine gIX8_149 rfl kd_81 dX8_see_40 ?_
          refine T_imul dX8_see_43 ?_
          refine T_iload_n 1 rfl rfl dX8_see_44 ?_
          refine T_iast _ rfl kd_95 dX8_see_45 ?_
          refine T_lt (fun m7 => ?_)
          refine T_aload_n 0 rfl rfl dX8_see_46 ?_
          refine gRX8_49 rfl kd_81 95 rfl dX8_see_47 ?_
          refine T_iconst (2 : Int32) (by decide) dX8_see_50 ?_
          refine T_aload_n 0 rfl rfl dX8_see_51 ?_
          refine gIX8_149 rfl kd_81 dX8_see_52 ?_
          refine T_imul dX8_see_55 ?_
          refine T_iconst (1 : Int32) (by decide) dX8_see_56 ?_
          refine T_iadd dX8_see_57 ?_
          refine T_iload_n 2 rfl rfl dX8_see_58 ?_
          refine T_iast _ rfl kd_95 dX8_see_59 ?_
          refine T_lt (fun m8 => ?_)
          refine T_aload_n 0 rfl rfl dX8_see_60 ?_
          refine T_dup rfl dX8_see_61 ?_
          refine gIX8_149 rfl kd_81 dX8_see_62 ?_
          refine T_iconst (1 : Int32) (by decide) dX8_see_65 ?_
          refine T_iadd dX8_see_66 ?_
          refine pIX8_149 rfl rfl rfl kd_81 dX8_see_67 ?_
          refine T_lt (fun m9 => ?_)
          refine T_aload_n 0 rfl rfl dX8_see_70 ?_
          refine gIX8_149 rfl kd_81 dX8_see_71 ?_
          exact T_iret rfl dX8_see_74)
theorem lmX8_115 : Cond.methodLink RX8 115 yX8_number ∈ gdL := gd_mem 1035 (by decide +kernel) (by decide +kernel)
theorem lfX8_19 : Cond.fieldLink RX8 19 "RankStairsModel" "readPage" "[I" ∈ gdL := gd_mem 890 (by decide +kernel) (by decide +kernel)
theorem gRX8_19 {q : mMI} {X : mCx} {tgt : mR} {pc : Nat} {lv : List (Nat × Value)} {st : List Value} {μ : mMem} {b : Nat} (hq : q.1.cls = RX8) (hb : kd b = (8, 0)) (z : Nat) (hz : rf b 6 = z) (hd : decode q.2.1 pc = .ok (.getfield 19, 3)) (h : T q X tgt (pc + 3) lv (.ref z :: st) μ) : T q X tgt pc lv (.ref b :: st) μ := T_getR (c := 8) rfl (by decide) rfl (by decide) (by rw [hq]; exact lfX8_19) hb z hz hd h
theorem lfX8_22 : Cond.fieldLink RX8 22 "RankStairsModel" "readKinds" "[I" ∈ gdL := gd_mem 891 (by decide +kernel) (by decide +kernel)
theorem gRX8_22 {q : mMI} {X : mCx} {tgt : mR} {pc : Nat} {lv : List (Nat × Value)} {st : List Value} {μ : mMem} {b : Nat} (hq : q.1.cls = RX8) (hb : kd b = (8, 0)) (z : Nat) (hz : rf b 7 = z) (hd : decode q.2.1 pc = .ok (.getfield 22, 3)) (h : T q X tgt (pc + 3) lv (.ref z :: st) μ) : T q X tgt pc lv (.ref b :: st) μ := T_getR (c := 8) rfl (by decide) rfl (by decide) (by rw [hq]; exact lfX8_22) hb z hz hd h
theorem lfX8_25 : Cond.fieldLink RX8 25 "RankStairsModel" "readLegs" "[I" ∈ gdL := gd_mem 892 (by decide +kernel) (by decide +kernel)
theorem gRX8_25 {q : mMI} {X : mCx} {tgt : mR} {pc : Nat} {lv : List (Nat × Value)} {st : List Value} {μ : mMem} {b : Nat} (hq : q.1.cls = RX8) (hb : kd b = (8, 0)) (z : Nat) (hz : rf b 8 = z) (hd : decode q.2.1 pc = .ok (.getfield 25, 3)) (h : T q X tgt (pc + 3) lv (.ref z :: st) μ) : T q X tgt pc lv (.ref b :: st) μ := T_getR (c := 8) rfl (by decide) rfl (by decide) (by rw [hq]; exact lfX8_25) hb z hz hd h
theorem lfX8_112 : Cond.fieldLink RX8 112 "RankStairsModel" "readSteps" "I" ∈ gdL := gd_mem 893 (by decide +kernel) (by decide +kernel)
theorem gIX8_112 {q : mMI} {X : mCx} {tgt : mR} {pc : Nat} {lv : List (Nat × Value)} {st : List Value} {μ : mMem} {b : Nat} (hq : q.1.cls = RX8) (hb : kd b = (8, 0)) (hd : decode q.2.1 pc = .ok (.getfield 112, 3)) (h : T q X tgt (pc + 3) lv (.int (μ.1 b 9) :: st) μ) : T q X tgt pc lv (.ref b :: st) μ := T_getI (c := 8) rfl (by decide) rfl (by decide) (by rw [hq]; exact lfX8_112) hb hd h
theorem pIX8_112 {q : mMI} {X : mCx} {tgt : mR} {pc : Nat} {lv : List (Nat × Value)} {st : List Value} {μ : mMem} {b : Nat} {x : Int32} (hq : q.1.cls = RX8) (hn : narrow .int (.int x) = .int x) (hfit : fits .int (.int x) = true) (hb : kd b = (8, 0)) (hd : decode q.2.1 pc = .ok (.putfield 112, 3)) (h : T q X tgt (pc + 3) lv st (si μ b 9 x)) : T q X tgt pc lv (.int x :: .ref b :: st) μ := T_put (c := 8) rfl (by decide) rfl (by decide) (by rw [hq]; exact lfX8_112) (by decide) hn hfit hb hd h
theorem lfX8_119 : Cond.fieldLink RX8 119 "RankStairsModel" "readLodgers" "I" ∈ gdL := gd_mem 894 (by decide +kernel) (by decide +kernel)
theorem gIX8_119 {q : mMI} {X : mCx} {tgt : mR} {pc : Nat} {lv : List (Nat × Value)} {st : List Value} {μ : mMem} {b : Nat} (hq : q.1.cls = RX8) (hb : kd b = (8, 0)) (hd : decode q.2.1 pc = .ok (.getfield 119, 3)) (h : T q X tgt (pc + 3) lv (.int (μ.1 b 10) :: st) μ) : T q X tgt pc lv (.ref b :: st) μ := T_getI (c := 8) rfl (by decide) rfl (by decide) (by rw [hq]; exact lfX8_119) hb hd h
theorem pIX8_119 {q : mMI} {X : mCx} {tgt : mR} {pc : Nat} {lv : List (Nat × Value)} {st : List Value} {μ : mMem} {b : Nat} {x : Int32} (hq : q.1.cls = RX8) (hn : narrow .int (.int x) = .int x) (hfit : fits .int (.int x) = true) (hb : kd b = (8, 0)) (hd : decode q.2.1 pc = .ok (.putfield 119, 3)) (h : T q X tgt (pc + 3) lv st (si μ b 10 x)) : T q X tgt pc lv (.int x :: .ref b :: st) μ := T_put (c := 8) rfl (by decide) rfl (by decide) (by rw [hq]; exact lfX8_119) (by decide) hn hfit hb hd h
theorem lfX8_122 : Cond.fieldLink RX8 122 "RankStairsModel" "highFloor" "I" ∈ gdL := gd_mem 896 (by decide +kernel) (by decide +kernel)
theorem gIX8_122 {q : mMI} {X : mCx} {tgt : mR} {pc : Nat} {lv : List (Nat × Value)} {st : List Value} {μ : mMem} {b : Nat} (hq : q.1.cls = RX8) (hb : kd b = (8, 0)) (hd : decode q.2.1 pc = .ok (.getfield 122, 3)) (h : T q X tgt (pc + 3) lv (.int (μ.1 b 12) :: st) μ) : T q X tgt pc lv (.ref b :: st) μ := T_getI (c := 8) rfl (by decide) rfl (by decide) (by rw [hq]; exact lfX8_122) hb hd h
theorem pIX8_122 {q : mMI} {X : mCx} {tgt : mR} {pc : Nat} {lv : List (Nat × Value)} {st : List Value} {μ : mMem} {b : Nat} {x : Int32} (hq : q.1.cls = RX8) (hn : narrow .int (.int x) = .int x) (hfit : fits .int (.int x) = true) (hb : kd b = (8, 0)) (hd : decode q.2.1 pc = .ok (.putfield 122, 3)) (h : T q X tgt (pc + 3) lv st (si μ b 12 x)) : T q X tgt pc lv (.int x :: .ref b :: st) μ := T_put (c := 8) rfl (by decide) rfl (by decide) (by rw [hq]; exact lfX8_122) (by decide) hn hfit hb hd h
def fX8_readMore (x1 : Int32) (m : mMem) : mR := if (3 : Int32) < x1 then if x1 = (4 : Int32) then li ((20 : Int32) + ((3 : Int32) * (m.1 81 10))) (fun y1 => bI (fX8_number (1 : Int32) (4 : Int32) m) (fun z3 m2 => ga (m.1 81 10) 4 (lt (si m2 87 ((m.1 81 10)).toNatClampNeg z3) (fun m5 => bI (fX8_number (0 : Int32) (3 : Int32) m5) (fun z7 m6 => ga y1 35 (lt (si m6 85 (y1).toNatClampNeg z7) (fun m9 => bI (fX8_number (0 : Int32) (9 : Int32) m9) (fun z11 m10 => ga (y1 + (1 : Int32)) 35 (lt (si m10 85 ((y1 + (1 : Int32))).toNatClampNeg z11) (fun m13 => bI (fX8_number (0 : Int32) (9 : Int32) m13) (fun z15 m14 => ga (y1 + (2 : Int32)) 35 (lt (si m14 85 ((y1 + (2 : Int32))).toNatClampNeg z15) (fun m17 => ga (y1 + (2 : Int32)) 35 (if (m17.1 85 ((y1 + (2 : Int32))).toNatClampNeg) ≤ (m17.1 81 12) then lt (si m17 81 12 (m17.1 81 12)) (fun m18 => lt (si m18 81 10 ((m18.1 81 10) + (1 : Int32))) (fun m19 => some (none, m19))) else ga (y1 + (2 : Int32)) 35 (lt (si m17 81 12 (m17.1 85 ((y1 + (2 : Int32))).toNatClampNeg)) (fun m20 => lt (si m20 81 10 ((m20.1 81 10) + (1 : Int32))) (fun m21 => some (none, m21)))))))))))))))))) else if x1 = (5 : Int32) then bI (fX8_number (0 : Int32) (3 : Int32) m) (fun z23 m22 => ga (32 : Int32) 35 (lt (si m22 85 ((32 : Int32)).toNatClampNeg (z23 - (1 : Int32))) (fun m25 => some (none, m25)))) else bI (fX8_number (1 : Int32) (99 : Int32) m) (fun z27 m26 => ga (33 : Int32) 35 (lt (si m26 85 ((33 : Int32)).toNatClampNeg (z27 - (30 : Int32))) (fun m29 => some (none, m29)))) else ga (m.1 81 9) 10 (lt (si m 86 ((m.1 81 9)).toNatClampNeg x1) (fun m30 => bI (fX8_number (0 : Int32) (60 : Int32) m30) (fun z32 m31 => ga ((2 : Int32) * (m30.1 81 9)) 35 (lt (si m31 85 (((2 : Int32) * (m30.1 81 9))).toNatClampNeg z32) (fun m34 => bI (fX8_number (0 : Int32) (99 : Int32) m34) (fun z36 m35 => ga (((2 : Int32) * (m34.1 81 9)) + (1 : Int32)) 35 (lt (si m35 85 ((((2 : Int32) * (m34.1 81 9)) + (1 : Int32))).toNatClampNeg z36) (fun m38 => lt (si m38 81 9 ((m38.1 81 9) + (1 : Int32))) (fun m39 => some (none, m39))))))))))
set_option maxRecDepth 100000 in
theorem bsX8_readMore (l : Launch) (x1 : Int32) (m : mMem)  : BS l qX8_readMore [.ref 81, .int x1] m (fX8_readMore x1 m) := BS_of (by decide) (Nat.le_of_ble_eq_true rfl) (fun X _ => by
    show T qX8_readMore X (fX8_readMore x1 m) 0 [(0, .ref 81), (1, .int x1)] [] m
    unfold fX8_readMore
    refine T_iload_n 1 rfl rfl dX8_readMore_0 ?_
    refine T_iconst (3 : Int32) (by decide) dX8_readMore_1 ?_
    refine T_icmp_gt 66 dX8_readMore_2 (by decide) (fun _ => ?_) (fun _ => ?_)
    · refine T_iload_n 1 rfl rfl dX8_readMore_66 ?_
      refine T_iconst (4 : Int32) (by decide) dX8_readMore_67 ?_
      refine T_icmp_ne 185 dX8_readMore_68 (by decide) (fun _ => ?_) (fun _ => ?_)
      · refine T_bipush (20 : Int32) (by decide) dX8_readMore_71 ?_
        refine T_iconst (3 : Int32) (by decide) dX8_readMore_73 ?_
        refine T_aload_n 0 rfl rfl dX8_readMore_74 ?_
        refine gIX8_119 rfl kd_81 dX8_readMore_75 ?_
        refine T_imul dX8_readMore_78 ?_
        refine T_iadd dX8_readMore_79 ?_
        refine T_istore_n (lv' := [(2, .int ((20 : Int32) + ((3 : Int32) * (m.1 81 10)))), (0, .ref 81), (1, .int x1)]) rfl (Nat.le_of_ble_eq_true rfl) rfl dX8_readMore_80 ?_
        refine T_li (fun y1 => ?_)
        refine T_aload_n 1 rfl rfl dX8_readMore_81 ?_
        refine gRX8_25 rfl kd_81 87 rfl dX8_readMore_82 ?_
        refine T_aload_n 1 rfl rfl dX8_readMore_85 ?_
        refine gIX8_119 rfl kd_81 dX8_readMore_86 ?_
        refine T_aload_n 1 rfl rfl dX8_readMore_89 ?_
        refine T_iconst (1 : Int32) (by decide) dX8_readMore_90 ?_
        refine T_iconst (4 : Int32) (by decide) dX8_readMore_91 ?_
        refine T_cVI (c := 8) [.int (1 : Int32), .int (4 : Int32)] [.int (m.1 81 10), .ref 87] mkX8_number lmX8_115 rfl rfl (by decide) (Nat.le_of_ble_eq_true rfl) kd_81 dX8_readMore_92 (bsX8_number _ (1 : Int32) (4 : Int32) m) (fun z3 m2 => ?_)
        refine T_iast _ rfl kd_87 dX8_readMore_95 ?_
        refine T_lt (fun m5 => ?_)
        refine T_aload_n 1 rfl rfl dX8_readMore_96 ?_
        refine gRX8_19 rfl kd_81 85 rfl dX8_readMore_97 ?_
        refine T_iload_n 0 rfl rfl dX8_readMore_100 ?_
        refine T_aload_n 1 rfl rfl dX8_readMore_101 ?_
        refine T_iconst (0 : Int32) (by decide) dX8_readMore_102 ?_
        refine T_iconst (3 : Int32) (by decide) dX8_readMore_103 ?_
        refine T_cVI (c := 8) [.int (0 : Int32), .int (3 : Int32)] [.int y1, .ref 85] mkX8_number lmX8_115 rfl rfl (by decide) (Nat.le_of_ble_eq_true rfl) kd_81 dX8_readMore_104 (bsX8_number _ (0 : Int32) (3 : Int32) m5) (fun z7 m6 => ?_)
        refine T_iast _ rfl kd_85 dX8_readMore_107 ?_
        refine T_lt (fun m9 => ?_)
        refine T_aload_n 1 rfl rfl dX8_readMore_108 ?_
        refine gRX8_19 rfl kd_81 85 rfl dX8_readMore_109 ?_
        refine T_iload_n 0 rfl rfl dX8_readMore_112 ?_
        refine T_iconst (1 : Int32) (by decide) dX8_readMore_113 ?_
        refine T_iadd dX8_readMore_114 ?_
        refine T_aload_n 1 rfl rfl dX8_readMore_115 ?_
        refine T_iconst (0 : Int32) (by decide) dX8_readMore_116 ?_
        refine T_bipush (9 : Int32) (by decide) dX8_readMore_117 ?_
        refine T_cVI (c := 8) [.int (0 : Int32), .int (9 : Int32)] [.int (y1 + (1 : Int32)), .ref 85] mkX8_number lmX8_115 rfl rfl (by decide) (Nat.le_of_ble_eq_true rfl) kd_81 dX8_readMore_119 (bsX8_number _ (0 : Int32) (9 : Int32) m9) (fun z11 m10 => ?_)
        refine T_iast _ rfl kd_85 dX8_readMore_122 ?_
        refine T_lt (fun m13 => ?_)
        refine T_aload_n 1 rfl rfl dX8_readMore_123 ?_
        refine gRX8_19 rfl kd_81 85 rfl dX8_readMore_124 ?_
        refine T_iload_n 0 rfl rfl dX8_readMore_127 ?_
        refine T_iconst (2 : Int32) (by decide) dX8_readMore_128 ?_
        refine T_iadd dX8_readMore_129 ?_
        refine T_aload_n 1 rfl rfl dX8_readMore_130 ?_
        refine T_iconst (0 : Int32) (by decide) dX8_readMore_131 ?_
        refine T_bipush (9 : Int32) (by decide) dX8_readMore_132 ?_
        refine T_cVI (c := 8) [.int (0 : Int32), .int (9 : Int32)] [.int (y1 + (2 : Int32)), .ref 85] mkX8_number lmX8_115 rfl rfl (by decide) (Nat.le_of_ble_eq_true rfl) kd_81 dX8_readMore_134 (bsX8_number _ (0 : Int32) (9 : Int32) m13) (fun z15 m14 => ?_)
        refine T_iast _ rfl kd_85 dX8_readMore_137 ?_
        refine T_lt (fun m17 => ?_)
        refine T_aload_n 1 rfl rfl dX8_readMore_138 ?_
        refine T_aload_n 1 rfl rfl dX8_readMore_139 ?_
        refine gRX8_19 rfl kd_81 85 rfl dX8_readMore_140 ?_
        refine T_iload_n 0 rfl rfl dX8_readMore_143 ?_
        refine T_iconst (2 : Int32) (by decide) dX8_readMore_144 ?_
        refine T_iadd dX8_readMore_145 ?_
        refine T_iald kd_85 dX8_readMore_146 ?_
        refine T_aload_n 1 rfl rfl dX8_readMore_147 ?_
        refine gIX8_122 rfl kd_81 dX8_readMore_148 ?_
        refine T_icmp_le 165 dX8_readMore_151 (by decide) (fun _ => ?_) (fun _ => ?_)
        · refine T_aload_n 1 rfl rfl dX8_readMore_165 ?_
          refine gIX8_122 rfl kd_81 dX8_readMore_166 ?_
          refine pIX8_122 rfl rfl rfl kd_81 dX8_readMore_169 ?_
          refine T_lt (fun m18 => ?_)
          refine T_aload_n 1 rfl rfl dX8_readMore_172 ?_
          refine T_dup rfl dX8_readMore_173 ?_
          refine gIX8_119 rfl kd_81 dX8_readMore_174 ?_
          refine T_iconst (1 : Int32) (by decide) dX8_readMore_177 ?_
          refine T_iadd dX8_readMore_178 ?_
          refine pIX8_119 rfl rfl rfl kd_81 dX8_readMore_179 ?_
          refine T_lt (fun m19 => ?_)
          refine T_goto 225 dX8_readMore_182 (by decide) ?_
          exact T_vret rfl dX8_readMore_225
        · refine T_aload_n 1 rfl rfl dX8_readMore_154 ?_
          refine gRX8_19 rfl kd_81 85 rfl dX8_readMore_155 ?_
          refine T_iload_n 0 rfl rfl dX8_readMore_158 ?_
          refine T_iconst (2 : Int32) (by decide) dX8_readMore_159 ?_
          refine T_iadd dX8_readMore_160 ?_
          refine T_iald kd_85 dX8_readMore_161 ?_
          refine T_goto 169 dX8_readMore_162 (by decide) ?_
          refine pIX8_122 rfl rfl rfl kd_81 dX8_readMore_169 ?_
          refine T_lt (fun m20 => ?_)
          refine T_aload_n 1 rfl rfl dX8_readMore_172 ?_
          refine T_dup rfl dX8_readMore_173 ?_
          refine gIX8_119 rfl kd_81 dX8_readMore_174 ?_
          refine T_iconst (1 : Int32) (by decide) dX8_readMore_177 ?_
          refine T_iadd dX8_readMore_178 ?_
          refine pIX8_119 rfl rfl rfl kd_81 dX8_readMore_179 ?_
          refine T_lt (fun m21 => ?_)
          refine T_goto 225 dX8_readMore_182 (by decide) ?_
          exact T_vret rfl dX8_readMore_225
      · refine T_iload_n 1 rfl rfl dX8_readMore_185 ?_
        refine T_iconst (5 : Int32) (by decide) dX8_readMore_186 ?_
        refine T_icmp_ne 208 dX8_readMore_187 (by decide) (fun _ => ?_) (fun _ => ?_)
        · refine T_aload_n 0 rfl rfl dX8_readMore_190 ?_
          refine gRX8_19 rfl kd_81 85 rfl dX8_readMore_191 ?_
          refine T_bipush (32 : Int32) (by decide) dX8_readMore_194 ?_
          refine T_aload_n 0 rfl rfl dX8_readMore_196 ?_
          refine T_iconst (0 : Int32) (by decide) dX8_readMore_197 ?_
          refine T_iconst (3 : Int32) (by decide) dX8_readMore_198 ?_
          refine T_cVI (c := 8) [.int (0 : Int32), .int (3 : Int32)] [.int (32 : Int32), .ref 85] mkX8_number lmX8_115 rfl rfl (by decide) (Nat.le_of_ble_eq_true rfl) kd_81 dX8_readMore_199 (bsX8_number _ (0 : Int32) (3 : Int32) m) (fun z23 m22 => ?_)
          refine T_iconst (1 : Int32) (by decide) dX8_readMore_202 ?_
          refine T_isub dX8_readMore_203 ?_
          refine T_iast _ rfl kd_85 dX8_readMore_204 ?_
          refine T_lt (fun m25 => ?_)
          refine T_goto 225 dX8_readMore_205 (by decide) ?_
          exact T_vret rfl dX8_readMore_225
        · refine T_aload_n 0 rfl rfl dX8_readMore_208 ?_
          refine gRX8_19 rfl kd_81 85 rfl dX8_readMore_209 ?_
          refine T_bipush (33 : Int32) (by decide) dX8_readMore_212 ?_
          refine T_aload_n 0 rfl rfl dX8_readMore_214 ?_
          refine T_iconst (1 : Int32) (by decide) dX8_readMore_215 ?_
          refine T_bipush (99 : Int32) (by decide) dX8_readMore_216 ?_
          refine T_cVI (c := 8) [.int (1 : Int32), .int (99 : Int32)] [.int (33 : Int32), .ref 85] mkX8_number lmX8_115 rfl rfl (by decide) (Nat.le_of_ble_eq_true rfl) kd_81 dX8_readMore_218 (bsX8_number _ (1 : Int32) (99 : Int32) m) (fun z27 m26 => ?_)
          refine T_bipush (30 : Int32) (by decide) dX8_readMore_221 ?_
          refine T_isub dX8_readMore_223 ?_
          refine T_iast _ rfl kd_85 dX8_readMore_224 ?_
          refine T_lt (fun m29 => ?_)
          exact T_vret rfl dX8_readMore_225
    · refine T_aload_n 0 rfl rfl dX8_readMore_5 ?_
      refine gRX8_22 rfl kd_81 86 rfl dX8_readMore_6 ?_
      refine T_aload_n 0 rfl rfl dX8_readMore_9 ?_
      refine gIX8_112 rfl kd_81 dX8_readMore_10 ?_
      refine T_iload_n 1 rfl rfl dX8_readMore_13 ?_
      refine T_iast _ rfl kd_86 dX8_readMore_14 ?_
      refine T_lt (fun m30 => ?_)
      refine T_aload_n 0 rfl rfl dX8_readMore_15 ?_
      refine gRX8_19 rfl kd_81 85 rfl dX8_readMore_16 ?_
      refine T_iconst (2 : Int32) (by decide) dX8_readMore_19 ?_
      refine T_aload_n 0 rfl rfl dX8_readMore_20 ?_
      refine gIX8_112 rfl kd_81 dX8_readMore_21 ?_
      refine T_imul dX8_readMore_24 ?_
      refine T_aload_n 0 rfl rfl dX8_readMore_25 ?_
      refine T_iconst (0 : Int32) (by decide) dX8_readMore_26 ?_
      refine T_bipush (60 : Int32) (by decide) dX8_readMore_27 ?_
      refine T_cVI (c := 8) [.int (0 : Int32), .int (60 : Int32)] [.int ((2 : Int32) * (m30.1 81 9)), .ref 85] mkX8_number lmX8_115 rfl rfl (by decide) (Nat.le_of_ble_eq_true rfl) kd_81 dX8_readMore_29 (bsX8_number _ (0 : Int32) (60 : Int32) m30) (fun z32 m31 => ?_)
      refine T_iast _ rfl kd_85 dX8_readMore_32 ?_
      refine T_lt (fun m34 => ?_)
      refine T_aload_n 0 rfl rfl dX8_readMore_33 ?_
      refine gRX8_19 rfl kd_81 85 rfl dX8_readMore_34 ?_
      refine T_iconst (2 : Int32) (by decide) dX8_readMore_37 ?_
      refine T_aload_n 0 rfl rfl dX8_readMore_38 ?_
      refine gIX8_112 rfl kd_81 dX8_readMore_39 ?_
      refine T_imul dX8_readMore_42 ?_
      refine T_iconst (1 : Int32) (by decide) dX8_readMore_43 ?_
      refine T_iadd dX8_readMore_44 ?_
      refine T_aload_n 0 rfl rfl dX8_readMore_45 ?_
      refine T_iconst (0 : Int32) (by decide) dX8_readMore_46 ?_
      refine T_bipush (99 : Int32) (by decide) dX8_readMore_47 ?_
      refine T_cVI (c := 8) [.int (0 : Int32), .int (99 : Int32)] [.int (((2 : Int32) * (m34.1 81 9)) + (1 : Int32)), .ref 85] mkX8_number lmX8_115 rfl rfl (by decide) (Nat.le_of_ble_eq_true rfl) kd_81 dX8_readMore_49 (bsX8_number _ (0 : Int32) (99 : Int32) m34) (fun z36 m35 => ?_)
      refine T_iast _ rfl kd_85 dX8_readMore_52 ?_
      refine T_lt (fun m38 => ?_)
      refine T_aload_n 0 rfl rfl dX8_readMore_53 ?_
      refine T_dup rfl dX8_readMore_54 ?_
      refine gIX8_112 rfl kd_81 dX8_readMore_55 ?_
      refine T_iconst (1 : Int32) (by decide) dX8_readMore_58 ?_
      refine T_iadd dX8_readMore_59 ?_
      refine pIX8_112 rfl rfl rfl kd_81 dX8_readMore_60 ?_
      refine T_lt (fun m39 => ?_)
      refine T_goto 225 dX8_readMore_63 (by decide) ?_
      exact T_vret rfl dX8_readMore_225)
theorem lmX8_168 : Cond.methodLink RX8 168 yX8_mayTread ∈ gdL := gd_mem 1087 (by decide +kernel) (by decide +kernel)
def bX8_trodden_4 (x1 : Int32) (k4 : Int32 × Int32 × mMem → mR) (s : Int32 × Int32 × mMem) : mR := match s with
  | (x2, x3, m) => if (m.1 81 2) ≤ x3 then some (some (.int x2), m) else bI (fX8_mayTread (0 : Int32) x1 x3 m) (fun z2 m1 => if z2 = (0 : Int32) then li (x2 ||| (0 : Int32)) (fun y4 => li (x3 + (1 : Int32)) (fun y5 => k4 (y4, y5, m1))) else li (x2 ||| ((1 : Int32) <<< (x3 &&& 31))) (fun y6 => li (x3 + (1 : Int32)) (fun y7 => k4 (y6, y7, m1))))
set_option maxRecDepth 100000 in
theorem tX8_trodden_4 (X : mCx) (x1 : Int32)  : ∀ (n : Nat) (s : Int32 × Int32 × mMem), T qX8_trodden X (lp (bX8_trodden_4 x1) n s) 4 [(0, .ref 81), (1, .int x1), (2, .int s.1), (3, .int s.2.1)] [] s.2.2 :=
  T_lp (body := bX8_trodden_4 x1) (lv := fun s => [(0, .ref 81), (1, .int x1), (2, .int s.1), (3, .int s.2.1)]) (st := fun _ => []) (μ := fun s : Int32 × Int32 × mMem => s.2.2) (fun k4 hk4 s => by
    obtain ⟨x2, x3, m⟩ := s
    show T qX8_trodden X (bX8_trodden_4 x1 k4 (x2, x3, m)) 4 [(0, .ref 81), (1, .int x1), (2, .int x2), (3, .int x3)] [] m
    unfold bX8_trodden_4
    dsimp only
    refine T_iload_n 3 rfl rfl dX8_trodden_4 ?_
    refine T_aload_n 0 rfl rfl dX8_trodden_5 ?_
    refine gIX8_143 rfl kd_81 dX8_trodden_6 ?_
    refine T_icmp_ge 38 dX8_trodden_9 (by decide) (fun _ => ?_) (fun _ => ?_)
    · refine T_iload_n 2 rfl rfl dX8_trodden_38 ?_
      exact T_iret rfl dX8_trodden_39
    · refine T_iload_n 2 rfl rfl dX8_trodden_12 ?_
      refine T_aload_n 0 rfl rfl dX8_trodden_13 ?_
      refine T_iconst (0 : Int32) (by decide) dX8_trodden_14 ?_
      refine T_iload_n 1 rfl rfl dX8_trodden_15 ?_
      refine T_iload_n 3 rfl rfl dX8_trodden_16 ?_
      refine T_cVI (c := 8) [.int (0 : Int32), .int x1, .int x3] [.int x2] mkX8_mayTread lmX8_168 rfl rfl (by decide) (Nat.le_of_ble_eq_true rfl) kd_81 dX8_trodden_17 (bsX8_mayTread _ (0 : Int32) x1 x3 m) (fun z2 m1 => ?_)
      refine T_if_eq 29 dX8_trodden_20 (by decide) (fun _ => ?_) (fun _ => ?_)
      · refine T_iconst (0 : Int32) (by decide) dX8_trodden_29 ?_
        refine T_ior dX8_trodden_30 ?_
        refine T_istore_n (lv' := [(2, .int (x2 ||| (0 : Int32))), (0, .ref 81), (1, .int x1), (3, .int x3)]) rfl (Nat.le_of_ble_eq_true rfl) rfl dX8_trodden_31 ?_
        refine T_li (fun y4 => ?_)
        refine T_iinc (lv' := [(3, .int (x3 + (1 : Int32))), (2, .int y4), (0, .ref 81), (1, .int x1)]) 3 (1 : Int32) rfl (by decide) (Nat.le_of_ble_eq_true rfl) rfl dX8_trodden_32 ?_
        refine T_li (fun y5 => ?_)
        refine T_goto 4 dX8_trodden_35 (by decide) ?_
        exact T_sub [2, 3, 1, 0] rfl (hk4 (y4, y5, m1))
      · refine T_iconst (1 : Int32) (by decide) dX8_trodden_23 ?_
        refine T_iload_n 3 rfl rfl dX8_trodden_24 ?_
        refine T_ishl dX8_trodden_25 ?_
        refine T_goto 30 dX8_trodden_26 (by decide) ?_
        refine T_ior dX8_trodden_30 ?_
        refine T_istore_n (lv' := [(2, .int (x2 ||| ((1 : Int32) <<< (x3 &&& 31)))), (0, .ref 81), (1, .int x1), (3, .int x3)]) rfl (Nat.le_of_ble_eq_true rfl) rfl dX8_trodden_31 ?_
        refine T_li (fun y6 => ?_)
        refine T_iinc (lv' := [(3, .int (x3 + (1 : Int32))), (2, .int y6), (0, .ref 81), (1, .int x1)]) 3 (1 : Int32) rfl (by decide) (Nat.le_of_ble_eq_true rfl) rfl dX8_trodden_32 ?_
        refine T_li (fun y7 => ?_)
        refine T_goto 4 dX8_trodden_35 (by decide) ?_
        exact T_sub [2, 3, 1, 0] rfl (hk4 (y6, y7, m1)))
def fX8_trodden (x1 : Int32) (m : mMem) : mR := lp (bX8_trodden_4 x1) FU ((0 : Int32), (0 : Int32), m)
set_option maxRecDepth 100000 in
theorem bsX8_trodden (l : Launch) (x1 : Int32) (m : mMem)  : BS l qX8_trodden [.ref 81, .int x1] m (fX8_trodden x1 m) := BS_of (by decide) (Nat.le_of_ble_eq_true rfl) (fun X _ => by
    show T qX8_trodden X (fX8_trodden x1 m) 0 [(0, .ref 81), (1, .int x1)] [] m
    unfold fX8_trodden
    refine T_iconst (0 : Int32) (by decide) dX8_trodden_0 ?_
    refine T_istore_n (lv' := [(2, .int (0 : Int32)), (0, .ref 81), (1, .int x1)]) rfl (Nat.le_of_ble_eq_true rfl) rfl dX8_trodden_1 ?_
    refine T_iconst (0 : Int32) (by decide) dX8_trodden_2 ?_
    refine T_istore_n (lv' := [(3, .int (0 : Int32)), (2, .int (0 : Int32)), (0, .ref 81), (1, .int x1)]) rfl (Nat.le_of_ble_eq_true rfl) rfl dX8_trodden_3 ?_
    exact T_sub [2, 3, 1, 0] rfl (tX8_trodden_4 X x1  FU ((0 : Int32), (0 : Int32), m)))
theorem lmX8_179 : Cond.methodLink RX8 179 yX8_reachOn ∈ gdL := gd_mem 1075 (by decide +kernel) (by decide +kernel)
theorem lfX8_37 : Cond.fieldLink RX8 37 "RankStairsModel" "fewest" "[I" ∈ gdL := gd_mem 908 (by decide +kernel) (by decide +kernel)
theorem gRX8_37 {q : mMI} {X : mCx} {tgt : mR} {pc : Nat} {lv : List (Nat × Value)} {st : List Value} {μ : mMem} {b : Nat} (hq : q.1.cls = RX8) (hb : kd b = (8, 0)) (z : Nat) (hz : rf b 24 = z) (hd : decode q.2.1 pc = .ok (.getfield 37, 3)) (h : T q X tgt (pc + 3) lv (.ref z :: st) μ) : T q X tgt pc lv (.ref b :: st) μ := T_getR (c := 8) rfl (by decide) rfl (by decide) (by rw [hq]; exact lfX8_37) hb z hz hd h
def jX8_layFewest_106 (k29 : Int32 × mMem → mR) (k61 : Int32 × mMem → mR) (x1 : Int32) (x2 : Int32) (x3 : Int32) (x4 : Int32) (x5 : Int32) (x6 : Int32) (xs0 : Int32) (m : mMem) : mR := ga x5 11 (if (m.1 91 (x5).toNatClampNeg) ≤ xs0 then ga x5 11 (ga x5 11 (lt (si m 91 (x5).toNatClampNeg (m.1 91 (x5).toNatClampNeg)) (fun m13 => li (x6 + (1 : Int32)) (fun y14 => k61 (y14, m13))))) else ga x5 11 (lt (si m 91 (x5).toNatClampNeg xs0) (fun m15 => li (x6 + (1 : Int32)) (fun y16 => k61 (y16, m15)))))
set_option maxRecDepth 100000 in
theorem uX8_layFewest_106 (X : mCx) (k29 : Int32 × mMem → mR) (k61 : Int32 × mMem → mR) (x1 : Int32) (x2 : Int32) (x3 : Int32) (x4 : Int32) (x5 : Int32) (x6 : Int32) (xs0 : Int32) (m : mMem) (hk29 : ∀ s : Int32 × mMem, T qX8_layFewest X (k29 s) 29 [(0, .ref 81), (1, .int x1), (2, .int x2), (3, .int x3), (4, .int x4), (5, .int s.1)] [] s.2) (hk61 : ∀ s : Int32 × mMem, T qX8_layFewest X (k61 s) 61 [(0, .ref 81), (1, .int x1), (2, .int x2), (3, .int x3), (4, .int x4), (5, .int x5), (6, .int s.1)] [] s.2) : T qX8_layFewest X (jX8_layFewest_106 k29 k61 x1 x2 x3 x4 x5 x6 xs0 m) 106 [(0, .ref 81), (1, .int x1), (2, .int x2), (3, .int x3), (4, .int x4), (5, .int x5), (6, .int x6)] [.int xs0] m := by
  unfold jX8_layFewest_106
  refine T_istore (lv' := [(7, .int xs0), (0, .ref 81), (1, .int x1), (2, .int x2), (3, .int x3), (4, .int x4), (5, .int x5), (6, .int x6)]) (Nat.le_of_ble_eq_true rfl) rfl dX8_layFewest_106 ?_
  refine T_aload_n 1 rfl rfl dX8_layFewest_108 ?_
  refine gRX8_37 rfl kd_81 91 rfl dX8_layFewest_109 ?_
  refine T_iload 6 rfl dX8_layFewest_112 ?_
  refine T_iload 0 rfl dX8_layFewest_114 ?_
  refine T_aload_n 1 rfl rfl dX8_layFewest_116 ?_
  refine gRX8_37 rfl kd_81 91 rfl dX8_layFewest_117 ?_
  refine T_iload 6 rfl dX8_layFewest_120 ?_
  refine T_iald kd_91 dX8_layFewest_122 ?_
  refine T_icmp_ge 131 dX8_layFewest_123 (by decide) (fun _ => ?_) (fun _ => ?_)
  · refine T_aload_n 1 rfl rfl dX8_layFewest_131 ?_
    refine gRX8_37 rfl kd_81 91 rfl dX8_layFewest_132 ?_
    refine T_iload 6 rfl dX8_layFewest_135 ?_
    refine T_iald kd_91 dX8_layFewest_137 ?_
    refine T_iast _ rfl kd_91 dX8_layFewest_138 ?_
    refine T_lt (fun m13 => ?_)
    refine T_iinc (lv' := [(6, .int (x6 + (1 : Int32))), (7, .int xs0), (0, .ref 81), (1, .int x1), (2, .int x2), (3, .int x3), (4, .int x4), (5, .int x5)]) 7 (1 : Int32) rfl (by decide) (Nat.le_of_ble_eq_true rfl) rfl dX8_layFewest_139 ?_
    refine T_li (fun y14 => ?_)
    refine T_goto 61 dX8_layFewest_142 (by decide) ?_
    exact T_sub [2, 3, 4, 5, 6, 7, 0] rfl (hk61 (y14, m13))
  · refine T_iload 0 rfl dX8_layFewest_126 ?_
    refine T_goto 138 dX8_layFewest_128 (by decide) ?_
    refine T_iast _ rfl kd_91 dX8_layFewest_138 ?_
    refine T_lt (fun m15 => ?_)
    refine T_iinc (lv' := [(6, .int (x6 + (1 : Int32))), (7, .int xs0), (0, .ref 81), (1, .int x1), (2, .int x2), (3, .int x3), (4, .int x4), (5, .int x5)]) 7 (1 : Int32) rfl (by decide) (Nat.le_of_ble_eq_true rfl) rfl dX8_layFewest_139 ?_
    refine T_li (fun y16 => ?_)
    refine T_goto 61 dX8_layFewest_142 (by decide) ?_
    exact T_sub [2, 3, 4, 5, 6, 7, 0] rfl (hk61 (y16, m15))
def bX8_layFewest_61 (k29 : Int32 × mMem → mR) (x1 : Int32) (x2 : Int32) (x3 : Int32) (x4 : Int32) (x5 : Int32) (k61 : Int32 × mMem → mR) (s : Int32 × mMem) : mR := match s with
  | (x6, m) => if (x5 + x4) < x6 then li (x5 + (-1 : Int32)) (fun y8 => k29 (y8, m)) else if (x3 + (1 : Int32)) < x6 then li (x5 + (-1 : Int32)) (fun y9 => k29 (y9, m)) else bI (fX8_mayTread x1 x2 (x6 - (1 : Int32)) m) (fun z11 m10 => if z11 = (0 : Int32) then jX8_layFewest_106 k29 k61 x1 x2 x3 x4 x5 x6 (100 : Int32) m10 else ga x6 11 (jX8_layFewest_106 k29 k61 x1 x2 x3 x4 x5 x6 ((1 : Int32) + (m10.1 91 (x6).toNatClampNeg)) m10))
set_option maxRecDepth 100000 in
theorem tX8_layFewest_61 (X : mCx) (k29 : Int32 × mMem → mR) (x1 : Int32) (x2 : Int32) (x3 : Int32) (x4 : Int32) (x5 : Int32) (hk29 : ∀ s : Int32 × mMem, T qX8_layFewest X (k29 s) 29 [(0, .ref 81), (1, .int x1), (2, .int x2), (3, .int x3), (4, .int x4), (5, .int s.1)] [] s.2) : ∀ (n : Nat) (s : Int32 × mMem), T qX8_layFewest X (lp (bX8_layFewest_61 k29 x1 x2 x3 x4 x5) n s) 61 [(0, .ref 81), (1, .int x1), (2, .int x2), (3, .int x3), (4, .int x4), (5, .int x5), (6, .int s.1)] [] s.2 :=
  T_lp (body := bX8_layFewest_61 k29 x1 x2 x3 x4 x5) (lv := fun s => [(0, .ref 81), (1, .int x1), (2, .int x2), (3, .int x3), (4, .int x4), (5, .int x5), (6, .int s.1)]) (st := fun _ => []) (μ := fun s : Int32 × mMem => s.2) (fun k61 hk61 s => by
    obtain ⟨x6, m⟩ := s
    show T qX8_layFewest X (bX8_layFewest_61 k29 x1 x2 x3 x4 x5 k61 (x6, m)) 61 [(0, .ref 81), (1, .int x1), (2, .int x2), (3, .int x3), (4, .int x4), (5, .int x5), (6, .int x6)] [] m
    unfold bX8_layFewest_61
    dsimp only
    refine T_iload 6 rfl dX8_layFewest_61 ?_
    refine T_iload 5 rfl dX8_layFewest_63 ?_
    refine T_iload 4 rfl dX8_layFewest_65 ?_
    refine T_iadd dX8_layFewest_67 ?_
    refine T_icmp_gt 145 dX8_layFewest_68 (by decide) (fun _ => ?_) (fun _ => ?_)
    · refine T_iinc (lv' := [(5, .int (x5 + (-1 : Int32))), (0, .ref 81), (1, .int x1), (2, .int x2), (3, .int x3), (4, .int x4), (6, .int x6)]) 5 (-1 : Int32) rfl (by decide) (Nat.le_of_ble_eq_true rfl) rfl dX8_layFewest_145 ?_
      refine T_li (fun y8 => ?_)
      refine T_goto 29 dX8_layFewest_148 (by decide) ?_
      exact T_sub [1, 2, 3, 4, 5, 0] rfl (hk29 (y8, m))
    · refine T_iload 6 rfl dX8_layFewest_71 ?_
      refine T_iload_n 3 rfl rfl dX8_layFewest_73 ?_
      refine T_iconst (1 : Int32) (by decide) dX8_layFewest_74 ?_
      refine T_iadd dX8_layFewest_75 ?_
      refine T_icmp_gt 145 dX8_layFewest_76 (by decide) (fun _ => ?_) (fun _ => ?_)
      · refine T_iinc (lv' := [(5, .int (x5 + (-1 : Int32))), (0, .ref 81), (1, .int x1), (2, .int x2), (3, .int x3), (4, .int x4), (6, .int x6)]) 5 (-1 : Int32) rfl (by decide) (Nat.le_of_ble_eq_true rfl) rfl dX8_layFewest_145 ?_
        refine T_li (fun y9 => ?_)
        refine T_goto 29 dX8_layFewest_148 (by decide) ?_
        exact T_sub [1, 2, 3, 4, 5, 0] rfl (hk29 (y9, m))
      · refine T_aload_n 0 rfl rfl dX8_layFewest_79 ?_
        refine T_iload_n 1 rfl rfl dX8_layFewest_80 ?_
        refine T_iload_n 2 rfl rfl dX8_layFewest_81 ?_
        refine T_iload 6 rfl dX8_layFewest_82 ?_
        refine T_iconst (1 : Int32) (by decide) dX8_layFewest_84 ?_
        refine T_isub dX8_layFewest_85 ?_
        refine T_cVI (c := 8) [.int x1, .int x2, .int (x6 - (1 : Int32))] [] mkX8_mayTread lmX8_168 rfl rfl (by decide) (Nat.le_of_ble_eq_true rfl) kd_81 dX8_layFewest_86 (bsX8_mayTread _ x1 x2 (x6 - (1 : Int32)) m) (fun z11 m10 => ?_)
        refine T_if_eq 104 dX8_layFewest_89 (by decide) (fun _ => ?_) (fun _ => ?_)
        · refine T_bipush (100 : Int32) (by decide) dX8_layFewest_104 ?_
          exact T_sub [0, 1, 2, 3, 4, 5, 6] rfl (uX8_layFewest_106 X k29 k61 x1 x2 x3 x4 x5 x6 (100 : Int32) m10 hk29 hk61)
        · refine T_iconst (1 : Int32) (by decide) dX8_layFewest_92 ?_
          refine T_aload_n 0 rfl rfl dX8_layFewest_93 ?_
          refine gRX8_37 rfl kd_81 91 rfl dX8_layFewest_94 ?_
          refine T_iload 6 rfl dX8_layFewest_97 ?_
          refine T_iald kd_91 dX8_layFewest_99 ?_
          refine T_iadd dX8_layFewest_100 ?_
          refine T_goto 106 dX8_layFewest_101 (by decide) ?_
          exact T_sub [0, 1, 2, 3, 4, 5, 6] rfl (uX8_layFewest_106 X k29 k61 x1 x2 x3 x4 x5 x6 ((1 : Int32) + (m10.1 91 (x6).toNatClampNeg)) m10 hk29 hk61))
def jX8_layFewest_54 (k29 : Int32 × mMem → mR) (x1 : Int32) (x2 : Int32) (x3 : Int32) (x4 : Int32) (x5 : Int32) (xs0 : Int32) (xs1 : Int32) (m : mMem) : mR := ga xs1 11 (lt (si m 91 (xs1).toNatClampNeg xs0) (fun m6 => li (x5 + (1 : Int32)) (fun y7 => lp (bX8_layFewest_61 k29 x1 x2 x3 x4 x5) FU (y7, m6))))
set_option maxRecDepth 100000 in
theorem uX8_layFewest_54 (X : mCx) (k29 : Int32 × mMem → mR) (x1 : Int32) (x2 : Int32) (x3 : Int32) (x4 : Int32) (x5 : Int32) (xs0 : Int32) (xs1 : Int32) (m : mMem) (hk29 : ∀ s : Int32 × mMem, T qX8_layFewest X (k29 s) 29 [(0, .ref 81), (1, .int x1), (2, .int x2), (3, .int x3), (4, .int x4), (5, .int s.1)] [] s.2) : T qX8_layFewest X (jX8_layFewest_54 k29 x1 x2 x3 x4 x5 xs0 xs1 m) 54 [(0, .ref 81), (1, .int x1), (2, .int x2), (3, .int x3), (4, .int x4), (5, .int x5)] [.int xs0, .int xs1, .ref 91] m := by
  unfold jX8_layFewest_54
  refine T_iast _ rfl kd_91 dX8_layFewest_54 ?_
  refine T_lt (fun m6 => ?_)
  refine T_iload 5 rfl dX8_layFewest_55 ?_
  refine T_iconst (1 : Int32) (by decide) dX8_layFewest_57 ?_
  refine T_iadd dX8_layFewest_58 ?_
  refine T_istore (lv' := [(6, .int (x5 + (1 : Int32))), (0, .ref 81), (1, .int x1), (2, .int x2), (3, .int x3), (4, .int x4), (5, .int x5)]) (Nat.le_of_ble_eq_true rfl) rfl dX8_layFewest_59 ?_
  refine T_li (fun y7 => ?_)
  exact T_sub [1, 2, 3, 4, 5, 6, 0] rfl (tX8_layFewest_61 X k29 x1 x2 x3 x4 x5 hk29 FU (y7, m6))
def bX8_layFewest_29 (x1 : Int32) (x2 : Int32) (x3 : Int32) (x4 : Int32) (k29 : Int32 × mMem → mR) (s : Int32 × mMem) : mR := match s with
  | (x5, m) => if x5 < (0 : Int32) then some (none, m) else if x5 = (x3 + (1 : Int32)) then jX8_layFewest_54 k29 x1 x2 x3 x4 x5 (0 : Int32) x5 m else jX8_layFewest_54 k29 x1 x2 x3 x4 x5 (100 : Int32) x5 m
set_option maxRecDepth 100000 in
theorem tX8_layFewest_29 (X : mCx) (x1 : Int32) (x2 : Int32) (x3 : Int32) (x4 : Int32)  : ∀ (n : Nat) (s : Int32 × mMem), T qX8_layFewest X (lp (bX8_layFewest_29 x1 x2 x3 x4) n s) 29 [(0, .ref 81), (1, .int x1), (2, .int x2), (3, .int x3), (4, .int x4), (5, .int s.1)] [] s.2 :=
  T_lp (body := bX8_layFewest_29 x1 x2 x3 x4) (lv := fun s => [(0, .ref 81), (1, .int x1), (2, .int x2), (3, .int x3), (4, .int x4), (5, .int s.1)]) (st := fun _ => []) (μ := fun s : Int32 × mMem => s.2) (fun k29 hk29 s => by
    obtain ⟨x5, m⟩ := s
    show T qX8_layFewest X (bX8_layFewest_29 x1 x2 x3 x4 k29 (x5, m)) 29 [(0, .ref 81), (1, .int x1), (2, .int x2), (3, .int x3), (4, .int x4), (5, .int x5)] [] m
    unfold bX8_layFewest_29
    dsimp only
    refine T_iload 5 rfl dX8_layFewest_29 ?_
    refine T_if_lt 151 dX8_layFewest_31 (by decide) (fun _ => ?_) (fun _ => ?_)
    · exact T_vret rfl dX8_layFewest_151
    · refine T_aload_n 0 rfl rfl dX8_layFewest_34 ?_
      refine gRX8_37 rfl kd_81 91 rfl dX8_layFewest_35 ?_
      refine T_iload 5 rfl dX8_layFewest_38 ?_
      refine T_iload 5 rfl dX8_layFewest_40 ?_
      refine T_iload_n 3 rfl rfl dX8_layFewest_42 ?_
      refine T_iconst (1 : Int32) (by decide) dX8_layFewest_43 ?_
      refine T_iadd dX8_layFewest_44 ?_
      refine T_icmp_ne 52 dX8_layFewest_45 (by decide) (fun _ => ?_) (fun _ => ?_)
      · refine T_iconst (0 : Int32) (by decide) dX8_layFewest_48 ?_
        refine T_goto 54 dX8_layFewest_49 (by decide) ?_
        exact T_sub [0, 1, 2, 3, 4, 5] rfl (uX8_layFewest_54 X k29 x1 x2 x3 x4 x5 (0 : Int32) x5 m hk29)
      · refine T_bipush (100 : Int32) (by decide) dX8_layFewest_52 ?_
        exact T_sub [0, 1, 2, 3, 4, 5] rfl (uX8_layFewest_54 X k29 x1 x2 x3 x4 x5 (100 : Int32) x5 m hk29))
def fX8_layFewest (x1 : Int32) (x2 : Int32) (m : mMem) : mR := ga (((x1 + (20 : Int32)) + ((3 : Int32) * x2)) + (2 : Int32)) 210 (li (m.1 82 ((((x1 + (20 : Int32)) + ((3 : Int32) * x2)) + (2 : Int32))).toNatClampNeg) (fun y1 => bI (fX8_reachOn x1 x2 m) (fun z3 m2 => li (y1 + (1 : Int32)) (fun y5 => lp (bX8_layFewest_29 x1 x2 y1 z3) FU (y5, m2)))))
set_option maxRecDepth 100000 in
theorem bsX8_layFewest (l : Launch) (x1 : Int32) (x2 : Int32) (m : mMem)  : BS l qX8_layFewest [.ref 81, .int x1, .int x2] m (fX8_layFewest x1 x2 m) := BS_of (by decide) (Nat.le_of_ble_eq_true rfl) (fun X _ => by
    show T qX8_layFewest X (fX8_layFewest x1 x2 m) 0 [(0, .ref 81), (1, .int x1), (2, .int x2)] [] m
    unfold fX8_layFewest
    refine T_aload_n 0 rfl rfl dX8_layFewest_0 ?_
    refine gRX8_7 rfl kd_81 82 rfl dX8_layFewest_1 ?_
    refine T_iload_n 1 rfl rfl dX8_layFewest_4 ?_
    refine T_bipush (20 : Int32) (by decide) dX8_layFewest_5 ?_
    refine T_iadd dX8_layFewest_7 ?_
    refine T_iconst (3 : Int32) (by decide) dX8_layFewest_8 ?_
    refine T_iload_n 2 rfl rfl dX8_layFewest_9 ?_
    refine T_imul dX8_layFewest_10 ?_
    refine T_iadd dX8_layFewest_11 ?_
    refine T_iconst (2 : Int32) (by decide) dX8_layFewest_12 ?_
    refine T_iadd dX8_layFewest_13 ?_
    refine T_iald kd_82 dX8_layFewest_14 ?_
    refine T_istore_n (lv' := [(3, .int (m.1 82 ((((x1 + (20 : Int32)) + ((3 : Int32) * x2)) + (2 : Int32))).toNatClampNeg)), (0, .ref 81), (1, .int x1), (2, .int x2)]) rfl (Nat.le_of_ble_eq_true rfl) rfl dX8_layFewest_15 ?_
    refine T_li (fun y1 => ?_)
    refine T_aload_n 1 rfl rfl dX8_layFewest_16 ?_
    refine T_iload_n 2 rfl rfl dX8_layFewest_17 ?_
    refine T_iload_n 3 rfl rfl dX8_layFewest_18 ?_
    refine T_cVI (c := 8) [.int x1, .int x2] [] mkX8_reachOn lmX8_179 rfl rfl (by decide) (Nat.le_of_ble_eq_true rfl) kd_81 dX8_layFewest_19 (bsX8_reachOn _ x1 x2 m) (fun z3 m2 => ?_)
    refine T_istore (lv' := [(4, .int z3), (3, .int y1), (0, .ref 81), (1, .int x1), (2, .int x2)]) (Nat.le_of_ble_eq_true rfl) rfl dX8_layFewest_22 ?_
    refine T_iload_n 1 rfl rfl dX8_layFewest_24 ?_
    refine T_iconst (1 : Int32) (by decide) dX8_layFewest_25 ?_
    refine T_iadd dX8_layFewest_26 ?_
    refine T_istore (lv' := [(5, .int (y1 + (1 : Int32))), (4, .int z3), (3, .int y1), (0, .ref 81), (1, .int x1), (2, .int x2)]) (Nat.le_of_ble_eq_true rfl) rfl dX8_layFewest_27 ?_
    refine T_li (fun y5 => ?_)
    exact T_sub [3, 4, 5, 2, 1, 0] rfl (tX8_layFewest_29 X x1 x2 y1 z3  FU (y5, m2)))
theorem lfX8_43 : Cond.fieldLink RX8 43 "RankStairsModel" "wayMany" "[I" ∈ gdL := gd_mem 910 (by decide +kernel) (by decide +kernel)
theorem gRX8_43 {q : mMI} {X : mCx} {tgt : mR} {pc : Nat} {lv : List (Nat × Value)} {st : List Value} {μ : mMem} {b : Nat} (hq : q.1.cls = RX8) (hb : kd b = (8, 0)) (z : Nat) (hz : rf b 26 = z) (hd : decode q.2.1 pc = .ok (.getfield 43, 3)) (h : T q X tgt (pc + 3) lv (.ref z :: st) μ) : T q X tgt pc lv (.ref b :: st) μ := T_getR (c := 8) rfl (by decide) rfl (by decide) (by rw [hq]; exact lfX8_43) hb z hz hd h
def bX8_ways_55 (k28 : Int32 × mMem → mR) (x1 : Int32) (x2 : Int32) (x3 : Int32) (k55 : Int32 × mMem → mR) (s : Int32 × mMem) : mR := match s with
  | (x4, m) => bI (fX8_reachOn (0 : Int32) x1 m) (fun z9 m8 => if (x3 + z9) < x4 then li (x3 + (-1 : Int32)) (fun y11 => k28 (y11, m8)) else if (x2 + (1 : Int32)) < x4 then li (x3 + (-1 : Int32)) (fun y12 => k28 (y12, m8)) else ga x3 11 (bI (fX8_mayTread (0 : Int32) x1 (x4 - (1 : Int32)) m8) (fun z14 m13 => if z14 = (0 : Int32) then ga x3 11 (lt (si m13 93 (x3).toNatClampNeg ((m8.1 93 (x3).toNatClampNeg) + (0 : Int32))) (fun m16 => li (x4 + (1 : Int32)) (fun y17 => k55 (y17, m16)))) else ga x4 11 (ga x3 11 (lt (si m13 93 (x3).toNatClampNeg ((m8.1 93 (x3).toNatClampNeg) + (m13.1 93 (x4).toNatClampNeg))) (fun m18 => li (x4 + (1 : Int32)) (fun y19 => k55 (y19, m18))))))))
set_option maxRecDepth 100000 in
theorem tX8_ways_55 (X : mCx) (k28 : Int32 × mMem → mR) (x1 : Int32) (x2 : Int32) (x3 : Int32) (hk28 : ∀ s : Int32 × mMem, T qX8_ways X (k28 s) 28 [(0, .ref 81), (1, .int x1), (2, .int x2), (3, .int s.1)] [] s.2) : ∀ (n : Nat) (s : Int32 × mMem), T qX8_ways X (lp (bX8_ways_55 k28 x1 x2 x3) n s) 55 [(0, .ref 81), (1, .int x1), (2, .int x2), (3, .int x3), (4, .int s.1)] [] s.2 :=
  T_lp (body := bX8_ways_55 k28 x1 x2 x3) (lv := fun s => [(0, .ref 81), (1, .int x1), (2, .int x2), (3, .int x3), (4, .int s.1)]) (st := fun _ => []) (μ := fun s : Int32 × mMem => s.2) (fun k55 hk55 s => by
    obtain ⟨x4, m⟩ := s
    show T qX8_ways X (bX8_ways_55 k28 x1 x2 x3 k55 (x4, m)) 55 [(0, .ref 81), (1, .int x1), (2, .int x2), (3, .int x3), (4, .int x4)] [] m
    unfold bX8_ways_55
    dsimp only
    refine T_iload 4 rfl dX8_ways_55 ?_
    refine T_iload_n 3 rfl rfl dX8_ways_57 ?_
    refine T_aload_n 0 rfl rfl dX8_ways_58 ?_
    refine T_iconst (0 : Int32) (by decide) dX8_ways_59 ?_
    refine T_iload_n 1 rfl rfl dX8_ways_60 ?_
    refine T_cVI (c := 8) [.int (0 : Int32), .int x1] [.int x3, .int x4] mkX8_reachOn lmX8_179 rfl rfl (by decide) (Nat.le_of_ble_eq_true rfl) kd_81 dX8_ways_61 (bsX8_reachOn _ (0 : Int32) x1 m) (fun z9 m8 => ?_)
    refine T_iadd dX8_ways_64 ?_
    refine T_icmp_gt 115 dX8_ways_65 (by decide) (fun _ => ?_) (fun _ => ?_)
    · refine T_iinc (lv' := [(3, .int (x3 + (-1 : Int32))), (0, .ref 81), (1, .int x1), (2, .int x2), (4, .int x4)]) 3 (-1 : Int32) rfl (by decide) (Nat.le_of_ble_eq_true rfl) rfl dX8_ways_115 ?_
      refine T_li (fun y11 => ?_)
      refine T_goto 28 dX8_ways_118 (by decide) ?_
      exact T_sub [1, 2, 3, 0] rfl (hk28 (y11, m8))
    · refine T_iload 4 rfl dX8_ways_68 ?_
      refine T_iload_n 2 rfl rfl dX8_ways_70 ?_
      refine T_iconst (1 : Int32) (by decide) dX8_ways_71 ?_
      refine T_iadd dX8_ways_72 ?_
      refine T_icmp_gt 115 dX8_ways_73 (by decide) (fun _ => ?_) (fun _ => ?_)
      · refine T_iinc (lv' := [(3, .int (x3 + (-1 : Int32))), (0, .ref 81), (1, .int x1), (2, .int x2), (4, .int x4)]) 3 (-1 : Int32) rfl (by decide) (Nat.le_of_ble_eq_true rfl) rfl dX8_ways_115 ?_
        refine T_li (fun y12 => ?_)
        refine T_goto 28 dX8_ways_118 (by decide) ?_
        exact T_sub [1, 2, 3, 0] rfl (hk28 (y12, m8))
      · refine T_aload_n 0 rfl rfl dX8_ways_76 ?_
        refine gRX8_43 rfl kd_81 93 rfl dX8_ways_77 ?_
        refine T_iload_n 3 rfl rfl dX8_ways_80 ?_
        refine T_dup2 rfl rfl dX8_ways_81 ?_
        refine T_iald kd_93 dX8_ways_82 ?_
        refine T_aload_n 0 rfl rfl dX8_ways_83 ?_
        refine T_iconst (0 : Int32) (by decide) dX8_ways_84 ?_
        refine T_iload_n 1 rfl rfl dX8_ways_85 ?_
        refine T_iload 4 rfl dX8_ways_86 ?_
        refine T_iconst (1 : Int32) (by decide) dX8_ways_88 ?_
        refine T_isub dX8_ways_89 ?_
        refine T_cVI (c := 8) [.int (0 : Int32), .int x1, .int (x4 - (1 : Int32))] [.int (m8.1 93 (x3).toNatClampNeg), .int x3, .ref 93] mkX8_mayTread lmX8_168 rfl rfl (by decide) (Nat.le_of_ble_eq_true rfl) kd_81 dX8_ways_90 (bsX8_mayTread _ (0 : Int32) x1 (x4 - (1 : Int32)) m8) (fun z14 m13 => ?_)
        refine T_if_eq 106 dX8_ways_93 (by decide) (fun _ => ?_) (fun _ => ?_)
        · refine T_iconst (0 : Int32) (by decide) dX8_ways_106 ?_
          refine T_iadd dX8_ways_107 ?_
          refine T_iast _ rfl kd_93 dX8_ways_108 ?_
          refine T_lt (fun m16 => ?_)
          refine T_iinc (lv' := [(4, .int (x4 + (1 : Int32))), (0, .ref 81), (1, .int x1), (2, .int x2), (3, .int x3)]) 4 (1 : Int32) rfl (by decide) (Nat.le_of_ble_eq_true rfl) rfl dX8_ways_109 ?_
          refine T_li (fun y17 => ?_)
          refine T_goto 55 dX8_ways_112 (by decide) ?_
          exact T_sub [1, 2, 3, 4, 0] rfl (hk55 (y17, m16))
        · refine T_aload_n 0 rfl rfl dX8_ways_96 ?_
          refine gRX8_43 rfl kd_81 93 rfl dX8_ways_97 ?_
          refine T_iload 4 rfl dX8_ways_100 ?_
          refine T_iald kd_93 dX8_ways_102 ?_
          refine T_goto 107 dX8_ways_103 (by decide) ?_
          refine T_iadd dX8_ways_107 ?_
          refine T_iast _ rfl kd_93 dX8_ways_108 ?_
          refine T_lt (fun m18 => ?_)
          refine T_iinc (lv' := [(4, .int (x4 + (1 : Int32))), (0, .ref 81), (1, .int x1), (2, .int x2), (3, .int x3)]) 4 (1 : Int32) rfl (by decide) (Nat.le_of_ble_eq_true rfl) rfl dX8_ways_109 ?_
          refine T_li (fun y19 => ?_)
          refine T_goto 55 dX8_ways_112 (by decide) ?_
          exact T_sub [1, 2, 3, 4, 0] rfl (hk55 (y19, m18)))
def jX8_ways_49 (k28 : Int32 × mMem → mR) (x1 : Int32) (x2 : Int32) (x3 : Int32) (xs0 : Int32) (xs1 : Int32) (m : mMem) : mR := ga xs1 11 (lt (si m 93 (xs1).toNatClampNeg xs0) (fun m6 => li (x3 + (1 : Int32)) (fun y7 => lp (bX8_ways_55 k28 x1 x2 x3) FU (y7, m6))))
set_option maxRecDepth 100000 in
theorem uX8_ways_49 (X : mCx) (k28 : Int32 × mMem → mR) (x1 : Int32) (x2 : Int32) (x3 : Int32) (xs0 : Int32) (xs1 : Int32) (m : mMem) (hk28 : ∀ s : Int32 × mMem, T qX8_ways X (k28 s) 28 [(0, .ref 81), (1, .int x1), (2, .int x2), (3, .int s.1)] [] s.2) : T qX8_ways X (jX8_ways_49 k28 x1 x2 x3 xs0 xs1 m) 49 [(0, .ref 81), (1, .int x1), (2, .int x2), (3, .int x3)] [.int xs0, .int xs1, .ref 93] m := by
  unfold jX8_ways_49
  refine T_iast _ rfl kd_93 dX8_ways_49 ?_
  refine T_lt (fun m6 => ?_)
  refine T_iload_n 3 rfl rfl dX8_ways_50 ?_
  refine T_iconst (1 : Int32) (by decide) dX8_ways_51 ?_
  refine T_iadd dX8_ways_52 ?_
  refine T_istore (lv' := [(4, .int (x3 + (1 : Int32))), (0, .ref 81), (1, .int x1), (2, .int x2), (3, .int x3)]) (Nat.le_of_ble_eq_true rfl) rfl dX8_ways_53 ?_
  refine T_li (fun y7 => ?_)
  exact T_sub [1, 2, 3, 4, 0] rfl (tX8_ways_55 X k28 x1 x2 x3 hk28 FU (y7, m6))
def bX8_ways_28 (x1 : Int32) (x2 : Int32) (k28 : Int32 × mMem → mR) (s : Int32 × mMem) : mR := match s with
  | (x3, m) => if x3 < (0 : Int32) then ga (0 : Int32) 11 (some (some (.int (m.1 93 ((0 : Int32)).toNatClampNeg)), m)) else if x3 = (x2 + (1 : Int32)) then jX8_ways_49 k28 x1 x2 x3 (1 : Int32) x3 m else jX8_ways_49 k28 x1 x2 x3 (0 : Int32) x3 m
set_option maxRecDepth 100000 in
theorem tX8_ways_28 (X : mCx) (x1 : Int32) (x2 : Int32)  : ∀ (n : Nat) (s : Int32 × mMem), T qX8_ways X (lp (bX8_ways_28 x1 x2) n s) 28 [(0, .ref 81), (1, .int x1), (2, .int x2), (3, .int s.1)] [] s.2 :=
  T_lp (body := bX8_ways_28 x1 x2) (lv := fun s => [(0, .ref 81), (1, .int x1), (2, .int x2), (3, .int s.1)]) (st := fun _ => []) (μ := fun s : Int32 × mMem => s.2) (fun k28 hk28 s => by
    obtain ⟨x3, m⟩ := s
    show T qX8_ways X (bX8_ways_28 x1 x2 k28 (x3, m)) 28 [(0, .ref 81), (1, .int x1), (2, .int x2), (3, .int x3)] [] m
    unfold bX8_ways_28
    dsimp only
    refine T_iload_n 3 rfl rfl dX8_ways_28 ?_
    refine T_if_lt 121 dX8_ways_29 (by decide) (fun _ => ?_) (fun _ => ?_)
    · refine T_aload_n 0 rfl rfl dX8_ways_121 ?_
      refine gRX8_43 rfl kd_81 93 rfl dX8_ways_122 ?_
      refine T_iconst (0 : Int32) (by decide) dX8_ways_125 ?_
      refine T_iald kd_93 dX8_ways_126 ?_
      exact T_iret rfl dX8_ways_127
    · refine T_aload_n 0 rfl rfl dX8_ways_32 ?_
      refine gRX8_43 rfl kd_81 93 rfl dX8_ways_33 ?_
      refine T_iload_n 3 rfl rfl dX8_ways_36 ?_
      refine T_iload_n 3 rfl rfl dX8_ways_37 ?_
      refine T_iload_n 2 rfl rfl dX8_ways_38 ?_
      refine T_iconst (1 : Int32) (by decide) dX8_ways_39 ?_
      refine T_iadd dX8_ways_40 ?_
      refine T_icmp_ne 48 dX8_ways_41 (by decide) (fun _ => ?_) (fun _ => ?_)
      · refine T_iconst (1 : Int32) (by decide) dX8_ways_44 ?_
        refine T_goto 49 dX8_ways_45 (by decide) ?_
        exact T_sub [0, 1, 2, 3] rfl (uX8_ways_49 X k28 x1 x2 x3 (1 : Int32) x3 m hk28)
      · refine T_iconst (0 : Int32) (by decide) dX8_ways_48 ?_
        exact T_sub [0, 1, 2, 3] rfl (uX8_ways_49 X k28 x1 x2 x3 (0 : Int32) x3 m hk28))
def fX8_ways (x1 : Int32) (m : mMem) : mR := bI (fX8_isLodger x1 m) (fun z2 m1 => if z2 = (0 : Int32) then some (some (.int (-1 : Int32)), m1) else ga (((20 : Int32) + ((3 : Int32) * x1)) + (2 : Int32)) 210 (li (m1.1 82 ((((20 : Int32) + ((3 : Int32) * x1)) + (2 : Int32))).toNatClampNeg) (fun y4 => li (y4 + (1 : Int32)) (fun y5 => lp (bX8_ways_28 x1 y4) FU (y5, m1)))))
set_option maxRecDepth 100000 in
theorem bsX8_ways (l : Launch) (x1 : Int32) (m : mMem)  : BS l qX8_ways [.ref 81, .int x1] m (fX8_ways x1 m) := BS_of (by decide) (Nat.le_of_ble_eq_true rfl) (fun X _ => by
    show T qX8_ways X (fX8_ways x1 m) 0 [(0, .ref 81), (1, .int x1)] [] m
    unfold fX8_ways
    refine T_aload_n 0 rfl rfl dX8_ways_0 ?_
    refine T_iload_n 1 rfl rfl dX8_ways_1 ?_
    refine T_cVI (c := 8) [.int x1] [] mkX8_isLodger lmX8_176 rfl rfl (by decide) (Nat.le_of_ble_eq_true rfl) kd_81 dX8_ways_2 (bsX8_isLodger _ x1 m) (fun z2 m1 => ?_)
    refine T_if_ne 10 dX8_ways_5 (by decide) (fun _ => ?_) (fun _ => ?_)
    · refine T_iconst (-1 : Int32) (by decide) dX8_ways_8 ?_
      exact T_iret rfl dX8_ways_9
    · refine T_aload_n 0 rfl rfl dX8_ways_10 ?_
      refine gRX8_7 rfl kd_81 82 rfl dX8_ways_11 ?_
      refine T_bipush (20 : Int32) (by decide) dX8_ways_14 ?_
      refine T_iconst (3 : Int32) (by decide) dX8_ways_16 ?_
      refine T_iload_n 1 rfl rfl dX8_ways_17 ?_
      refine T_imul dX8_ways_18 ?_
      refine T_iadd dX8_ways_19 ?_
      refine T_iconst (2 : Int32) (by decide) dX8_ways_20 ?_
      refine T_iadd dX8_ways_21 ?_
      refine T_iald kd_82 dX8_ways_22 ?_
      refine T_istore_n (lv' := [(2, .int (m1.1 82 ((((20 : Int32) + ((3 : Int32) * x1)) + (2 : Int32))).toNatClampNeg)), (0, .ref 81), (1, .int x1)]) rfl (Nat.le_of_ble_eq_true rfl) rfl dX8_ways_23 ?_
      refine T_li (fun y4 => ?_)
      refine T_iload_n 0 rfl rfl dX8_ways_24 ?_
      refine T_iconst (1 : Int32) (by decide) dX8_ways_25 ?_
      refine T_iadd dX8_ways_26 ?_
      refine T_istore_n (lv' := [(3, .int (y4 + (1 : Int32))), (2, .int y4), (0, .ref 81), (1, .int x1)]) rfl (Nat.le_of_ble_eq_true rfl) rfl dX8_ways_27 ?_
      refine T_li (fun y5 => ?_)
      exact T_sub [2, 3, 1, 0] rfl (tX8_ways_28 X x1 y4  FU (y5, m1)))
