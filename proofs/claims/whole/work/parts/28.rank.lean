abbrev qX7_fault : mMI := (yX7_fault, cX7_fault, 1, (some .int), 0)
theorem dX7_fault_0 : decode cX7_fault 0 = .ok (.aload_n 0, 1) := by decide +kernel
theorem dX7_fault_1 : decode cX7_fault 1 = .ok (.getfield 10, 3) := by decide +kernel
theorem dX7_fault_4 : decode cX7_fault 4 = .ok (.getfield 88, 3) := by decide +kernel
theorem dX7_fault_7 : decode cX7_fault 7 = .ok (.ireturn, 1) := by decide +kernel
theorem mkX7_fault : mokV qX7_fault 0 := ⟨⟨⟨⟨by decide, by decide, by decide +kernel⟩, by decide⟩, gd_mem 51 (by decide +kernel) (by decide +kernel), gd_mem 489 (by decide +kernel) (by decide +kernel)⟩, gd_mem 487 (by decide +kernel) (by decide +kernel), gd_mem 488 (by decide +kernel) (by decide +kernel)⟩
abbrev qX7_rule : mMI := (yX7_rule, cX7_rule, 2, (some .int), 0)
theorem dX7_rule_0 : decode cX7_rule 0 = .ok (.iload_n 1, 1) := by decide +kernel
theorem dX7_rule_1 : decode cX7_rule 1 = .ok (.tableswitch 75 0 4 #[35, 43, 51, 59, 67], 35) := by decide +kernel
theorem dX7_rule_36 : decode cX7_rule 36 = .ok (.aload_n 0, 1) := by decide +kernel
theorem dX7_rule_37 : decode cX7_rule 37 = .ok (.getfield 19, 3) := by decide +kernel
theorem dX7_rule_40 : decode cX7_rule 40 = .ok (.getfield 101, 3) := by decide +kernel
theorem dX7_rule_43 : decode cX7_rule 43 = .ok (.ireturn, 1) := by decide +kernel
theorem dX7_rule_44 : decode cX7_rule 44 = .ok (.aload_n 0, 1) := by decide +kernel
theorem dX7_rule_45 : decode cX7_rule 45 = .ok (.getfield 19, 3) := by decide +kernel
theorem dX7_rule_48 : decode cX7_rule 48 = .ok (.getfield 104, 3) := by decide +kernel
theorem dX7_rule_51 : decode cX7_rule 51 = .ok (.ireturn, 1) := by decide +kernel
theorem dX7_rule_52 : decode cX7_rule 52 = .ok (.aload_n 0, 1) := by decide +kernel
theorem dX7_rule_53 : decode cX7_rule 53 = .ok (.getfield 19, 3) := by decide +kernel
theorem dX7_rule_56 : decode cX7_rule 56 = .ok (.getfield 107, 3) := by decide +kernel
theorem dX7_rule_59 : decode cX7_rule 59 = .ok (.ireturn, 1) := by decide +kernel
theorem dX7_rule_60 : decode cX7_rule 60 = .ok (.aload_n 0, 1) := by decide +kernel
theorem dX7_rule_61 : decode cX7_rule 61 = .ok (.getfield 19, 3) := by decide +kernel
theorem dX7_rule_64 : decode cX7_rule 64 = .ok (.getfield 110, 3) := by decide +kernel
theorem dX7_rule_67 : decode cX7_rule 67 = .ok (.ireturn, 1) := by decide +kernel
theorem dX7_rule_68 : decode cX7_rule 68 = .ok (.aload_n 0, 1) := by decide +kernel
theorem dX7_rule_69 : decode cX7_rule 69 = .ok (.getfield 19, 3) := by decide +kernel
theorem dX7_rule_72 : decode cX7_rule 72 = .ok (.getfield 113, 3) := by decide +kernel
theorem dX7_rule_75 : decode cX7_rule 75 = .ok (.ireturn, 1) := by decide +kernel
theorem dX7_rule_76 : decode cX7_rule 76 = .ok (.iconst (-1), 1) := by decide +kernel
theorem dX7_rule_77 : decode cX7_rule 77 = .ok (.ireturn, 1) := by decide +kernel
theorem mkX7_rule : mokV qX7_rule 1 := ⟨⟨⟨⟨by decide, by decide, by decide +kernel⟩, by decide⟩, gd_mem 51 (by decide +kernel) (by decide +kernel), gd_mem 493 (by decide +kernel) (by decide +kernel)⟩, gd_mem 491 (by decide +kernel) (by decide +kernel), gd_mem 492 (by decide +kernel) (by decide +kernel)⟩
abbrev qX7_torn : mMI := (yX7_torn, cX7_torn, 1, (some .int), 0)
theorem dX7_torn_0 : decode cX7_torn 0 = .ok (.aload_n 0, 1) := by decide +kernel
theorem dX7_torn_1 : decode cX7_torn 1 = .ok (.getfield 68, 3) := by decide +kernel
theorem dX7_torn_4 : decode cX7_torn 4 = .ok (.ireturn, 1) := by decide +kernel
theorem mkX7_torn : mokV qX7_torn 0 := ⟨⟨⟨⟨by decide, by decide, by decide +kernel⟩, by decide⟩, gd_mem 51 (by decide +kernel) (by decide +kernel), gd_mem 864 (by decide +kernel) (by decide +kernel)⟩, gd_mem 862 (by decide +kernel) (by decide +kernel), gd_mem 863 (by decide +kernel) (by decide +kernel)⟩
abbrev qX7_within : mMI := (yX7_within, cX7_within, 3, (some .boolean), 0)
theorem dX7_within_0 : decode cX7_within 0 = .ok (.iload_n 0, 1) := by decide +kernel
theorem dX7_within_1 : decode cX7_within 1 = .ok (.iload_n 1, 1) := by decide +kernel
theorem dX7_within_2 : decode cX7_within 2 = .ok (.if_icmp .lt 12, 3) := by decide +kernel
theorem dX7_within_5 : decode cX7_within 5 = .ok (.iload_n 0, 1) := by decide +kernel
theorem dX7_within_6 : decode cX7_within 6 = .ok (.iload_n 2, 1) := by decide +kernel
theorem dX7_within_7 : decode cX7_within 7 = .ok (.if_icmp .gt 7, 3) := by decide +kernel
theorem dX7_within_10 : decode cX7_within 10 = .ok (.iconst 1, 1) := by decide +kernel
theorem dX7_within_11 : decode cX7_within 11 = .ok (.goto 4, 3) := by decide +kernel
theorem dX7_within_14 : decode cX7_within 14 = .ok (.iconst 0, 1) := by decide +kernel
theorem dX7_within_15 : decode cX7_within 15 = .ok (.ireturn, 1) := by decide +kernel
theorem mkX7_within : mokS qX7_within 3 := ⟨⟨⟨⟨by decide, by decide, by decide +kernel⟩, by decide⟩, gd_mem 51 (by decide +kernel) (by decide +kernel), gd_mem 340 (by decide +kernel) (by decide +kernel)⟩, gd_mem 339 (by decide +kernel) (by decide +kernel)⟩
abbrev qX7_forgetImages : mMI := (yX7_forgetImages, cX7_forgetImages, 2, none, 0)
theorem dX7_forgetImages_0 : decode cX7_forgetImages 0 = .ok (.iconst 0, 1) := by decide +kernel
theorem dX7_forgetImages_1 : decode cX7_forgetImages 1 = .ok (.istore_n 1, 1) := by decide +kernel
theorem dX7_forgetImages_2 : decode cX7_forgetImages 2 = .ok (.iload_n 1, 1) := by decide +kernel
theorem dX7_forgetImages_3 : decode cX7_forgetImages 3 = .ok (.iconst 2, 1) := by decide +kernel
theorem dX7_forgetImages_4 : decode cX7_forgetImages 4 = .ok (.if_icmp .ge 16, 3) := by decide +kernel
theorem dX7_forgetImages_7 : decode cX7_forgetImages 7 = .ok (.aload_n 0, 1) := by decide +kernel
theorem dX7_forgetImages_8 : decode cX7_forgetImages 8 = .ok (.getfield 30, 3) := by decide +kernel
theorem dX7_forgetImages_11 : decode cX7_forgetImages 11 = .ok (.iload_n 1, 1) := by decide +kernel
theorem dX7_forgetImages_12 : decode cX7_forgetImages 12 = .ok (.iconst 0, 1) := by decide +kernel
theorem dX7_forgetImages_13 : decode cX7_forgetImages 13 = .ok (.bastore, 1) := by decide +kernel
theorem dX7_forgetImages_14 : decode cX7_forgetImages 14 = .ok (.iinc 1 1, 3) := by decide +kernel
theorem dX7_forgetImages_17 : decode cX7_forgetImages 17 = .ok (.goto (-15), 3) := by decide +kernel
theorem dX7_forgetImages_20 : decode cX7_forgetImages 20 = .ok (.return_, 1) := by decide +kernel
theorem mkX7_forgetImages : mokV qX7_forgetImages 0 := ⟨⟨⟨⟨by decide, by decide, by decide +kernel⟩, by decide⟩, gd_mem 51 (by decide +kernel) (by decide +kernel), gd_mem 485 (by decide +kernel) (by decide +kernel)⟩, gd_mem 484 (by decide +kernel) (by decide +kernel), gd_mem 9 (by decide +kernel) (by decide +kernel)⟩
abbrev qX7_countImages : mMI := (yX7_countImages, cX7_countImages, 3, (some .int), 0)
theorem dX7_countImages_0 : decode cX7_countImages 0 = .ok (.iconst 0, 1) := by decide +kernel
theorem dX7_countImages_1 : decode cX7_countImages 1 = .ok (.istore_n 1, 1) := by decide +kernel
theorem dX7_countImages_2 : decode cX7_countImages 2 = .ok (.iconst 0, 1) := by decide +kernel
theorem dX7_countImages_3 : decode cX7_countImages 3 = .ok (.istore_n 2, 1) := by decide +kernel
theorem dX7_countImages_4 : decode cX7_countImages 4 = .ok (.iload_n 2, 1) := by decide +kernel
theorem dX7_countImages_5 : decode cX7_countImages 5 = .ok (.iconst 2, 1) := by decide +kernel
theorem dX7_countImages_6 : decode cX7_countImages 6 = .ok (.if_icmp .ge 21, 3) := by decide +kernel
theorem dX7_countImages_9 : decode cX7_countImages 9 = .ok (.aload_n 0, 1) := by decide +kernel
theorem dX7_countImages_10 : decode cX7_countImages 10 = .ok (.getfield 30, 3) := by decide +kernel
theorem dX7_countImages_13 : decode cX7_countImages 13 = .ok (.iload_n 2, 1) := by decide +kernel
theorem dX7_countImages_14 : decode cX7_countImages 14 = .ok (.baload, 1) := by decide +kernel
theorem dX7_countImages_15 : decode cX7_countImages 15 = .ok (.ifCond .eq 6, 3) := by decide +kernel
theorem dX7_countImages_18 : decode cX7_countImages 18 = .ok (.iinc 1 1, 3) := by decide +kernel
theorem dX7_countImages_21 : decode cX7_countImages 21 = .ok (.iinc 2 1, 3) := by decide +kernel
theorem dX7_countImages_24 : decode cX7_countImages 24 = .ok (.goto (-20), 3) := by decide +kernel
theorem dX7_countImages_27 : decode cX7_countImages 27 = .ok (.iload_n 1, 1) := by decide +kernel
theorem dX7_countImages_28 : decode cX7_countImages 28 = .ok (.ireturn, 1) := by decide +kernel
theorem mkX7_countImages : mokV qX7_countImages 0 := ⟨⟨⟨⟨by decide, by decide, by decide +kernel⟩, by decide⟩, gd_mem 51 (by decide +kernel) (by decide +kernel), gd_mem 872 (by decide +kernel) (by decide +kernel)⟩, gd_mem 871 (by decide +kernel) (by decide +kernel), gd_mem 18 (by decide +kernel) (by decide +kernel)⟩
abbrev qX7_exchanged : mMI := (yX7_exchanged, cX7_exchanged, 4, (some .int), 0)
theorem dX7_exchanged_0 : decode cX7_exchanged 0 = .ok (.aload_n 0, 1) := by decide +kernel
theorem dX7_exchanged_1 : decode cX7_exchanged 1 = .ok (.iload_n 1, 1) := by decide +kernel
theorem dX7_exchanged_2 : decode cX7_exchanged 2 = .ok (.iaload, 1) := by decide +kernel
theorem dX7_exchanged_3 : decode cX7_exchanged 3 = .ok (.istore_n 3, 1) := by decide +kernel
theorem dX7_exchanged_4 : decode cX7_exchanged 4 = .ok (.aload_n 0, 1) := by decide +kernel
theorem dX7_exchanged_5 : decode cX7_exchanged 5 = .ok (.iload_n 1, 1) := by decide +kernel
theorem dX7_exchanged_6 : decode cX7_exchanged 6 = .ok (.iload_n 2, 1) := by decide +kernel
theorem dX7_exchanged_7 : decode cX7_exchanged 7 = .ok (.iastore, 1) := by decide +kernel
theorem dX7_exchanged_8 : decode cX7_exchanged 8 = .ok (.iload_n 3, 1) := by decide +kernel
theorem dX7_exchanged_9 : decode cX7_exchanged 9 = .ok (.ireturn, 1) := by decide +kernel
theorem mkX7_exchanged : mokS qX7_exchanged 3 := ⟨⟨⟨⟨by decide, by decide, by decide +kernel⟩, by decide⟩, gd_mem 51 (by decide +kernel) (by decide +kernel), gd_mem 551 (by decide +kernel) (by decide +kernel)⟩, gd_mem 550 (by decide +kernel) (by decide +kernel)⟩
abbrev qX7_feed : mMI := (yX7_feed, cX7_feed, 2, (some .int), 1)
theorem dX7_feed_0 : decode cX7_feed 0 = .ok (.iload_n 1, 1) := by decide +kernel
theorem dX7_feed_1 : decode cX7_feed 1 = .ok (.iconst 0, 1) := by decide +kernel
theorem dX7_feed_2 : decode cX7_feed 2 = .ok (.bipush 127, 2) := by decide +kernel
theorem dX7_feed_4 : decode cX7_feed 4 = .ok (.invokestatic 73, 3) := by decide +kernel
theorem dX7_feed_7 : decode cX7_feed 7 = .ok (.ifCond .ne 5, 3) := by decide +kernel
theorem dX7_feed_10 : decode cX7_feed 10 = .ok (.iconst (-1), 1) := by decide +kernel
theorem dX7_feed_11 : decode cX7_feed 11 = .ok (.ireturn, 1) := by decide +kernel
theorem dX7_feed_12 : decode cX7_feed 12 = .ok (.aload_n 0, 1) := by decide +kernel
theorem dX7_feed_13 : decode cX7_feed 13 = .ok (.getfield 10, 3) := by decide +kernel
theorem dX7_feed_16 : decode cX7_feed 16 = .ok (.iload_n 1, 1) := by decide +kernel
theorem dX7_feed_17 : decode cX7_feed 17 = .ok (.invokevirtual 77, 3) := by decide +kernel
theorem dX7_feed_20 : decode cX7_feed 20 = .ok (.ireturn, 1) := by decide +kernel
theorem mkX7_feed : mokV qX7_feed 1 := ⟨⟨⟨⟨by decide, by decide, by decide +kernel⟩, by decide⟩, gd_mem 51 (by decide +kernel) (by decide +kernel), gd_mem 337 (by decide +kernel) (by decide +kernel)⟩, gd_mem 335 (by decide +kernel) (by decide +kernel), gd_mem 336 (by decide +kernel) (by decide +kernel)⟩
abbrev qX7_end : mMI := (yX7_end, cX7_end, 3, (some .int), 1)
theorem dX7_end_0 : decode cX7_end 0 = .ok (.iload_n 1, 1) := by decide +kernel
theorem dX7_end_1 : decode cX7_end 1 = .ok (.iconst 0, 1) := by decide +kernel
theorem dX7_end_2 : decode cX7_end 2 = .ok (.aload_n 0, 1) := by decide +kernel
theorem dX7_end_3 : decode cX7_end 3 = .ok (.getfield 10, 3) := by decide +kernel
theorem dX7_end_6 : decode cX7_end 6 = .ok (.getfield 81, 3) := by decide +kernel
theorem dX7_end_9 : decode cX7_end 9 = .ok (.invokestatic 73, 3) := by decide +kernel
theorem dX7_end_12 : decode cX7_end 12 = .ok (.ifCond .ne 5, 3) := by decide +kernel
theorem dX7_end_15 : decode cX7_end 15 = .ok (.iconst (-1), 1) := by decide +kernel
theorem dX7_end_16 : decode cX7_end 16 = .ok (.ireturn, 1) := by decide +kernel
theorem dX7_end_17 : decode cX7_end 17 = .ok (.aload_n 0, 1) := by decide +kernel
theorem dX7_end_18 : decode cX7_end 18 = .ok (.getfield 10, 3) := by decide +kernel
theorem dX7_end_21 : decode cX7_end 21 = .ok (.getfield 81, 3) := by decide +kernel
theorem dX7_end_24 : decode cX7_end 24 = .ok (.istore_n 2, 1) := by decide +kernel
theorem dX7_end_25 : decode cX7_end 25 = .ok (.aload_n 0, 1) := by decide +kernel
theorem dX7_end_26 : decode cX7_end 26 = .ok (.getfield 10, 3) := by decide +kernel
theorem dX7_end_29 : decode cX7_end 29 = .ok (.iload_n 1, 1) := by decide +kernel
theorem dX7_end_30 : decode cX7_end 30 = .ok (.putfield 81, 3) := by decide +kernel
theorem dX7_end_33 : decode cX7_end 33 = .ok (.iload_n 2, 1) := by decide +kernel
theorem dX7_end_34 : decode cX7_end 34 = .ok (.ireturn, 1) := by decide +kernel
theorem mkX7_end : mokV qX7_end 1 := ⟨⟨⟨⟨by decide, by decide, by decide +kernel⟩, by decide⟩, gd_mem 51 (by decide +kernel) (by decide +kernel), gd_mem 348 (by decide +kernel) (by decide +kernel)⟩, gd_mem 346 (by decide +kernel) (by decide +kernel), gd_mem 347 (by decide +kernel) (by decide +kernel)⟩
abbrev qX7_law : mMI := (yX7_law, cX7_law, 4, (some .int), 1)
theorem dX7_law_0 : decode cX7_law 0 = .ok (.iload_n 1, 1) := by decide +kernel
theorem dX7_law_1 : decode cX7_law 1 = .ok (.ifCond .ne 30, 3) := by decide +kernel
theorem dX7_law_4 : decode cX7_law 4 = .ok (.iload_n 2, 1) := by decide +kernel
theorem dX7_law_5 : decode cX7_law 5 = .ok (.iconst 0, 1) := by decide +kernel
theorem dX7_law_6 : decode cX7_law 6 = .ok (.iconst 3, 1) := by decide +kernel
theorem dX7_law_7 : decode cX7_law 7 = .ok (.invokestatic 73, 3) := by decide +kernel
theorem dX7_law_10 : decode cX7_law 10 = .ok (.ifCond .eq 21, 3) := by decide +kernel
theorem dX7_law_13 : decode cX7_law 13 = .ok (.aload_n 0, 1) := by decide +kernel
theorem dX7_law_14 : decode cX7_law 14 = .ok (.getfield 19, 3) := by decide +kernel
theorem dX7_law_17 : decode cX7_law 17 = .ok (.getfield 107, 3) := by decide +kernel
theorem dX7_law_20 : decode cX7_law 20 = .ok (.istore_n 3, 1) := by decide +kernel
theorem dX7_law_21 : decode cX7_law 21 = .ok (.aload_n 0, 1) := by decide +kernel
theorem dX7_law_22 : decode cX7_law 22 = .ok (.getfield 19, 3) := by decide +kernel
theorem dX7_law_25 : decode cX7_law 25 = .ok (.iload_n 2, 1) := by decide +kernel
theorem dX7_law_26 : decode cX7_law 26 = .ok (.putfield 107, 3) := by decide +kernel
theorem dX7_law_29 : decode cX7_law 29 = .ok (.iload_n 3, 1) := by decide +kernel
theorem dX7_law_30 : decode cX7_law 30 = .ok (.ireturn, 1) := by decide +kernel
theorem dX7_law_31 : decode cX7_law 31 = .ok (.iload_n 1, 1) := by decide +kernel
theorem dX7_law_32 : decode cX7_law 32 = .ok (.iconst 1, 1) := by decide +kernel
theorem dX7_law_33 : decode cX7_law 33 = .ok (.if_icmp .ne 31, 3) := by decide +kernel
theorem dX7_law_36 : decode cX7_law 36 = .ok (.iload_n 2, 1) := by decide +kernel
theorem dX7_law_37 : decode cX7_law 37 = .ok (.iconst 1, 1) := by decide +kernel
theorem dX7_law_38 : decode cX7_law 38 = .ok (.bipush 99, 2) := by decide +kernel
theorem dX7_law_40 : decode cX7_law 40 = .ok (.invokestatic 73, 3) := by decide +kernel
theorem dX7_law_43 : decode cX7_law 43 = .ok (.ifCond .eq 21, 3) := by decide +kernel
theorem dX7_law_46 : decode cX7_law 46 = .ok (.aload_n 0, 1) := by decide +kernel
theorem dX7_law_47 : decode cX7_law 47 = .ok (.getfield 19, 3) := by decide +kernel
theorem dX7_law_50 : decode cX7_law 50 = .ok (.getfield 110, 3) := by decide +kernel
theorem dX7_law_53 : decode cX7_law 53 = .ok (.istore_n 3, 1) := by decide +kernel
theorem dX7_law_54 : decode cX7_law 54 = .ok (.aload_n 0, 1) := by decide +kernel
theorem dX7_law_55 : decode cX7_law 55 = .ok (.getfield 19, 3) := by decide +kernel
theorem dX7_law_58 : decode cX7_law 58 = .ok (.iload_n 2, 1) := by decide +kernel
theorem dX7_law_59 : decode cX7_law 59 = .ok (.putfield 110, 3) := by decide +kernel
theorem dX7_law_62 : decode cX7_law 62 = .ok (.iload_n 3, 1) := by decide +kernel
theorem dX7_law_63 : decode cX7_law 63 = .ok (.ireturn, 1) := by decide +kernel
theorem dX7_law_64 : decode cX7_law 64 = .ok (.iconst (-1), 1) := by decide +kernel
theorem dX7_law_65 : decode cX7_law 65 = .ok (.ireturn, 1) := by decide +kernel
theorem mkX7_law : mokV qX7_law 2 := ⟨⟨⟨⟨by decide, by decide, by decide +kernel⟩, by decide⟩, gd_mem 51 (by decide +kernel) (by decide +kernel), gd_mem 579 (by decide +kernel) (by decide +kernel)⟩, gd_mem 577 (by decide +kernel) (by decide +kernel), gd_mem 578 (by decide +kernel) (by decide +kernel)⟩
abbrev qX7_forget : mMI := (yX7_forget, cX7_forget, 3, (some .int), 1)
theorem dX7_forget_0 : decode cX7_forget 0 = .ok (.iload_n 1, 1) := by decide +kernel
theorem dX7_forget_1 : decode cX7_forget 1 = .ok (.iconst 0, 1) := by decide +kernel
theorem dX7_forget_2 : decode cX7_forget 2 = .ok (.aload_n 0, 1) := by decide +kernel
theorem dX7_forget_3 : decode cX7_forget 3 = .ok (.getfield 58, 3) := by decide +kernel
theorem dX7_forget_6 : decode cX7_forget 6 = .ok (.getfield 95, 3) := by decide +kernel
theorem dX7_forget_9 : decode cX7_forget 9 = .ok (.invokestatic 73, 3) := by decide +kernel
theorem dX7_forget_12 : decode cX7_forget 12 = .ok (.ifCond .ne 5, 3) := by decide +kernel
theorem dX7_forget_15 : decode cX7_forget 15 = .ok (.iconst (-1), 1) := by decide +kernel
theorem dX7_forget_16 : decode cX7_forget 16 = .ok (.ireturn, 1) := by decide +kernel
theorem dX7_forget_17 : decode cX7_forget 17 = .ok (.aload_n 0, 1) := by decide +kernel
theorem dX7_forget_18 : decode cX7_forget 18 = .ok (.getfield 58, 3) := by decide +kernel
theorem dX7_forget_21 : decode cX7_forget 21 = .ok (.getfield 95, 3) := by decide +kernel
theorem dX7_forget_24 : decode cX7_forget 24 = .ok (.istore_n 2, 1) := by decide +kernel
theorem dX7_forget_25 : decode cX7_forget 25 = .ok (.aload_n 0, 1) := by decide +kernel
theorem dX7_forget_26 : decode cX7_forget 26 = .ok (.getfield 58, 3) := by decide +kernel
theorem dX7_forget_29 : decode cX7_forget 29 = .ok (.iload_n 1, 1) := by decide +kernel
theorem dX7_forget_30 : decode cX7_forget 30 = .ok (.putfield 95, 3) := by decide +kernel
theorem dX7_forget_33 : decode cX7_forget 33 = .ok (.iload_n 2, 1) := by decide +kernel
theorem dX7_forget_34 : decode cX7_forget 34 = .ok (.ireturn, 1) := by decide +kernel
theorem mkX7_forget : mokV qX7_forget 1 := ⟨⟨⟨⟨by decide, by decide, by decide +kernel⟩, by decide⟩, gd_mem 51 (by decide +kernel) (by decide +kernel), gd_mem 773 (by decide +kernel) (by decide +kernel)⟩, gd_mem 771 (by decide +kernel) (by decide +kernel), gd_mem 772 (by decide +kernel) (by decide +kernel)⟩
abbrev qX7_isStep : mMI := (yX7_isStep, cX7_isStep, 2, (some .boolean), 1)
theorem dX7_isStep_0 : decode cX7_isStep 0 = .ok (.iload_n 1, 1) := by decide +kernel
theorem dX7_isStep_1 : decode cX7_isStep 1 = .ok (.iconst 0, 1) := by decide +kernel
theorem dX7_isStep_2 : decode cX7_isStep 2 = .ok (.aload_n 0, 1) := by decide +kernel
theorem dX7_isStep_3 : decode cX7_isStep 3 = .ok (.getfield 19, 3) := by decide +kernel
theorem dX7_isStep_6 : decode cX7_isStep 6 = .ok (.getfield 101, 3) := by decide +kernel
theorem dX7_isStep_9 : decode cX7_isStep 9 = .ok (.iconst 1, 1) := by decide +kernel
theorem dX7_isStep_10 : decode cX7_isStep 10 = .ok (.isub, 1) := by decide +kernel
theorem dX7_isStep_11 : decode cX7_isStep 11 = .ok (.invokestatic 73, 3) := by decide +kernel
theorem dX7_isStep_14 : decode cX7_isStep 14 = .ok (.ireturn, 1) := by decide +kernel
theorem mkX7_isStep : mokV qX7_isStep 1 := ⟨⟨⟨⟨by decide, by decide, by decide +kernel⟩, by decide⟩, gd_mem 51 (by decide +kernel) (by decide +kernel), gd_mem 501 (by decide +kernel) (by decide +kernel)⟩, gd_mem 500 (by decide +kernel) (by decide +kernel), gd_mem 10 (by decide +kernel) (by decide +kernel)⟩
abbrev qX7_isLodger : mMI := (yX7_isLodger, cX7_isLodger, 2, (some .boolean), 1)
theorem dX7_isLodger_0 : decode cX7_isLodger 0 = .ok (.iload_n 1, 1) := by decide +kernel
theorem dX7_isLodger_1 : decode cX7_isLodger 1 = .ok (.iconst 0, 1) := by decide +kernel
theorem dX7_isLodger_2 : decode cX7_isLodger 2 = .ok (.aload_n 0, 1) := by decide +kernel
theorem dX7_isLodger_3 : decode cX7_isLodger 3 = .ok (.getfield 19, 3) := by decide +kernel
theorem dX7_isLodger_6 : decode cX7_isLodger 6 = .ok (.getfield 104, 3) := by decide +kernel
theorem dX7_isLodger_9 : decode cX7_isLodger 9 = .ok (.iconst 1, 1) := by decide +kernel
theorem dX7_isLodger_10 : decode cX7_isLodger 10 = .ok (.isub, 1) := by decide +kernel
theorem dX7_isLodger_11 : decode cX7_isLodger 11 = .ok (.invokestatic 73, 3) := by decide +kernel
theorem dX7_isLodger_14 : decode cX7_isLodger 14 = .ok (.ireturn, 1) := by decide +kernel
theorem mkX7_isLodger : mokV qX7_isLodger 1 := ⟨⟨⟨⟨by decide, by decide, by decide +kernel⟩, by decide⟩, gd_mem 51 (by decide +kernel) (by decide +kernel), gd_mem 520 (by decide +kernel) (by decide +kernel)⟩, gd_mem 519 (by decide +kernel) (by decide +kernel), gd_mem 11 (by decide +kernel) (by decide +kernel)⟩
abbrev qX7_isSheet : mMI := (yX7_isSheet, cX7_isSheet, 1, (some .boolean), 1)
theorem dX7_isSheet_0 : decode cX7_isSheet 0 = .ok (.iload_n 0, 1) := by decide +kernel
theorem dX7_isSheet_1 : decode cX7_isSheet 1 = .ok (.iconst 0, 1) := by decide +kernel
theorem dX7_isSheet_2 : decode cX7_isSheet 2 = .ok (.iconst 3, 1) := by decide +kernel
theorem dX7_isSheet_3 : decode cX7_isSheet 3 = .ok (.invokestatic 73, 3) := by decide +kernel
theorem dX7_isSheet_6 : decode cX7_isSheet 6 = .ok (.ireturn, 1) := by decide +kernel
theorem mkX7_isSheet : mokS qX7_isSheet 1 := ⟨⟨⟨⟨by decide, by decide, by decide +kernel⟩, by decide⟩, gd_mem 51 (by decide +kernel) (by decide +kernel), gd_mem 827 (by decide +kernel) (by decide +kernel)⟩, gd_mem 826 (by decide +kernel) (by decide +kernel)⟩
abbrev qX7_isLane : mMI := (yX7_isLane, cX7_isLane, 1, (some .boolean), 1)
theorem dX7_isLane_0 : decode cX7_isLane 0 = .ok (.iload_n 0, 1) := by decide +kernel
theorem dX7_isLane_1 : decode cX7_isLane 1 = .ok (.iconst 0, 1) := by decide +kernel
theorem dX7_isLane_2 : decode cX7_isLane 2 = .ok (.iconst 2, 1) := by decide +kernel
theorem dX7_isLane_3 : decode cX7_isLane 3 = .ok (.invokestatic 73, 3) := by decide +kernel
theorem dX7_isLane_6 : decode cX7_isLane 6 = .ok (.ireturn, 1) := by decide +kernel
theorem mkX7_isLane : mokS qX7_isLane 1 := ⟨⟨⟨⟨by decide, by decide, by decide +kernel⟩, by decide⟩, gd_mem 51 (by decide +kernel) (by decide +kernel), gd_mem 830 (by decide +kernel) (by decide +kernel)⟩, gd_mem 829 (by decide +kernel) (by decide +kernel)⟩
abbrev qX7_stepOfPath : mMI := (yX7_stepOfPath, cX7_stepOfPath, 4, (some .int), 1)
theorem dX7_stepOfPath_0 : decode cX7_stepOfPath 0 = .ok (.iload_n 0, 1) := by decide +kernel
theorem dX7_stepOfPath_1 : decode cX7_stepOfPath 1 = .ok (.istore_n 2, 1) := by decide +kernel
theorem dX7_stepOfPath_2 : decode cX7_stepOfPath 2 = .ok (.iconst 0, 1) := by decide +kernel
theorem dX7_stepOfPath_3 : decode cX7_stepOfPath 3 = .ok (.istore_n 3, 1) := by decide +kernel
theorem dX7_stepOfPath_4 : decode cX7_stepOfPath 4 = .ok (.iload_n 3, 1) := by decide +kernel
theorem dX7_stepOfPath_5 : decode cX7_stepOfPath 5 = .ok (.iload_n 1, 1) := by decide +kernel
theorem dX7_stepOfPath_6 : decode cX7_stepOfPath 6 = .ok (.if_icmp .ge 15, 3) := by decide +kernel
theorem dX7_stepOfPath_9 : decode cX7_stepOfPath 9 = .ok (.iload_n 2, 1) := by decide +kernel
theorem dX7_stepOfPath_10 : decode cX7_stepOfPath 10 = .ok (.iload_n 2, 1) := by decide +kernel
theorem dX7_stepOfPath_11 : decode cX7_stepOfPath 11 = .ok (.iconst 1, 1) := by decide +kernel
theorem dX7_stepOfPath_12 : decode cX7_stepOfPath 12 = .ok (.isub, 1) := by decide +kernel
theorem dX7_stepOfPath_13 : decode cX7_stepOfPath 13 = .ok (.iand, 1) := by decide +kernel
theorem dX7_stepOfPath_14 : decode cX7_stepOfPath 14 = .ok (.istore_n 2, 1) := by decide +kernel
theorem dX7_stepOfPath_15 : decode cX7_stepOfPath 15 = .ok (.iinc 3 1, 3) := by decide +kernel
theorem dX7_stepOfPath_18 : decode cX7_stepOfPath 18 = .ok (.goto (-14), 3) := by decide +kernel
theorem dX7_stepOfPath_21 : decode cX7_stepOfPath 21 = .ok (.iload_n 2, 1) := by decide +kernel
theorem dX7_stepOfPath_22 : decode cX7_stepOfPath 22 = .ok (.ifCond .ne 8, 3) := by decide +kernel
theorem dX7_stepOfPath_25 : decode cX7_stepOfPath 25 = .ok (.bipush (-4), 2) := by decide +kernel
theorem dX7_stepOfPath_27 : decode cX7_stepOfPath 27 = .ok (.goto 7, 3) := by decide +kernel
theorem dX7_stepOfPath_30 : decode cX7_stepOfPath 30 = .ok (.iload_n 2, 1) := by decide +kernel
theorem dX7_stepOfPath_31 : decode cX7_stepOfPath 31 = .ok (.invokestatic 210, 3) := by decide +kernel
theorem dX7_stepOfPath_34 : decode cX7_stepOfPath 34 = .ok (.ireturn, 1) := by decide +kernel
theorem mkX7_stepOfPath : mokS qX7_stepOfPath 2 := ⟨⟨⟨⟨by decide, by decide, by decide +kernel⟩, by decide⟩, gd_mem 51 (by decide +kernel) (by decide +kernel), gd_mem 613 (by decide +kernel) (by decide +kernel)⟩, gd_mem 612 (by decide +kernel) (by decide +kernel)⟩
abbrev qX7_step : mMI := (yX7_step, cX7_step, 3, (some .int), 2)
theorem dX7_step_0 : decode cX7_step 0 = .ok (.aload_n 0, 1) := by decide +kernel
theorem dX7_step_1 : decode cX7_step 1 = .ok (.iload_n 1, 1) := by decide +kernel
theorem dX7_step_2 : decode cX7_step 2 = .ok (.invokevirtual 116, 3) := by decide +kernel
theorem dX7_step_5 : decode cX7_step 5 = .ok (.ifCond .ne 5, 3) := by decide +kernel
theorem dX7_step_8 : decode cX7_step 8 = .ok (.iconst (-1), 1) := by decide +kernel
theorem dX7_step_9 : decode cX7_step 9 = .ok (.ireturn, 1) := by decide +kernel
theorem dX7_step_10 : decode cX7_step 10 = .ok (.iload_n 2, 1) := by decide +kernel
theorem dX7_step_11 : decode cX7_step 11 = .ok (.tableswitch 89 0 4 #[33, 43, 53, 63, 72], 33) := by decide +kernel
theorem dX7_step_44 : decode cX7_step 44 = .ok (.aload_n 0, 1) := by decide +kernel
theorem dX7_step_45 : decode cX7_step 45 = .ok (.getfield 19, 3) := by decide +kernel
theorem dX7_step_48 : decode cX7_step 48 = .ok (.getfield 120, 3) := by decide +kernel
theorem dX7_step_51 : decode cX7_step 51 = .ok (.iload_n 1, 1) := by decide +kernel
theorem dX7_step_52 : decode cX7_step 52 = .ok (.iaload, 1) := by decide +kernel
theorem dX7_step_53 : decode cX7_step 53 = .ok (.ireturn, 1) := by decide +kernel
theorem dX7_step_54 : decode cX7_step 54 = .ok (.aload_n 0, 1) := by decide +kernel
theorem dX7_step_55 : decode cX7_step 55 = .ok (.getfield 19, 3) := by decide +kernel
theorem dX7_step_58 : decode cX7_step 58 = .ok (.getfield 124, 3) := by decide +kernel
theorem dX7_step_61 : decode cX7_step 61 = .ok (.iload_n 1, 1) := by decide +kernel
theorem dX7_step_62 : decode cX7_step 62 = .ok (.iaload, 1) := by decide +kernel
theorem dX7_step_63 : decode cX7_step 63 = .ok (.ireturn, 1) := by decide +kernel
theorem dX7_step_64 : decode cX7_step 64 = .ok (.aload_n 0, 1) := by decide +kernel
theorem dX7_step_65 : decode cX7_step 65 = .ok (.getfield 19, 3) := by decide +kernel
theorem dX7_step_68 : decode cX7_step 68 = .ok (.getfield 127, 3) := by decide +kernel
theorem dX7_step_71 : decode cX7_step 71 = .ok (.iload_n 1, 1) := by decide +kernel
theorem dX7_step_72 : decode cX7_step 72 = .ok (.iaload, 1) := by decide +kernel
theorem dX7_step_73 : decode cX7_step 73 = .ok (.ireturn, 1) := by decide +kernel
theorem dX7_step_74 : decode cX7_step 74 = .ok (.aload_n 0, 1) := by decide +kernel
theorem dX7_step_75 : decode cX7_step 75 = .ok (.getfield 19, 3) := by decide +kernel
theorem dX7_step_78 : decode cX7_step 78 = .ok (.iload_n 1, 1) := by decide +kernel
theorem dX7_step_79 : decode cX7_step 79 = .ok (.invokevirtual 130, 3) := by decide +kernel
theorem dX7_step_82 : decode cX7_step 82 = .ok (.ireturn, 1) := by decide +kernel
theorem dX7_step_83 : decode cX7_step 83 = .ok (.aload_n 0, 1) := by decide +kernel
theorem dX7_step_84 : decode cX7_step 84 = .ok (.getfield 19, 3) := by decide +kernel
theorem dX7_step_87 : decode cX7_step 87 = .ok (.iload_n 1, 1) := by decide +kernel
theorem dX7_step_88 : decode cX7_step 88 = .ok (.invokevirtual 133, 3) := by decide +kernel
theorem dX7_step_91 : decode cX7_step 91 = .ok (.ifCond .eq 7, 3) := by decide +kernel
theorem dX7_step_94 : decode cX7_step 94 = .ok (.iconst 1, 1) := by decide +kernel
theorem dX7_step_95 : decode cX7_step 95 = .ok (.goto 4, 3) := by decide +kernel
theorem dX7_step_98 : decode cX7_step 98 = .ok (.iconst 0, 1) := by decide +kernel
theorem dX7_step_99 : decode cX7_step 99 = .ok (.ireturn, 1) := by decide +kernel
theorem dX7_step_100 : decode cX7_step 100 = .ok (.iconst (-1), 1) := by decide +kernel
theorem dX7_step_101 : decode cX7_step 101 = .ok (.ireturn, 1) := by decide +kernel
theorem mkX7_step : mokV qX7_step 2 := ⟨⟨⟨⟨by decide, by decide, by decide +kernel⟩, by decide⟩, gd_mem 51 (by decide +kernel) (by decide +kernel), gd_mem 497 (by decide +kernel) (by decide +kernel)⟩, gd_mem 495 (by decide +kernel) (by decide +kernel), gd_mem 496 (by decide +kernel) (by decide +kernel)⟩
abbrev qX7_age : mMI := (yX7_age, cX7_age, 3, (some .int), 2)
theorem dX7_age_0 : decode cX7_age 0 = .ok (.aload_n 0, 1) := by decide +kernel
theorem dX7_age_1 : decode cX7_age 1 = .ok (.iload_n 1, 1) := by decide +kernel
theorem dX7_age_2 : decode cX7_age 2 = .ok (.invokevirtual 116, 3) := by decide +kernel
theorem dX7_age_5 : decode cX7_age 5 = .ok (.ifCond .eq 13, 3) := by decide +kernel
theorem dX7_age_8 : decode cX7_age 8 = .ok (.iload_n 2, 1) := by decide +kernel
theorem dX7_age_9 : decode cX7_age 9 = .ok (.iconst 0, 1) := by decide +kernel
theorem dX7_age_10 : decode cX7_age 10 = .ok (.bipush 60, 2) := by decide +kernel
theorem dX7_age_12 : decode cX7_age 12 = .ok (.invokestatic 73, 3) := by decide +kernel
theorem dX7_age_15 : decode cX7_age 15 = .ok (.ifCond .ne 5, 3) := by decide +kernel
theorem dX7_age_18 : decode cX7_age 18 = .ok (.iconst (-1), 1) := by decide +kernel
theorem dX7_age_19 : decode cX7_age 19 = .ok (.ireturn, 1) := by decide +kernel
theorem dX7_age_20 : decode cX7_age 20 = .ok (.aload_n 0, 1) := by decide +kernel
theorem dX7_age_21 : decode cX7_age 21 = .ok (.getfield 19, 3) := by decide +kernel
theorem dX7_age_24 : decode cX7_age 24 = .ok (.getfield 124, 3) := by decide +kernel
theorem dX7_age_27 : decode cX7_age 27 = .ok (.iload_n 1, 1) := by decide +kernel
theorem dX7_age_28 : decode cX7_age 28 = .ok (.iload_n 2, 1) := by decide +kernel
theorem dX7_age_29 : decode cX7_age 29 = .ok (.invokestatic 157, 3) := by decide +kernel
theorem dX7_age_32 : decode cX7_age 32 = .ok (.ireturn, 1) := by decide +kernel
theorem mkX7_age : mokV qX7_age 2 := ⟨⟨⟨⟨by decide, by decide, by decide +kernel⟩, by decide⟩, gd_mem 51 (by decide +kernel) (by decide +kernel), gd_mem 548 (by decide +kernel) (by decide +kernel)⟩, gd_mem 546 (by decide +kernel) (by decide +kernel), gd_mem 547 (by decide +kernel) (by decide +kernel)⟩
abbrev qX7_wear : mMI := (yX7_wear, cX7_wear, 3, (some .int), 2)
theorem dX7_wear_0 : decode cX7_wear 0 = .ok (.aload_n 0, 1) := by decide +kernel
theorem dX7_wear_1 : decode cX7_wear 1 = .ok (.iload_n 1, 1) := by decide +kernel
theorem dX7_wear_2 : decode cX7_wear 2 = .ok (.invokevirtual 116, 3) := by decide +kernel
theorem dX7_wear_5 : decode cX7_wear 5 = .ok (.ifCond .eq 13, 3) := by decide +kernel
theorem dX7_wear_8 : decode cX7_wear 8 = .ok (.iload_n 2, 1) := by decide +kernel
theorem dX7_wear_9 : decode cX7_wear 9 = .ok (.iconst 0, 1) := by decide +kernel
theorem dX7_wear_10 : decode cX7_wear 10 = .ok (.bipush 99, 2) := by decide +kernel
theorem dX7_wear_12 : decode cX7_wear 12 = .ok (.invokestatic 73, 3) := by decide +kernel
theorem dX7_wear_15 : decode cX7_wear 15 = .ok (.ifCond .ne 5, 3) := by decide +kernel
theorem dX7_wear_18 : decode cX7_wear 18 = .ok (.iconst (-1), 1) := by decide +kernel
theorem dX7_wear_19 : decode cX7_wear 19 = .ok (.ireturn, 1) := by decide +kernel
theorem dX7_wear_20 : decode cX7_wear 20 = .ok (.aload_n 0, 1) := by decide +kernel
theorem dX7_wear_21 : decode cX7_wear 21 = .ok (.getfield 19, 3) := by decide +kernel
theorem dX7_wear_24 : decode cX7_wear 24 = .ok (.getfield 127, 3) := by decide +kernel
theorem dX7_wear_27 : decode cX7_wear 27 = .ok (.iload_n 1, 1) := by decide +kernel
theorem dX7_wear_28 : decode cX7_wear 28 = .ok (.iload_n 2, 1) := by decide +kernel
theorem dX7_wear_29 : decode cX7_wear 29 = .ok (.invokestatic 157, 3) := by decide +kernel
theorem dX7_wear_32 : decode cX7_wear 32 = .ok (.ireturn, 1) := by decide +kernel
theorem mkX7_wear : mokV qX7_wear 2 := ⟨⟨⟨⟨by decide, by decide, by decide +kernel⟩, by decide⟩, gd_mem 51 (by decide +kernel) (by decide +kernel), gd_mem 555 (by decide +kernel) (by decide +kernel)⟩, gd_mem 553 (by decide +kernel) (by decide +kernel), gd_mem 554 (by decide +kernel) (by decide +kernel)⟩
abbrev qX7_mend : mMI := (yX7_mend, cX7_mend, 3, (some .int), 2)
theorem dX7_mend_0 : decode cX7_mend 0 = .ok (.aload_n 0, 1) := by decide +kernel
theorem dX7_mend_1 : decode cX7_mend 1 = .ok (.iload_n 1, 1) := by decide +kernel
theorem dX7_mend_2 : decode cX7_mend 2 = .ok (.invokevirtual 116, 3) := by decide +kernel
theorem dX7_mend_5 : decode cX7_mend 5 = .ok (.ifCond .ne 5, 3) := by decide +kernel
theorem dX7_mend_8 : decode cX7_mend 8 = .ok (.iconst (-1), 1) := by decide +kernel
theorem dX7_mend_9 : decode cX7_mend 9 = .ok (.ireturn, 1) := by decide +kernel
theorem dX7_mend_10 : decode cX7_mend 10 = .ok (.aload_n 0, 1) := by decide +kernel
theorem dX7_mend_11 : decode cX7_mend 11 = .ok (.getfield 19, 3) := by decide +kernel
theorem dX7_mend_14 : decode cX7_mend 14 = .ok (.getfield 127, 3) := by decide +kernel
theorem dX7_mend_17 : decode cX7_mend 17 = .ok (.iload_n 1, 1) := by decide +kernel
theorem dX7_mend_18 : decode cX7_mend 18 = .ok (.iaload, 1) := by decide +kernel
theorem dX7_mend_19 : decode cX7_mend 19 = .ok (.istore_n 2, 1) := by decide +kernel
theorem dX7_mend_20 : decode cX7_mend 20 = .ok (.aload_n 0, 1) := by decide +kernel
theorem dX7_mend_21 : decode cX7_mend 21 = .ok (.getfield 19, 3) := by decide +kernel
theorem dX7_mend_24 : decode cX7_mend 24 = .ok (.iload_n 1, 1) := by decide +kernel
theorem dX7_mend_25 : decode cX7_mend 25 = .ok (.invokevirtual 161, 3) := by decide +kernel
theorem dX7_mend_28 : decode cX7_mend 28 = .ok (.iload_n 2, 1) := by decide +kernel
theorem dX7_mend_29 : decode cX7_mend 29 = .ok (.ireturn, 1) := by decide +kernel
theorem mkX7_mend : mokV qX7_mend 1 := ⟨⟨⟨⟨by decide, by decide, by decide +kernel⟩, by decide⟩, gd_mem 51 (by decide +kernel) (by decide +kernel), gd_mem 559 (by decide +kernel) (by decide +kernel)⟩, gd_mem 557 (by decide +kernel) (by decide +kernel), gd_mem 558 (by decide +kernel) (by decide +kernel)⟩
abbrev qX7_rank : mMI := (yX7_rank, cX7_rank, 3, (some .int), 2)
theorem dX7_rank_0 : decode cX7_rank 0 = .ok (.aload_n 0, 1) := by decide +kernel
theorem dX7_rank_1 : decode cX7_rank 1 = .ok (.iload_n 1, 1) := by decide +kernel
theorem dX7_rank_2 : decode cX7_rank 2 = .ok (.invokevirtual 136, 3) := by decide +kernel
theorem dX7_rank_5 : decode cX7_rank 5 = .ok (.ifCond .eq 12, 3) := by decide +kernel
theorem dX7_rank_8 : decode cX7_rank 8 = .ok (.iload_n 2, 1) := by decide +kernel
theorem dX7_rank_9 : decode cX7_rank 9 = .ok (.iconst 0, 1) := by decide +kernel
theorem dX7_rank_10 : decode cX7_rank 10 = .ok (.iconst 3, 1) := by decide +kernel
theorem dX7_rank_11 : decode cX7_rank 11 = .ok (.invokestatic 73, 3) := by decide +kernel
theorem dX7_rank_14 : decode cX7_rank 14 = .ok (.ifCond .ne 5, 3) := by decide +kernel
theorem dX7_rank_17 : decode cX7_rank 17 = .ok (.iconst (-1), 1) := by decide +kernel
theorem dX7_rank_18 : decode cX7_rank 18 = .ok (.ireturn, 1) := by decide +kernel
theorem dX7_rank_19 : decode cX7_rank 19 = .ok (.aload_n 0, 1) := by decide +kernel
theorem dX7_rank_20 : decode cX7_rank 20 = .ok (.getfield 19, 3) := by decide +kernel
theorem dX7_rank_23 : decode cX7_rank 23 = .ok (.getfield 142, 3) := by decide +kernel
theorem dX7_rank_26 : decode cX7_rank 26 = .ok (.iload_n 1, 1) := by decide +kernel
theorem dX7_rank_27 : decode cX7_rank 27 = .ok (.iload_n 2, 1) := by decide +kernel
theorem dX7_rank_28 : decode cX7_rank 28 = .ok (.invokestatic 157, 3) := by decide +kernel
theorem dX7_rank_31 : decode cX7_rank 31 = .ok (.ireturn, 1) := by decide +kernel
theorem mkX7_rank : mokV qX7_rank 2 := ⟨⟨⟨⟨by decide, by decide, by decide +kernel⟩, by decide⟩, gd_mem 51 (by decide +kernel) (by decide +kernel), gd_mem 567 (by decide +kernel) (by decide +kernel)⟩, gd_mem 565 (by decide +kernel) (by decide +kernel), gd_mem 566 (by decide +kernel) (by decide +kernel)⟩
abbrev qX7_load : mMI := (yX7_load, cX7_load, 3, (some .int), 2)
theorem dX7_load_0 : decode cX7_load 0 = .ok (.aload_n 0, 1) := by decide +kernel
theorem dX7_load_1 : decode cX7_load 1 = .ok (.iload_n 1, 1) := by decide +kernel
theorem dX7_load_2 : decode cX7_load 2 = .ok (.invokevirtual 136, 3) := by decide +kernel
theorem dX7_load_5 : decode cX7_load 5 = .ok (.ifCond .eq 13, 3) := by decide +kernel
theorem dX7_load_8 : decode cX7_load 8 = .ok (.iload_n 2, 1) := by decide +kernel
theorem dX7_load_9 : decode cX7_load 9 = .ok (.iconst 0, 1) := by decide +kernel
theorem dX7_load_10 : decode cX7_load 10 = .ok (.bipush 9, 2) := by decide +kernel
theorem dX7_load_12 : decode cX7_load 12 = .ok (.invokestatic 73, 3) := by decide +kernel
theorem dX7_load_15 : decode cX7_load 15 = .ok (.ifCond .ne 5, 3) := by decide +kernel
theorem dX7_load_18 : decode cX7_load 18 = .ok (.iconst (-1), 1) := by decide +kernel
theorem dX7_load_19 : decode cX7_load 19 = .ok (.ireturn, 1) := by decide +kernel
theorem dX7_load_20 : decode cX7_load 20 = .ok (.aload_n 0, 1) := by decide +kernel
theorem dX7_load_21 : decode cX7_load 21 = .ok (.getfield 19, 3) := by decide +kernel
theorem dX7_load_24 : decode cX7_load 24 = .ok (.getfield 145, 3) := by decide +kernel
theorem dX7_load_27 : decode cX7_load 27 = .ok (.iload_n 1, 1) := by decide +kernel
theorem dX7_load_28 : decode cX7_load 28 = .ok (.iload_n 2, 1) := by decide +kernel
theorem dX7_load_29 : decode cX7_load 29 = .ok (.invokestatic 157, 3) := by decide +kernel
theorem dX7_load_32 : decode cX7_load 32 = .ok (.ireturn, 1) := by decide +kernel
theorem mkX7_load : mokV qX7_load 2 := ⟨⟨⟨⟨by decide, by decide, by decide +kernel⟩, by decide⟩, gd_mem 51 (by decide +kernel) (by decide +kernel), gd_mem 571 (by decide +kernel) (by decide +kernel)⟩, gd_mem 569 (by decide +kernel) (by decide +kernel), gd_mem 570 (by decide +kernel) (by decide +kernel)⟩
abbrev qX7_move : mMI := (yX7_move, cX7_move, 3, (some .int), 2)
theorem dX7_move_0 : decode cX7_move 0 = .ok (.aload_n 0, 1) := by decide +kernel
theorem dX7_move_1 : decode cX7_move 1 = .ok (.iload_n 1, 1) := by decide +kernel
theorem dX7_move_2 : decode cX7_move 2 = .ok (.invokevirtual 136, 3) := by decide +kernel
theorem dX7_move_5 : decode cX7_move 5 = .ok (.ifCond .eq 11, 3) := by decide +kernel
theorem dX7_move_8 : decode cX7_move 8 = .ok (.aload_n 0, 1) := by decide +kernel
theorem dX7_move_9 : decode cX7_move 9 = .ok (.iload_n 2, 1) := by decide +kernel
theorem dX7_move_10 : decode cX7_move 10 = .ok (.invokevirtual 116, 3) := by decide +kernel
theorem dX7_move_13 : decode cX7_move 13 = .ok (.ifCond .ne 5, 3) := by decide +kernel
theorem dX7_move_16 : decode cX7_move 16 = .ok (.iconst (-1), 1) := by decide +kernel
theorem dX7_move_17 : decode cX7_move 17 = .ok (.ireturn, 1) := by decide +kernel
theorem dX7_move_18 : decode cX7_move 18 = .ok (.aload_n 0, 1) := by decide +kernel
theorem dX7_move_19 : decode cX7_move 19 = .ok (.getfield 19, 3) := by decide +kernel
theorem dX7_move_22 : decode cX7_move 22 = .ok (.getfield 148, 3) := by decide +kernel
theorem dX7_move_25 : decode cX7_move 25 = .ok (.iload_n 1, 1) := by decide +kernel
theorem dX7_move_26 : decode cX7_move 26 = .ok (.iload_n 2, 1) := by decide +kernel
theorem dX7_move_27 : decode cX7_move 27 = .ok (.invokestatic 157, 3) := by decide +kernel
theorem dX7_move_30 : decode cX7_move 30 = .ok (.ireturn, 1) := by decide +kernel
theorem mkX7_move : mokV qX7_move 2 := ⟨⟨⟨⟨by decide, by decide, by decide +kernel⟩, by decide⟩, gd_mem 51 (by decide +kernel) (by decide +kernel), gd_mem 575 (by decide +kernel) (by decide +kernel)⟩, gd_mem 573 (by decide +kernel) (by decide +kernel), gd_mem 574 (by decide +kernel) (by decide +kernel)⟩
abbrev qX7_year : mMI := (yX7_year, cX7_year, 4, (some .int), 2)
theorem dX7_year_0 : decode cX7_year 0 = .ok (.iconst 0, 1) := by decide +kernel
theorem dX7_year_1 : decode cX7_year 1 = .ok (.istore_n 1, 1) := by decide +kernel
theorem dX7_year_2 : decode cX7_year 2 = .ok (.iconst 0, 1) := by decide +kernel
theorem dX7_year_3 : decode cX7_year 3 = .ok (.istore_n 2, 1) := by decide +kernel
theorem dX7_year_4 : decode cX7_year 4 = .ok (.iload_n 2, 1) := by decide +kernel
theorem dX7_year_5 : decode cX7_year 5 = .ok (.aload_n 0, 1) := by decide +kernel
theorem dX7_year_6 : decode cX7_year 6 = .ok (.getfield 19, 3) := by decide +kernel
theorem dX7_year_9 : decode cX7_year 9 = .ok (.getfield 101, 3) := by decide +kernel
theorem dX7_year_12 : decode cX7_year 12 = .ok (.if_icmp .ge 58, 3) := by decide +kernel
theorem dX7_year_15 : decode cX7_year 15 = .ok (.aload_n 0, 1) := by decide +kernel
theorem dX7_year_16 : decode cX7_year 16 = .ok (.getfield 19, 3) := by decide +kernel
theorem dX7_year_19 : decode cX7_year 19 = .ok (.iload_n 2, 1) := by decide +kernel
theorem dX7_year_20 : decode cX7_year 20 = .ok (.invokevirtual 130, 3) := by decide +kernel
theorem dX7_year_23 : decode cX7_year 23 = .ok (.istore_n 3, 1) := by decide +kernel
theorem dX7_year_24 : decode cX7_year 24 = .ok (.aload_n 0, 1) := by decide +kernel
theorem dX7_year_25 : decode cX7_year 25 = .ok (.getfield 19, 3) := by decide +kernel
theorem dX7_year_28 : decode cX7_year 28 = .ok (.getfield 124, 3) := by decide +kernel
theorem dX7_year_31 : decode cX7_year 31 = .ok (.iload_n 2, 1) := by decide +kernel
theorem dX7_year_32 : decode cX7_year 32 = .ok (.aload_n 0, 1) := by decide +kernel
theorem dX7_year_33 : decode cX7_year 33 = .ok (.getfield 19, 3) := by decide +kernel
theorem dX7_year_36 : decode cX7_year 36 = .ok (.getfield 124, 3) := by decide +kernel
theorem dX7_year_39 : decode cX7_year 39 = .ok (.iload_n 2, 1) := by decide +kernel
theorem dX7_year_40 : decode cX7_year 40 = .ok (.iaload, 1) := by decide +kernel
theorem dX7_year_41 : decode cX7_year 41 = .ok (.iconst 1, 1) := by decide +kernel
theorem dX7_year_42 : decode cX7_year 42 = .ok (.iadd, 1) := by decide +kernel
theorem dX7_year_43 : decode cX7_year 43 = .ok (.bipush 60, 2) := by decide +kernel
theorem dX7_year_45 : decode cX7_year 45 = .ok (.invokestatic 165, 3) := by decide +kernel
theorem dX7_year_48 : decode cX7_year 48 = .ok (.iastore, 1) := by decide +kernel
theorem dX7_year_49 : decode cX7_year 49 = .ok (.aload_n 0, 1) := by decide +kernel
theorem dX7_year_50 : decode cX7_year 50 = .ok (.getfield 19, 3) := by decide +kernel
theorem dX7_year_53 : decode cX7_year 53 = .ok (.iload_n 2, 1) := by decide +kernel
theorem dX7_year_54 : decode cX7_year 54 = .ok (.invokevirtual 130, 3) := by decide +kernel
theorem dX7_year_57 : decode cX7_year 57 = .ok (.iload_n 3, 1) := by decide +kernel
theorem dX7_year_58 : decode cX7_year 58 = .ok (.if_icmp .eq 6, 3) := by decide +kernel
theorem dX7_year_61 : decode cX7_year 61 = .ok (.iinc 1 1, 3) := by decide +kernel
theorem dX7_year_64 : decode cX7_year 64 = .ok (.iinc 2 1, 3) := by decide +kernel
theorem dX7_year_67 : decode cX7_year 67 = .ok (.goto (-63), 3) := by decide +kernel
theorem dX7_year_70 : decode cX7_year 70 = .ok (.iload_n 1, 1) := by decide +kernel
theorem dX7_year_71 : decode cX7_year 71 = .ok (.ireturn, 1) := by decide +kernel
theorem mkX7_year : mokV qX7_year 0 := ⟨⟨⟨⟨by decide, by decide, by decide +kernel⟩, by decide⟩, gd_mem 51 (by decide +kernel) (by decide +kernel), gd_mem 583 (by decide +kernel) (by decide +kernel)⟩, gd_mem 581 (by decide +kernel) (by decide +kernel), gd_mem 582 (by decide +kernel) (by decide +kernel)⟩
abbrev qX7_see : mMI := (yX7_see, cX7_see, 3, (some .int), 2)
theorem dX7_see_0 : decode cX7_see 0 = .ok (.aload_n 0, 1) := by decide +kernel
theorem dX7_see_1 : decode cX7_see 1 = .ok (.iload_n 1, 1) := by decide +kernel
theorem dX7_see_2 : decode cX7_see 2 = .ok (.invokevirtual 116, 3) := by decide +kernel
theorem dX7_see_5 : decode cX7_see 5 = .ok (.ifCond .eq 13, 3) := by decide +kernel
theorem dX7_see_8 : decode cX7_see 8 = .ok (.iload_n 2, 1) := by decide +kernel
theorem dX7_see_9 : decode cX7_see 9 = .ok (.iconst 0, 1) := by decide +kernel
theorem dX7_see_10 : decode cX7_see 10 = .ok (.bipush 40, 2) := by decide +kernel
theorem dX7_see_12 : decode cX7_see 12 = .ok (.invokestatic 73, 3) := by decide +kernel
theorem dX7_see_15 : decode cX7_see 15 = .ok (.ifCond .ne 5, 3) := by decide +kernel
theorem dX7_see_18 : decode cX7_see 18 = .ok (.iconst (-1), 1) := by decide +kernel
theorem dX7_see_19 : decode cX7_see 19 = .ok (.ireturn, 1) := by decide +kernel
theorem dX7_see_20 : decode cX7_see 20 = .ok (.aload_n 0, 1) := by decide +kernel
theorem dX7_see_21 : decode cX7_see 21 = .ok (.getfield 58, 3) := by decide +kernel
theorem dX7_see_24 : decode cX7_see 24 = .ok (.iload_n 1, 1) := by decide +kernel
theorem dX7_see_25 : decode cX7_see 25 = .ok (.iload_n 2, 1) := by decide +kernel
theorem dX7_see_26 : decode cX7_see 26 = .ok (.invokevirtual 238, 3) := by decide +kernel
theorem dX7_see_29 : decode cX7_see 29 = .ok (.ireturn, 1) := by decide +kernel
theorem mkX7_see : mokV qX7_see 2 := ⟨⟨⟨⟨by decide, by decide, by decide +kernel⟩, by decide⟩, gd_mem 51 (by decide +kernel) (by decide +kernel), gd_mem 765 (by decide +kernel) (by decide +kernel)⟩, gd_mem 763 (by decide +kernel) (by decide +kernel), gd_mem 764 (by decide +kernel) (by decide +kernel)⟩
abbrev qX7_keep : mMI := (yX7_keep, cX7_keep, 3, (some .int), 2)
theorem dX7_keep_0 : decode cX7_keep 0 = .ok (.iload_n 1, 1) := by decide +kernel
theorem dX7_keep_1 : decode cX7_keep 1 = .ok (.iconst 0, 1) := by decide +kernel
theorem dX7_keep_2 : decode cX7_keep 2 = .ok (.iconst 1, 1) := by decide +kernel
theorem dX7_keep_3 : decode cX7_keep 3 = .ok (.invokestatic 73, 3) := by decide +kernel
theorem dX7_keep_6 : decode cX7_keep 6 = .ok (.ifCond .ne 5, 3) := by decide +kernel
theorem dX7_keep_9 : decode cX7_keep 9 = .ok (.iconst (-1), 1) := by decide +kernel
theorem dX7_keep_10 : decode cX7_keep 10 = .ok (.ireturn, 1) := by decide +kernel
theorem dX7_keep_11 : decode cX7_keep 11 = .ok (.aload_n 0, 1) := by decide +kernel
theorem dX7_keep_12 : decode cX7_keep 12 = .ok (.getfield 30, 3) := by decide +kernel
theorem dX7_keep_15 : decode cX7_keep 15 = .ok (.iload_n 1, 1) := by decide +kernel
theorem dX7_keep_16 : decode cX7_keep 16 = .ok (.baload, 1) := by decide +kernel
theorem dX7_keep_17 : decode cX7_keep 17 = .ok (.ifCond .eq 7, 3) := by decide +kernel
theorem dX7_keep_20 : decode cX7_keep 20 = .ok (.iconst 1, 1) := by decide +kernel
theorem dX7_keep_21 : decode cX7_keep 21 = .ok (.goto 4, 3) := by decide +kernel
theorem dX7_keep_24 : decode cX7_keep 24 = .ok (.iconst 0, 1) := by decide +kernel
theorem dX7_keep_25 : decode cX7_keep 25 = .ok (.istore_n 2, 1) := by decide +kernel
theorem dX7_keep_26 : decode cX7_keep 26 = .ok (.aload_n 0, 1) := by decide +kernel
theorem dX7_keep_27 : decode cX7_keep 27 = .ok (.getfield 26, 3) := by decide +kernel
theorem dX7_keep_30 : decode cX7_keep 30 = .ok (.iload_n 1, 1) := by decide +kernel
theorem dX7_keep_31 : decode cX7_keep 31 = .ok (.aaload, 1) := by decide +kernel
theorem dX7_keep_32 : decode cX7_keep 32 = .ok (.aload_n 0, 1) := by decide +kernel
theorem dX7_keep_33 : decode cX7_keep 33 = .ok (.getfield 19, 3) := by decide +kernel
theorem dX7_keep_36 : decode cX7_keep 36 = .ok (.invokevirtual 91, 3) := by decide +kernel
theorem dX7_keep_39 : decode cX7_keep 39 = .ok (.aload_n 0, 1) := by decide +kernel
theorem dX7_keep_40 : decode cX7_keep 40 = .ok (.getfield 30, 3) := by decide +kernel
theorem dX7_keep_43 : decode cX7_keep 43 = .ok (.iload_n 1, 1) := by decide +kernel
theorem dX7_keep_44 : decode cX7_keep 44 = .ok (.iconst 1, 1) := by decide +kernel
theorem dX7_keep_45 : decode cX7_keep 45 = .ok (.bastore, 1) := by decide +kernel
theorem dX7_keep_46 : decode cX7_keep 46 = .ok (.iload_n 2, 1) := by decide +kernel
theorem dX7_keep_47 : decode cX7_keep 47 = .ok (.ireturn, 1) := by decide +kernel
theorem mkX7_keep : mokV qX7_keep 1 := ⟨⟨⟨⟨by decide, by decide, by decide +kernel⟩, by decide⟩, gd_mem 51 (by decide +kernel) (by decide +kernel), gd_mem 816 (by decide +kernel) (by decide +kernel)⟩, gd_mem 814 (by decide +kernel) (by decide +kernel), gd_mem 815 (by decide +kernel) (by decide +kernel)⟩
abbrev qX7_back : mMI := (yX7_back, cX7_back, 2, (some .int), 2)
theorem dX7_back_0 : decode cX7_back 0 = .ok (.iload_n 1, 1) := by decide +kernel
theorem dX7_back_1 : decode cX7_back 1 = .ok (.iconst 0, 1) := by decide +kernel
theorem dX7_back_2 : decode cX7_back 2 = .ok (.iconst 1, 1) := by decide +kernel
theorem dX7_back_3 : decode cX7_back 3 = .ok (.invokestatic 73, 3) := by decide +kernel
theorem dX7_back_6 : decode cX7_back 6 = .ok (.ifCond .ne 5, 3) := by decide +kernel
theorem dX7_back_9 : decode cX7_back 9 = .ok (.iconst (-1), 1) := by decide +kernel
theorem dX7_back_10 : decode cX7_back 10 = .ok (.ireturn, 1) := by decide +kernel
theorem dX7_back_11 : decode cX7_back 11 = .ok (.aload_n 0, 1) := by decide +kernel
theorem dX7_back_12 : decode cX7_back 12 = .ok (.getfield 30, 3) := by decide +kernel
theorem dX7_back_15 : decode cX7_back 15 = .ok (.iload_n 1, 1) := by decide +kernel
theorem dX7_back_16 : decode cX7_back 16 = .ok (.baload, 1) := by decide +kernel
theorem dX7_back_17 : decode cX7_back 17 = .ok (.ifCond .ne 6, 3) := by decide +kernel
theorem dX7_back_20 : decode cX7_back 20 = .ok (.bipush (-2), 2) := by decide +kernel
theorem dX7_back_22 : decode cX7_back 22 = .ok (.ireturn, 1) := by decide +kernel
theorem dX7_back_23 : decode cX7_back 23 = .ok (.aload_n 0, 1) := by decide +kernel
theorem dX7_back_24 : decode cX7_back 24 = .ok (.getfield 19, 3) := by decide +kernel
theorem dX7_back_27 : decode cX7_back 27 = .ok (.aload_n 0, 1) := by decide +kernel
theorem dX7_back_28 : decode cX7_back 28 = .ok (.getfield 26, 3) := by decide +kernel
theorem dX7_back_31 : decode cX7_back 31 = .ok (.iload_n 1, 1) := by decide +kernel
theorem dX7_back_32 : decode cX7_back 32 = .ok (.aaload, 1) := by decide +kernel
theorem dX7_back_33 : decode cX7_back 33 = .ok (.invokevirtual 91, 3) := by decide +kernel
theorem dX7_back_36 : decode cX7_back 36 = .ok (.aload_n 0, 1) := by decide +kernel
theorem dX7_back_37 : decode cX7_back 37 = .ok (.getfield 19, 3) := by decide +kernel
theorem dX7_back_40 : decode cX7_back 40 = .ok (.getfield 113, 3) := by decide +kernel
theorem dX7_back_43 : decode cX7_back 43 = .ok (.ireturn, 1) := by decide +kernel
theorem mkX7_back : mokV qX7_back 1 := ⟨⟨⟨⟨by decide, by decide, by decide +kernel⟩, by decide⟩, gd_mem 51 (by decide +kernel) (by decide +kernel), gd_mem 820 (by decide +kernel) (by decide +kernel)⟩, gd_mem 818 (by decide +kernel) (by decide +kernel), gd_mem 819 (by decide +kernel) (by decide +kernel)⟩
abbrev qX7_sheet : mMI := (yX7_sheet, cX7_sheet, 4, (some .int), 2)
theorem dX7_sheet_0 : decode cX7_sheet 0 = .ok (.iload_n 1, 1) := by decide +kernel
theorem dX7_sheet_1 : decode cX7_sheet 1 = .ok (.invokestatic 252, 3) := by decide +kernel
theorem dX7_sheet_4 : decode cX7_sheet 4 = .ok (.ifCond .eq 16, 3) := by decide +kernel
theorem dX7_sheet_7 : decode cX7_sheet 7 = .ok (.iload_n 2, 1) := by decide +kernel
theorem dX7_sheet_8 : decode cX7_sheet 8 = .ok (.invokestatic 255, 3) := by decide +kernel
theorem dX7_sheet_11 : decode cX7_sheet 11 = .ok (.ifCond .eq 9, 3) := by decide +kernel
theorem dX7_sheet_14 : decode cX7_sheet 14 = .ok (.iload_n 3, 1) := by decide +kernel
theorem dX7_sheet_15 : decode cX7_sheet 15 = .ok (.bipush 40, 2) := by decide +kernel
theorem dX7_sheet_17 : decode cX7_sheet 17 = .ok (.if_icmp .le 5, 3) := by decide +kernel
theorem dX7_sheet_20 : decode cX7_sheet 20 = .ok (.iconst (-1), 1) := by decide +kernel
theorem dX7_sheet_21 : decode cX7_sheet 21 = .ok (.ireturn, 1) := by decide +kernel
theorem dX7_sheet_22 : decode cX7_sheet 22 = .ok (.iload_n 3, 1) := by decide +kernel
theorem dX7_sheet_23 : decode cX7_sheet 23 = .ok (.ifCond .ge 6, 3) := by decide +kernel
theorem dX7_sheet_26 : decode cX7_sheet 26 = .ok (.bipush (-14), 2) := by decide +kernel
theorem dX7_sheet_28 : decode cX7_sheet 28 = .ok (.ireturn, 1) := by decide +kernel
theorem dX7_sheet_29 : decode cX7_sheet 29 = .ok (.aload_n 0, 1) := by decide +kernel
theorem dX7_sheet_30 : decode cX7_sheet 30 = .ok (.getfield 64, 3) := by decide +kernel
theorem dX7_sheet_33 : decode cX7_sheet 33 = .ok (.iload_n 1, 1) := by decide +kernel
theorem dX7_sheet_34 : decode cX7_sheet 34 = .ok (.aaload, 1) := by decide +kernel
theorem dX7_sheet_35 : decode cX7_sheet 35 = .ok (.iload_n 2, 1) := by decide +kernel
theorem dX7_sheet_36 : decode cX7_sheet 36 = .ok (.iload_n 3, 1) := by decide +kernel
theorem dX7_sheet_37 : decode cX7_sheet 37 = .ok (.invokevirtual 258, 3) := by decide +kernel
theorem dX7_sheet_40 : decode cX7_sheet 40 = .ok (.iconst 1, 1) := by decide +kernel
theorem dX7_sheet_41 : decode cX7_sheet 41 = .ok (.ireturn, 1) := by decide +kernel
theorem mkX7_sheet : mokV qX7_sheet 3 := ⟨⟨⟨⟨by decide, by decide, by decide +kernel⟩, by decide⟩, gd_mem 51 (by decide +kernel) (by decide +kernel), gd_mem 824 (by decide +kernel) (by decide +kernel)⟩, gd_mem 822 (by decide +kernel) (by decide +kernel), gd_mem 823 (by decide +kernel) (by decide +kernel)⟩
abbrev qX7_lay : mMI := (yX7_lay, cX7_lay, 5, (some .int), 2)
theorem dX7_lay_0 : decode cX7_lay 0 = .ok (.iload_n 1, 1) := by decide +kernel
theorem dX7_lay_1 : decode cX7_lay 1 = .ok (.invokestatic 252, 3) := by decide +kernel
theorem dX7_lay_4 : decode cX7_lay 4 = .ok (.ifCond .ne 5, 3) := by decide +kernel
theorem dX7_lay_7 : decode cX7_lay 7 = .ok (.iconst (-1), 1) := by decide +kernel
theorem dX7_lay_8 : decode cX7_lay 8 = .ok (.ireturn, 1) := by decide +kernel
theorem dX7_lay_9 : decode cX7_lay 9 = .ok (.aload_n 0, 1) := by decide +kernel
theorem dX7_lay_10 : decode cX7_lay 10 = .ok (.getfield 64, 3) := by decide +kernel
theorem dX7_lay_13 : decode cX7_lay 13 = .ok (.iload_n 1, 1) := by decide +kernel
theorem dX7_lay_14 : decode cX7_lay 14 = .ok (.aaload, 1) := by decide +kernel
theorem dX7_lay_15 : decode cX7_lay 15 = .ok (.iload_n 2, 1) := by decide +kernel
theorem dX7_lay_16 : decode cX7_lay 16 = .ok (.invokevirtual 261, 3) := by decide +kernel
theorem dX7_lay_19 : decode cX7_lay 19 = .ok (.istore 4, 2) := by decide +kernel
theorem dX7_lay_21 : decode cX7_lay 21 = .ok (.iload 4, 2) := by decide +kernel
theorem dX7_lay_23 : decode cX7_lay 23 = .ok (.ifCond .eq 9, 3) := by decide +kernel
theorem dX7_lay_26 : decode cX7_lay 26 = .ok (.bipush (-10), 2) := by decide +kernel
theorem dX7_lay_28 : decode cX7_lay 28 = .ok (.iload 4, 2) := by decide +kernel
theorem dX7_lay_30 : decode cX7_lay 30 = .ok (.isub, 1) := by decide +kernel
theorem dX7_lay_31 : decode cX7_lay 31 = .ok (.ireturn, 1) := by decide +kernel
theorem dX7_lay_32 : decode cX7_lay 32 = .ok (.aload_n 0, 1) := by decide +kernel
theorem dX7_lay_33 : decode cX7_lay 33 = .ok (.getfield 64, 3) := by decide +kernel
theorem dX7_lay_36 : decode cX7_lay 36 = .ok (.iload_n 1, 1) := by decide +kernel
theorem dX7_lay_37 : decode cX7_lay 37 = .ok (.aaload, 1) := by decide +kernel
theorem dX7_lay_38 : decode cX7_lay 38 = .ok (.iload_n 2, 1) := by decide +kernel
theorem dX7_lay_39 : decode cX7_lay 39 = .ok (.iload_n 3, 1) := by decide +kernel
theorem dX7_lay_40 : decode cX7_lay 40 = .ok (.invokevirtual 264, 3) := by decide +kernel
theorem dX7_lay_43 : decode cX7_lay 43 = .ok (.iconst 1, 1) := by decide +kernel
theorem dX7_lay_44 : decode cX7_lay 44 = .ok (.ireturn, 1) := by decide +kernel
theorem mkX7_lay : mokV qX7_lay 3 := ⟨⟨⟨⟨by decide, by decide, by decide +kernel⟩, by decide⟩, gd_mem 51 (by decide +kernel) (by decide +kernel), gd_mem 839 (by decide +kernel) (by decide +kernel)⟩, gd_mem 837 (by decide +kernel) (by decide +kernel), gd_mem 838 (by decide +kernel) (by decide +kernel)⟩
abbrev qX7_lodger : mMI := (yX7_lodger, cX7_lodger, 3, (some .int), 4)
theorem dX7_lodger_0 : decode cX7_lodger 0 = .ok (.aload_n 0, 1) := by decide +kernel
theorem dX7_lodger_1 : decode cX7_lodger 1 = .ok (.iload_n 1, 1) := by decide +kernel
theorem dX7_lodger_2 : decode cX7_lodger 2 = .ok (.invokevirtual 136, 3) := by decide +kernel
theorem dX7_lodger_5 : decode cX7_lodger 5 = .ok (.ifCond .ne 5, 3) := by decide +kernel
theorem dX7_lodger_8 : decode cX7_lodger 8 = .ok (.iconst (-1), 1) := by decide +kernel
theorem dX7_lodger_9 : decode cX7_lodger 9 = .ok (.ireturn, 1) := by decide +kernel
theorem dX7_lodger_10 : decode cX7_lodger 10 = .ok (.iload_n 2, 1) := by decide +kernel
theorem dX7_lodger_11 : decode cX7_lodger 11 = .ok (.tableswitch 95 0 5 #[37, 47, 57, 67, 77, 86], 37) := by decide +kernel
theorem dX7_lodger_48 : decode cX7_lodger 48 = .ok (.aload_n 0, 1) := by decide +kernel
theorem dX7_lodger_49 : decode cX7_lodger 49 = .ok (.getfield 19, 3) := by decide +kernel
theorem dX7_lodger_52 : decode cX7_lodger 52 = .ok (.getfield 139, 3) := by decide +kernel
theorem dX7_lodger_55 : decode cX7_lodger 55 = .ok (.iload_n 1, 1) := by decide +kernel
theorem dX7_lodger_56 : decode cX7_lodger 56 = .ok (.iaload, 1) := by decide +kernel
theorem dX7_lodger_57 : decode cX7_lodger 57 = .ok (.ireturn, 1) := by decide +kernel
theorem dX7_lodger_58 : decode cX7_lodger 58 = .ok (.aload_n 0, 1) := by decide +kernel
theorem dX7_lodger_59 : decode cX7_lodger 59 = .ok (.getfield 19, 3) := by decide +kernel
theorem dX7_lodger_62 : decode cX7_lodger 62 = .ok (.getfield 142, 3) := by decide +kernel
theorem dX7_lodger_65 : decode cX7_lodger 65 = .ok (.iload_n 1, 1) := by decide +kernel
theorem dX7_lodger_66 : decode cX7_lodger 66 = .ok (.iaload, 1) := by decide +kernel
theorem dX7_lodger_67 : decode cX7_lodger 67 = .ok (.ireturn, 1) := by decide +kernel
theorem dX7_lodger_68 : decode cX7_lodger 68 = .ok (.aload_n 0, 1) := by decide +kernel
theorem dX7_lodger_69 : decode cX7_lodger 69 = .ok (.getfield 19, 3) := by decide +kernel
theorem dX7_lodger_72 : decode cX7_lodger 72 = .ok (.getfield 145, 3) := by decide +kernel
theorem dX7_lodger_75 : decode cX7_lodger 75 = .ok (.iload_n 1, 1) := by decide +kernel
theorem dX7_lodger_76 : decode cX7_lodger 76 = .ok (.iaload, 1) := by decide +kernel
theorem dX7_lodger_77 : decode cX7_lodger 77 = .ok (.ireturn, 1) := by decide +kernel
theorem dX7_lodger_78 : decode cX7_lodger 78 = .ok (.aload_n 0, 1) := by decide +kernel
theorem dX7_lodger_79 : decode cX7_lodger 79 = .ok (.getfield 19, 3) := by decide +kernel
theorem dX7_lodger_82 : decode cX7_lodger 82 = .ok (.getfield 148, 3) := by decide +kernel
theorem dX7_lodger_85 : decode cX7_lodger 85 = .ok (.iload_n 1, 1) := by decide +kernel
theorem dX7_lodger_86 : decode cX7_lodger 86 = .ok (.iaload, 1) := by decide +kernel
theorem dX7_lodger_87 : decode cX7_lodger 87 = .ok (.ireturn, 1) := by decide +kernel
theorem dX7_lodger_88 : decode cX7_lodger 88 = .ok (.aload_n 0, 1) := by decide +kernel
theorem dX7_lodger_89 : decode cX7_lodger 89 = .ok (.getfield 19, 3) := by decide +kernel
theorem dX7_lodger_92 : decode cX7_lodger 92 = .ok (.iload_n 1, 1) := by decide +kernel
theorem dX7_lodger_93 : decode cX7_lodger 93 = .ok (.invokevirtual 151, 3) := by decide +kernel
theorem dX7_lodger_96 : decode cX7_lodger 96 = .ok (.ireturn, 1) := by decide +kernel
theorem dX7_lodger_97 : decode cX7_lodger 97 = .ok (.aload_n 0, 1) := by decide +kernel
theorem dX7_lodger_98 : decode cX7_lodger 98 = .ok (.getfield 19, 3) := by decide +kernel
theorem dX7_lodger_101 : decode cX7_lodger 101 = .ok (.iload_n 1, 1) := by decide +kernel
theorem dX7_lodger_102 : decode cX7_lodger 102 = .ok (.invokevirtual 154, 3) := by decide +kernel
theorem dX7_lodger_105 : decode cX7_lodger 105 = .ok (.ireturn, 1) := by decide +kernel
theorem dX7_lodger_106 : decode cX7_lodger 106 = .ok (.iconst (-1), 1) := by decide +kernel
theorem dX7_lodger_107 : decode cX7_lodger 107 = .ok (.ireturn, 1) := by decide +kernel
theorem mkX7_lodger : mokV qX7_lodger 2 := ⟨⟨⟨⟨by decide, by decide, by decide +kernel⟩, by decide⟩, gd_mem 51 (by decide +kernel) (by decide +kernel), gd_mem 516 (by decide +kernel) (by decide +kernel)⟩, gd_mem 514 (by decide +kernel) (by decide +kernel), gd_mem 515 (by decide +kernel) (by decide +kernel)⟩
abbrev qX7_climb : mMI := (yX7_climb, cX7_climb, 5, (some .int), 5)
theorem dX7_climb_0 : decode cX7_climb 0 = .ok (.iload_n 2, 1) := by decide +kernel
theorem dX7_climb_1 : decode cX7_climb 1 = .ok (.bipush 10, 2) := by decide +kernel
theorem dX7_climb_3 : decode cX7_climb 3 = .ok (.isub, 1) := by decide +kernel
theorem dX7_climb_4 : decode cX7_climb 4 = .ok (.istore_n 3, 1) := by decide +kernel
theorem dX7_climb_5 : decode cX7_climb 5 = .ok (.aload_n 0, 1) := by decide +kernel
theorem dX7_climb_6 : decode cX7_climb 6 = .ok (.iload_n 1, 1) := by decide +kernel
theorem dX7_climb_7 : decode cX7_climb 7 = .ok (.invokevirtual 136, 3) := by decide +kernel
theorem dX7_climb_10 : decode cX7_climb 10 = .ok (.ifCond .eq 17, 3) := by decide +kernel
theorem dX7_climb_13 : decode cX7_climb 13 = .ok (.iload_n 2, 1) := by decide +kernel
theorem dX7_climb_14 : decode cX7_climb 14 = .ok (.ifCond .eq 15, 3) := by decide +kernel
theorem dX7_climb_17 : decode cX7_climb 17 = .ok (.iload_n 3, 1) := by decide +kernel
theorem dX7_climb_18 : decode cX7_climb 18 = .ok (.iconst 0, 1) := by decide +kernel
theorem dX7_climb_19 : decode cX7_climb 19 = .ok (.bipush 9, 2) := by decide +kernel
theorem dX7_climb_21 : decode cX7_climb 21 = .ok (.invokestatic 73, 3) := by decide +kernel
theorem dX7_climb_24 : decode cX7_climb 24 = .ok (.ifCond .ne 5, 3) := by decide +kernel
theorem dX7_climb_27 : decode cX7_climb 27 = .ok (.iconst (-1), 1) := by decide +kernel
theorem dX7_climb_28 : decode cX7_climb 28 = .ok (.ireturn, 1) := by decide +kernel
theorem dX7_climb_29 : decode cX7_climb 29 = .ok (.aload_n 0, 1) := by decide +kernel
theorem dX7_climb_30 : decode cX7_climb 30 = .ok (.getfield 37, 3) := by decide +kernel
theorem dX7_climb_33 : decode cX7_climb 33 = .ok (.aload_n 0, 1) := by decide +kernel
theorem dX7_climb_34 : decode cX7_climb 34 = .ok (.getfield 19, 3) := by decide +kernel
theorem dX7_climb_37 : decode cX7_climb 37 = .ok (.iload_n 1, 1) := by decide +kernel
theorem dX7_climb_38 : decode cX7_climb 38 = .ok (.invokevirtual 171, 3) := by decide +kernel
theorem dX7_climb_41 : decode cX7_climb 41 = .ok (.istore 4, 2) := by decide +kernel
theorem dX7_climb_43 : decode cX7_climb 43 = .ok (.iload 4, 2) := by decide +kernel
theorem dX7_climb_45 : decode cX7_climb 45 = .ok (.ifCond .ne 6, 3) := by decide +kernel
theorem dX7_climb_48 : decode cX7_climb 48 = .ok (.bipush (-4), 2) := by decide +kernel
theorem dX7_climb_50 : decode cX7_climb 50 = .ok (.ireturn, 1) := by decide +kernel
theorem dX7_climb_51 : decode cX7_climb 51 = .ok (.iload_n 2, 1) := by decide +kernel
theorem dX7_climb_52 : decode cX7_climb 52 = .ok (.ifCond .ne 11, 3) := by decide +kernel
theorem dX7_climb_55 : decode cX7_climb 55 = .ok (.iload 4, 2) := by decide +kernel
theorem dX7_climb_57 : decode cX7_climb 57 = .ok (.invokestatic 175, 3) := by decide +kernel
theorem dX7_climb_60 : decode cX7_climb 60 = .ok (.goto 9, 3) := by decide +kernel
theorem dX7_climb_63 : decode cX7_climb 63 = .ok (.iload 4, 2) := by decide +kernel
theorem dX7_climb_65 : decode cX7_climb 65 = .ok (.iload_n 3, 1) := by decide +kernel
theorem dX7_climb_66 : decode cX7_climb 66 = .ok (.invokestatic 180, 3) := by decide +kernel
theorem dX7_climb_69 : decode cX7_climb 69 = .ok (.ireturn, 1) := by decide +kernel
theorem mkX7_climb : mokV qX7_climb 2 := ⟨⟨⟨⟨by decide, by decide, by decide +kernel⟩, by decide⟩, gd_mem 51 (by decide +kernel) (by decide +kernel), gd_mem 588 (by decide +kernel) (by decide +kernel)⟩, gd_mem 586 (by decide +kernel) (by decide +kernel), gd_mem 587 (by decide +kernel) (by decide +kernel)⟩
abbrev qX7_ways : mMI := (yX7_ways, cX7_ways, 2, (some .int), 5)
theorem dX7_ways_0 : decode cX7_ways 0 = .ok (.aload_n 0, 1) := by decide +kernel
theorem dX7_ways_1 : decode cX7_ways 1 = .ok (.iload_n 1, 1) := by decide +kernel
theorem dX7_ways_2 : decode cX7_ways 2 = .ok (.invokevirtual 136, 3) := by decide +kernel
theorem dX7_ways_5 : decode cX7_ways 5 = .ok (.ifCond .eq 18, 3) := by decide +kernel
theorem dX7_ways_8 : decode cX7_ways 8 = .ok (.aload_n 0, 1) := by decide +kernel
theorem dX7_ways_9 : decode cX7_ways 9 = .ok (.getfield 37, 3) := by decide +kernel
theorem dX7_ways_12 : decode cX7_ways 12 = .ok (.aload_n 0, 1) := by decide +kernel
theorem dX7_ways_13 : decode cX7_ways 13 = .ok (.getfield 19, 3) := by decide +kernel
theorem dX7_ways_16 : decode cX7_ways 16 = .ok (.iload_n 1, 1) := by decide +kernel
theorem dX7_ways_17 : decode cX7_ways 17 = .ok (.invokevirtual 183, 3) := by decide +kernel
theorem dX7_ways_20 : decode cX7_ways 20 = .ok (.goto 4, 3) := by decide +kernel
theorem dX7_ways_23 : decode cX7_ways 23 = .ok (.iconst (-1), 1) := by decide +kernel
theorem dX7_ways_24 : decode cX7_ways 24 = .ok (.ireturn, 1) := by decide +kernel
theorem mkX7_ways : mokV qX7_ways 1 := ⟨⟨⟨⟨by decide, by decide, by decide +kernel⟩, by decide⟩, gd_mem 51 (by decide +kernel) (by decide +kernel), gd_mem 621 (by decide +kernel) (by decide +kernel)⟩, gd_mem 619 (by decide +kernel) (by decide +kernel), gd_mem 620 (by decide +kernel) (by decide +kernel)⟩
abbrev qX7_smooth : mMI := (yX7_smooth, cX7_smooth, 4, (some .int), 5)
theorem dX7_smooth_0 : decode cX7_smooth 0 = .ok (.aload_n 0, 1) := by decide +kernel
theorem dX7_smooth_1 : decode cX7_smooth 1 = .ok (.iload_n 1, 1) := by decide +kernel
theorem dX7_smooth_2 : decode cX7_smooth 2 = .ok (.invokevirtual 136, 3) := by decide +kernel
theorem dX7_smooth_5 : decode cX7_smooth 5 = .ok (.ifCond .eq 12, 3) := by decide +kernel
theorem dX7_smooth_8 : decode cX7_smooth 8 = .ok (.iload_n 2, 1) := by decide +kernel
theorem dX7_smooth_9 : decode cX7_smooth 9 = .ok (.iconst 0, 1) := by decide +kernel
theorem dX7_smooth_10 : decode cX7_smooth 10 = .ok (.iconst 1, 1) := by decide +kernel
theorem dX7_smooth_11 : decode cX7_smooth 11 = .ok (.invokestatic 73, 3) := by decide +kernel
theorem dX7_smooth_14 : decode cX7_smooth 14 = .ok (.ifCond .ne 5, 3) := by decide +kernel
theorem dX7_smooth_17 : decode cX7_smooth 17 = .ok (.iconst (-1), 1) := by decide +kernel
theorem dX7_smooth_18 : decode cX7_smooth 18 = .ok (.ireturn, 1) := by decide +kernel
theorem dX7_smooth_19 : decode cX7_smooth 19 = .ok (.aload_n 0, 1) := by decide +kernel
theorem dX7_smooth_20 : decode cX7_smooth 20 = .ok (.getfield 19, 3) := by decide +kernel
theorem dX7_smooth_23 : decode cX7_smooth 23 = .ok (.iload_n 1, 1) := by decide +kernel
theorem dX7_smooth_24 : decode cX7_smooth 24 = .ok (.invokevirtual 186, 3) := by decide +kernel
theorem dX7_smooth_27 : decode cX7_smooth 27 = .ok (.ifCond .ne 6, 3) := by decide +kernel
theorem dX7_smooth_30 : decode cX7_smooth 30 = .ok (.bipush (-4), 2) := by decide +kernel
theorem dX7_smooth_32 : decode cX7_smooth 32 = .ok (.ireturn, 1) := by decide +kernel
theorem dX7_smooth_33 : decode cX7_smooth 33 = .ok (.aload_n 0, 1) := by decide +kernel
theorem dX7_smooth_34 : decode cX7_smooth 34 = .ok (.getfield 37, 3) := by decide +kernel
theorem dX7_smooth_37 : decode cX7_smooth 37 = .ok (.aload_n 0, 1) := by decide +kernel
theorem dX7_smooth_38 : decode cX7_smooth 38 = .ok (.getfield 19, 3) := by decide +kernel
theorem dX7_smooth_41 : decode cX7_smooth 41 = .ok (.iload_n 1, 1) := by decide +kernel
theorem dX7_smooth_42 : decode cX7_smooth 42 = .ok (.invokevirtual 189, 3) := by decide +kernel
theorem dX7_smooth_45 : decode cX7_smooth 45 = .ok (.istore_n 3, 1) := by decide +kernel
theorem dX7_smooth_46 : decode cX7_smooth 46 = .ok (.iload_n 2, 1) := by decide +kernel
theorem dX7_smooth_47 : decode cX7_smooth 47 = .ok (.ifCond .ne 7, 3) := by decide +kernel
theorem dX7_smooth_50 : decode cX7_smooth 50 = .ok (.iload_n 3, 1) := by decide +kernel
theorem dX7_smooth_51 : decode cX7_smooth 51 = .ok (.goto 16, 3) := by decide +kernel
theorem dX7_smooth_54 : decode cX7_smooth 54 = .ok (.aload_n 0, 1) := by decide +kernel
theorem dX7_smooth_55 : decode cX7_smooth 55 = .ok (.getfield 37, 3) := by decide +kernel
theorem dX7_smooth_58 : decode cX7_smooth 58 = .ok (.aload_n 0, 1) := by decide +kernel
theorem dX7_smooth_59 : decode cX7_smooth 59 = .ok (.getfield 19, 3) := by decide +kernel
theorem dX7_smooth_62 : decode cX7_smooth 62 = .ok (.iload_n 1, 1) := by decide +kernel
theorem dX7_smooth_63 : decode cX7_smooth 63 = .ok (.iload_n 3, 1) := by decide +kernel
theorem dX7_smooth_64 : decode cX7_smooth 64 = .ok (.invokevirtual 192, 3) := by decide +kernel
theorem dX7_smooth_67 : decode cX7_smooth 67 = .ok (.ireturn, 1) := by decide +kernel
theorem mkX7_smooth : mokV qX7_smooth 2 := ⟨⟨⟨⟨by decide, by decide, by decide +kernel⟩, by decide⟩, gd_mem 51 (by decide +kernel) (by decide +kernel), gd_mem 630 (by decide +kernel) (by decide +kernel)⟩, gd_mem 628 (by decide +kernel) (by decide +kernel), gd_mem 629 (by decide +kernel) (by decide +kernel)⟩
abbrev qX7_must : mMI := (yX7_must, cX7_must, 4, (some .int), 5)
theorem dX7_must_0 : decode cX7_must 0 = .ok (.aload_n 0, 1) := by decide +kernel
theorem dX7_must_1 : decode cX7_must 1 = .ok (.iload_n 1, 1) := by decide +kernel
theorem dX7_must_2 : decode cX7_must 2 = .ok (.invokevirtual 116, 3) := by decide +kernel
theorem dX7_must_5 : decode cX7_must 5 = .ok (.ifCond .ne 5, 3) := by decide +kernel
theorem dX7_must_8 : decode cX7_must 8 = .ok (.iconst (-1), 1) := by decide +kernel
theorem dX7_must_9 : decode cX7_must 9 = .ok (.ireturn, 1) := by decide +kernel
theorem dX7_must_10 : decode cX7_must 10 = .ok (.iconst 0, 1) := by decide +kernel
theorem dX7_must_11 : decode cX7_must 11 = .ok (.istore_n 2, 1) := by decide +kernel
theorem dX7_must_12 : decode cX7_must 12 = .ok (.iconst 0, 1) := by decide +kernel
theorem dX7_must_13 : decode cX7_must 13 = .ok (.istore_n 3, 1) := by decide +kernel
theorem dX7_must_14 : decode cX7_must 14 = .ok (.iload_n 3, 1) := by decide +kernel
theorem dX7_must_15 : decode cX7_must 15 = .ok (.aload_n 0, 1) := by decide +kernel
theorem dX7_must_16 : decode cX7_must 16 = .ok (.getfield 19, 3) := by decide +kernel
theorem dX7_must_19 : decode cX7_must 19 = .ok (.getfield 104, 3) := by decide +kernel
theorem dX7_must_22 : decode cX7_must 22 = .ok (.if_icmp .ge 51, 3) := by decide +kernel
theorem dX7_must_25 : decode cX7_must 25 = .ok (.aload_n 0, 1) := by decide +kernel
theorem dX7_must_26 : decode cX7_must 26 = .ok (.getfield 19, 3) := by decide +kernel
theorem dX7_must_29 : decode cX7_must 29 = .ok (.iload_n 3, 1) := by decide +kernel
theorem dX7_must_30 : decode cX7_must 30 = .ok (.invokevirtual 186, 3) := by decide +kernel
theorem dX7_must_33 : decode cX7_must 33 = .ok (.ifCond .eq 34, 3) := by decide +kernel
theorem dX7_must_36 : decode cX7_must 36 = .ok (.aload_n 0, 1) := by decide +kernel
theorem dX7_must_37 : decode cX7_must 37 = .ok (.getfield 19, 3) := by decide +kernel
theorem dX7_must_40 : decode cX7_must 40 = .ok (.iload_n 3, 1) := by decide +kernel
theorem dX7_must_41 : decode cX7_must 41 = .ok (.aload_n 0, 1) := by decide +kernel
theorem dX7_must_42 : decode cX7_must 42 = .ok (.getfield 19, 3) := by decide +kernel
theorem dX7_must_45 : decode cX7_must 45 = .ok (.iload_n 3, 1) := by decide +kernel
theorem dX7_must_46 : decode cX7_must 46 = .ok (.invokevirtual 154, 3) := by decide +kernel
theorem dX7_must_49 : decode cX7_must 49 = .ok (.iconst 1, 1) := by decide +kernel
theorem dX7_must_50 : decode cX7_must 50 = .ok (.iload_n 1, 1) := by decide +kernel
theorem dX7_must_51 : decode cX7_must 51 = .ok (.ishl, 1) := by decide +kernel
theorem dX7_must_52 : decode cX7_must 52 = .ok (.iconst (-1), 1) := by decide +kernel
theorem dX7_must_53 : decode cX7_must 53 = .ok (.ixor, 1) := by decide +kernel
theorem dX7_must_54 : decode cX7_must 54 = .ok (.iand, 1) := by decide +kernel
theorem dX7_must_55 : decode cX7_must 55 = .ok (.invokevirtual 200, 3) := by decide +kernel
theorem dX7_must_58 : decode cX7_must 58 = .ok (.ifCond .ne 9, 3) := by decide +kernel
theorem dX7_must_61 : decode cX7_must 61 = .ok (.iload_n 2, 1) := by decide +kernel
theorem dX7_must_62 : decode cX7_must 62 = .ok (.iconst 1, 1) := by decide +kernel
theorem dX7_must_63 : decode cX7_must 63 = .ok (.iload_n 3, 1) := by decide +kernel
theorem dX7_must_64 : decode cX7_must 64 = .ok (.ishl, 1) := by decide +kernel
theorem dX7_must_65 : decode cX7_must 65 = .ok (.ior, 1) := by decide +kernel
theorem dX7_must_66 : decode cX7_must 66 = .ok (.istore_n 2, 1) := by decide +kernel
theorem dX7_must_67 : decode cX7_must 67 = .ok (.iinc 3 1, 3) := by decide +kernel
theorem dX7_must_70 : decode cX7_must 70 = .ok (.goto (-56), 3) := by decide +kernel
theorem dX7_must_73 : decode cX7_must 73 = .ok (.iload_n 2, 1) := by decide +kernel
theorem dX7_must_74 : decode cX7_must 74 = .ok (.ireturn, 1) := by decide +kernel
theorem mkX7_must : mokV qX7_must 1 := ⟨⟨⟨⟨by decide, by decide, by decide +kernel⟩, by decide⟩, gd_mem 51 (by decide +kernel) (by decide +kernel), gd_mem 662 (by decide +kernel) (by decide +kernel)⟩, gd_mem 660 (by decide +kernel) (by decide +kernel), gd_mem 661 (by decide +kernel) (by decide +kernel)⟩
abbrev qX7_gap : mMI := (yX7_gap, cX7_gap, 3, (some .int), 5)
theorem dX7_gap_0 : decode cX7_gap 0 = .ok (.aload_n 0, 1) := by decide +kernel
theorem dX7_gap_1 : decode cX7_gap 1 = .ok (.iload_n 1, 1) := by decide +kernel
theorem dX7_gap_2 : decode cX7_gap 2 = .ok (.invokevirtual 136, 3) := by decide +kernel
theorem dX7_gap_5 : decode cX7_gap 5 = .ok (.ifCond .ne 5, 3) := by decide +kernel
theorem dX7_gap_8 : decode cX7_gap 8 = .ok (.iconst (-1), 1) := by decide +kernel
theorem dX7_gap_9 : decode cX7_gap 9 = .ok (.ireturn, 1) := by decide +kernel
theorem dX7_gap_10 : decode cX7_gap 10 = .ok (.aload_n 0, 1) := by decide +kernel
theorem dX7_gap_11 : decode cX7_gap 11 = .ok (.getfield 23, 3) := by decide +kernel
theorem dX7_gap_14 : decode cX7_gap 14 = .ok (.aload_n 0, 1) := by decide +kernel
theorem dX7_gap_15 : decode cX7_gap 15 = .ok (.getfield 19, 3) := by decide +kernel
theorem dX7_gap_18 : decode cX7_gap 18 = .ok (.invokevirtual 91, 3) := by decide +kernel
theorem dX7_gap_21 : decode cX7_gap 21 = .ok (.iconst 0, 1) := by decide +kernel
theorem dX7_gap_22 : decode cX7_gap 22 = .ok (.istore_n 2, 1) := by decide +kernel
theorem dX7_gap_23 : decode cX7_gap 23 = .ok (.iload_n 2, 1) := by decide +kernel
theorem dX7_gap_24 : decode cX7_gap 24 = .ok (.iconst 3, 1) := by decide +kernel
theorem dX7_gap_25 : decode cX7_gap 25 = .ok (.if_icmp .gt 30, 3) := by decide +kernel
theorem dX7_gap_28 : decode cX7_gap 28 = .ok (.aload_n 0, 1) := by decide +kernel
theorem dX7_gap_29 : decode cX7_gap 29 = .ok (.getfield 23, 3) := by decide +kernel
theorem dX7_gap_32 : decode cX7_gap 32 = .ok (.iload_n 2, 1) := by decide +kernel
theorem dX7_gap_33 : decode cX7_gap 33 = .ok (.putfield 107, 3) := by decide +kernel
theorem dX7_gap_36 : decode cX7_gap 36 = .ok (.aload_n 0, 1) := by decide +kernel
theorem dX7_gap_37 : decode cX7_gap 37 = .ok (.getfield 23, 3) := by decide +kernel
theorem dX7_gap_40 : decode cX7_gap 40 = .ok (.iload_n 1, 1) := by decide +kernel
theorem dX7_gap_41 : decode cX7_gap 41 = .ok (.invokevirtual 186, 3) := by decide +kernel
theorem dX7_gap_44 : decode cX7_gap 44 = .ok (.ifCond .eq 5, 3) := by decide +kernel
theorem dX7_gap_47 : decode cX7_gap 47 = .ok (.iload_n 2, 1) := by decide +kernel
theorem dX7_gap_48 : decode cX7_gap 48 = .ok (.ireturn, 1) := by decide +kernel
theorem dX7_gap_49 : decode cX7_gap 49 = .ok (.iinc 2 1, 3) := by decide +kernel
theorem dX7_gap_52 : decode cX7_gap 52 = .ok (.goto (-29), 3) := by decide +kernel
theorem dX7_gap_55 : decode cX7_gap 55 = .ok (.bipush (-4), 2) := by decide +kernel
theorem dX7_gap_57 : decode cX7_gap 57 = .ok (.ireturn, 1) := by decide +kernel
theorem mkX7_gap : mokV qX7_gap 1 := ⟨⟨⟨⟨by decide, by decide, by decide +kernel⟩, by decide⟩, gd_mem 51 (by decide +kernel) (by decide +kernel), gd_mem 700 (by decide +kernel) (by decide +kernel)⟩, gd_mem 698 (by decide +kernel) (by decide +kernel), gd_mem 699 (by decide +kernel) (by decide +kernel)⟩
abbrev qX7_legs : mMI := (yX7_legs, cX7_legs, 3, (some .int), 5)
theorem dX7_legs_0 : decode cX7_legs 0 = .ok (.aload_n 0, 1) := by decide +kernel
theorem dX7_legs_1 : decode cX7_legs 1 = .ok (.iload_n 1, 1) := by decide +kernel
theorem dX7_legs_2 : decode cX7_legs 2 = .ok (.invokevirtual 136, 3) := by decide +kernel
theorem dX7_legs_5 : decode cX7_legs 5 = .ok (.ifCond .ne 5, 3) := by decide +kernel
theorem dX7_legs_8 : decode cX7_legs 8 = .ok (.iconst (-1), 1) := by decide +kernel
theorem dX7_legs_9 : decode cX7_legs 9 = .ok (.ireturn, 1) := by decide +kernel
theorem dX7_legs_10 : decode cX7_legs 10 = .ok (.aload_n 0, 1) := by decide +kernel
theorem dX7_legs_11 : decode cX7_legs 11 = .ok (.getfield 23, 3) := by decide +kernel
theorem dX7_legs_14 : decode cX7_legs 14 = .ok (.aload_n 0, 1) := by decide +kernel
theorem dX7_legs_15 : decode cX7_legs 15 = .ok (.getfield 19, 3) := by decide +kernel
theorem dX7_legs_18 : decode cX7_legs 18 = .ok (.invokevirtual 91, 3) := by decide +kernel
theorem dX7_legs_21 : decode cX7_legs 21 = .ok (.iconst 1, 1) := by decide +kernel
theorem dX7_legs_22 : decode cX7_legs 22 = .ok (.istore_n 2, 1) := by decide +kernel
theorem dX7_legs_23 : decode cX7_legs 23 = .ok (.iload_n 2, 1) := by decide +kernel
theorem dX7_legs_24 : decode cX7_legs 24 = .ok (.iconst 4, 1) := by decide +kernel
theorem dX7_legs_25 : decode cX7_legs 25 = .ok (.if_icmp .gt 32, 3) := by decide +kernel
theorem dX7_legs_28 : decode cX7_legs 28 = .ok (.aload_n 0, 1) := by decide +kernel
theorem dX7_legs_29 : decode cX7_legs 29 = .ok (.getfield 23, 3) := by decide +kernel
theorem dX7_legs_32 : decode cX7_legs 32 = .ok (.getfield 139, 3) := by decide +kernel
theorem dX7_legs_35 : decode cX7_legs 35 = .ok (.iload_n 1, 1) := by decide +kernel
theorem dX7_legs_36 : decode cX7_legs 36 = .ok (.iload_n 2, 1) := by decide +kernel
theorem dX7_legs_37 : decode cX7_legs 37 = .ok (.iastore, 1) := by decide +kernel
theorem dX7_legs_38 : decode cX7_legs 38 = .ok (.aload_n 0, 1) := by decide +kernel
theorem dX7_legs_39 : decode cX7_legs 39 = .ok (.getfield 23, 3) := by decide +kernel
theorem dX7_legs_42 : decode cX7_legs 42 = .ok (.iload_n 1, 1) := by decide +kernel
theorem dX7_legs_43 : decode cX7_legs 43 = .ok (.invokevirtual 186, 3) := by decide +kernel
theorem dX7_legs_46 : decode cX7_legs 46 = .ok (.ifCond .eq 5, 3) := by decide +kernel
theorem dX7_legs_49 : decode cX7_legs 49 = .ok (.iload_n 2, 1) := by decide +kernel
theorem dX7_legs_50 : decode cX7_legs 50 = .ok (.ireturn, 1) := by decide +kernel
theorem dX7_legs_51 : decode cX7_legs 51 = .ok (.iinc 2 1, 3) := by decide +kernel
theorem dX7_legs_54 : decode cX7_legs 54 = .ok (.goto (-31), 3) := by decide +kernel
theorem dX7_legs_57 : decode cX7_legs 57 = .ok (.bipush (-4), 2) := by decide +kernel
theorem dX7_legs_59 : decode cX7_legs 59 = .ok (.ireturn, 1) := by decide +kernel
theorem mkX7_legs : mokV qX7_legs 1 := ⟨⟨⟨⟨by decide, by decide, by decide +kernel⟩, by decide⟩, gd_mem 51 (by decide +kernel) (by decide +kernel), gd_mem 704 (by decide +kernel) (by decide +kernel)⟩, gd_mem 702 (by decide +kernel) (by decide +kernel), gd_mem 703 (by decide +kernel) (by decide +kernel)⟩
abbrev qX7_odds : mMI := (yX7_odds, cX7_odds, 4, (some .long), 5)
theorem dX7_odds_0 : decode cX7_odds 0 = .ok (.iload_n 1, 1) := by decide +kernel
theorem dX7_odds_1 : decode cX7_odds 1 = .ok (.iconst 0, 1) := by decide +kernel
theorem dX7_odds_2 : decode cX7_odds 2 = .ok (.bipush 10, 2) := by decide +kernel
theorem dX7_odds_4 : decode cX7_odds 4 = .ok (.invokestatic 73, 3) := by decide +kernel
theorem dX7_odds_7 : decode cX7_odds 7 = .ok (.ifCond .eq 20, 3) := by decide +kernel
theorem dX7_odds_10 : decode cX7_odds 10 = .ok (.aload_n 0, 1) := by decide +kernel
theorem dX7_odds_11 : decode cX7_odds 11 = .ok (.iload_n 2, 1) := by decide +kernel
theorem dX7_odds_12 : decode cX7_odds 12 = .ok (.invokevirtual 136, 3) := by decide +kernel
theorem dX7_odds_15 : decode cX7_odds 15 = .ok (.ifCond .eq 12, 3) := by decide +kernel
theorem dX7_odds_18 : decode cX7_odds 18 = .ok (.iload_n 3, 1) := by decide +kernel
theorem dX7_odds_19 : decode cX7_odds 19 = .ok (.iconst 0, 1) := by decide +kernel
theorem dX7_odds_20 : decode cX7_odds 20 = .ok (.iconst 1, 1) := by decide +kernel
theorem dX7_odds_21 : decode cX7_odds 21 = .ok (.invokestatic 73, 3) := by decide +kernel
theorem dX7_odds_24 : decode cX7_odds 24 = .ok (.ifCond .ne 7, 3) := by decide +kernel
theorem dX7_odds_27 : decode cX7_odds 27 = .ok (.ldc2_w 228, 3) := by decide +kernel
theorem dX7_odds_30 : decode cX7_odds 30 = .ok (.lreturn, 1) := by decide +kernel
theorem dX7_odds_31 : decode cX7_odds 31 = .ok (.aload_n 0, 1) := by decide +kernel
theorem dX7_odds_32 : decode cX7_odds 32 = .ok (.getfield 51, 3) := by decide +kernel
theorem dX7_odds_35 : decode cX7_odds 35 = .ok (.aload_n 0, 1) := by decide +kernel
theorem dX7_odds_36 : decode cX7_odds 36 = .ok (.getfield 19, 3) := by decide +kernel
theorem dX7_odds_39 : decode cX7_odds 39 = .ok (.iload_n 2, 1) := by decide +kernel
theorem dX7_odds_40 : decode cX7_odds 40 = .ok (.iload_n 1, 1) := by decide +kernel
theorem dX7_odds_41 : decode cX7_odds 41 = .ok (.invokevirtual 230, 3) := by decide +kernel
theorem dX7_odds_44 : decode cX7_odds 44 = .ok (.iload_n 3, 1) := by decide +kernel
theorem dX7_odds_45 : decode cX7_odds 45 = .ok (.invokestatic 234, 3) := by decide +kernel
theorem dX7_odds_48 : decode cX7_odds 48 = .ok (.lreturn, 1) := by decide +kernel
theorem mkX7_odds : mokV qX7_odds 3 := ⟨⟨⟨⟨by decide, by decide, by decide +kernel⟩, by decide⟩, gd_mem 51 (by decide +kernel) (by decide +kernel), gd_mem 737 (by decide +kernel) (by decide +kernel)⟩, gd_mem 735 (by decide +kernel) (by decide +kernel), gd_mem 736 (by decide +kernel) (by decide +kernel)⟩
abbrev qX7_mean : mMI := (yX7_mean, cX7_mean, 6, (some .long), 5)
theorem dX7_mean_0 : decode cX7_mean 0 = .ok (.iload_n 1, 1) := by decide +kernel
theorem dX7_mean_1 : decode cX7_mean 1 = .ok (.iconst 0, 1) := by decide +kernel
theorem dX7_mean_2 : decode cX7_mean 2 = .ok (.bipush 10, 2) := by decide +kernel
theorem dX7_mean_4 : decode cX7_mean 4 = .ok (.invokestatic 73, 3) := by decide +kernel
theorem dX7_mean_7 : decode cX7_mean 7 = .ok (.ifCond .eq 12, 3) := by decide +kernel
theorem dX7_mean_10 : decode cX7_mean 10 = .ok (.iload_n 2, 1) := by decide +kernel
theorem dX7_mean_11 : decode cX7_mean 11 = .ok (.iconst 0, 1) := by decide +kernel
theorem dX7_mean_12 : decode cX7_mean 12 = .ok (.iconst 1, 1) := by decide +kernel
theorem dX7_mean_13 : decode cX7_mean 13 = .ok (.invokestatic 73, 3) := by decide +kernel
theorem dX7_mean_16 : decode cX7_mean 16 = .ok (.ifCond .ne 7, 3) := by decide +kernel
theorem dX7_mean_19 : decode cX7_mean 19 = .ok (.ldc2_w 228, 3) := by decide +kernel
theorem dX7_mean_22 : decode cX7_mean 22 = .ok (.lreturn, 1) := by decide +kernel
theorem dX7_mean_23 : decode cX7_mean 23 = .ok (.lconst 0, 1) := by decide +kernel
theorem dX7_mean_24 : decode cX7_mean 24 = .ok (.lstore_n 3, 1) := by decide +kernel
theorem dX7_mean_25 : decode cX7_mean 25 = .ok (.iconst 0, 1) := by decide +kernel
theorem dX7_mean_26 : decode cX7_mean 26 = .ok (.istore 5, 2) := by decide +kernel
theorem dX7_mean_28 : decode cX7_mean 28 = .ok (.iload 5, 2) := by decide +kernel
theorem dX7_mean_30 : decode cX7_mean 30 = .ok (.aload_n 0, 1) := by decide +kernel
theorem dX7_mean_31 : decode cX7_mean 31 = .ok (.getfield 19, 3) := by decide +kernel
theorem dX7_mean_34 : decode cX7_mean 34 = .ok (.getfield 104, 3) := by decide +kernel
theorem dX7_mean_37 : decode cX7_mean 37 = .ok (.if_icmp .ge 26, 3) := by decide +kernel
theorem dX7_mean_40 : decode cX7_mean 40 = .ok (.lload_n 3, 1) := by decide +kernel
theorem dX7_mean_41 : decode cX7_mean 41 = .ok (.aload_n 0, 1) := by decide +kernel
theorem dX7_mean_42 : decode cX7_mean 42 = .ok (.getfield 51, 3) := by decide +kernel
theorem dX7_mean_45 : decode cX7_mean 45 = .ok (.aload_n 0, 1) := by decide +kernel
theorem dX7_mean_46 : decode cX7_mean 46 = .ok (.getfield 19, 3) := by decide +kernel
theorem dX7_mean_49 : decode cX7_mean 49 = .ok (.iload 5, 2) := by decide +kernel
theorem dX7_mean_51 : decode cX7_mean 51 = .ok (.iload_n 1, 1) := by decide +kernel
theorem dX7_mean_52 : decode cX7_mean 52 = .ok (.invokevirtual 230, 3) := by decide +kernel
theorem dX7_mean_55 : decode cX7_mean 55 = .ok (.ladd, 1) := by decide +kernel
theorem dX7_mean_56 : decode cX7_mean 56 = .ok (.lstore_n 3, 1) := by decide +kernel
theorem dX7_mean_57 : decode cX7_mean 57 = .ok (.iinc 5 1, 3) := by decide +kernel
theorem dX7_mean_60 : decode cX7_mean 60 = .ok (.goto (-32), 3) := by decide +kernel
theorem dX7_mean_63 : decode cX7_mean 63 = .ok (.lload_n 3, 1) := by decide +kernel
theorem dX7_mean_64 : decode cX7_mean 64 = .ok (.iload_n 2, 1) := by decide +kernel
theorem dX7_mean_65 : decode cX7_mean 65 = .ok (.invokestatic 234, 3) := by decide +kernel
theorem dX7_mean_68 : decode cX7_mean 68 = .ok (.lreturn, 1) := by decide +kernel
theorem mkX7_mean : mokV qX7_mean 2 := ⟨⟨⟨⟨by decide, by decide, by decide +kernel⟩, by decide⟩, gd_mem 51 (by decide +kernel) (by decide +kernel), gd_mem 761 (by decide +kernel) (by decide +kernel)⟩, gd_mem 759 (by decide +kernel) (by decide +kernel), gd_mem 760 (by decide +kernel) (by decide +kernel)⟩
abbrev qX7_homes : mMI := (yX7_homes, cX7_homes, 1, (some .int), 6)
theorem dX7_homes_0 : decode cX7_homes 0 = .ok (.aload_n 0, 1) := by decide +kernel
theorem dX7_homes_1 : decode cX7_homes 1 = .ok (.getfield 19, 3) := by decide +kernel
theorem dX7_homes_4 : decode cX7_homes 4 = .ok (.invokevirtual 196, 3) := by decide +kernel
theorem dX7_homes_7 : decode cX7_homes 7 = .ok (.ireturn, 1) := by decide +kernel
theorem mkX7_homes : mokV qX7_homes 0 := ⟨⟨⟨⟨by decide, by decide, by decide +kernel⟩, by decide⟩, gd_mem 51 (by decide +kernel) (by decide +kernel), gd_mem 653 (by decide +kernel) (by decide +kernel)⟩, gd_mem 651 (by decide +kernel) (by decide +kernel), gd_mem 652 (by decide +kernel) (by decide +kernel)⟩
abbrev qX7_best : mMI := (yX7_best, cX7_best, 6, (some .int), 6)
theorem dX7_best_0 : decode cX7_best 0 = .ok (.iload_n 1, 1) := by decide +kernel
theorem dX7_best_1 : decode cX7_best 1 = .ok (.iconst 0, 1) := by decide +kernel
theorem dX7_best_2 : decode cX7_best 2 = .ok (.iconst 1, 1) := by decide +kernel
theorem dX7_best_3 : decode cX7_best 3 = .ok (.invokestatic 73, 3) := by decide +kernel
theorem dX7_best_6 : decode cX7_best 6 = .ok (.ifCond .ne 5, 3) := by decide +kernel
theorem dX7_best_9 : decode cX7_best 9 = .ok (.iconst (-1), 1) := by decide +kernel
theorem dX7_best_10 : decode cX7_best 10 = .ok (.ireturn, 1) := by decide +kernel
theorem dX7_best_11 : decode cX7_best 11 = .ok (.aload_n 0, 1) := by decide +kernel
theorem dX7_best_12 : decode cX7_best 12 = .ok (.getfield 19, 3) := by decide +kernel
theorem dX7_best_15 : decode cX7_best 15 = .ok (.invokevirtual 196, 3) := by decide +kernel
theorem dX7_best_18 : decode cX7_best 18 = .ok (.invokestatic 175, 3) := by decide +kernel
theorem dX7_best_21 : decode cX7_best 21 = .ok (.istore_n 2, 1) := by decide +kernel
theorem dX7_best_22 : decode cX7_best 22 = .ok (.bipush (-4), 2) := by decide +kernel
theorem dX7_best_24 : decode cX7_best 24 = .ok (.istore_n 3, 1) := by decide +kernel
theorem dX7_best_25 : decode cX7_best 25 = .ok (.iconst 0, 1) := by decide +kernel
theorem dX7_best_26 : decode cX7_best 26 = .ok (.istore 4, 2) := by decide +kernel
theorem dX7_best_28 : decode cX7_best 28 = .ok (.iload 4, 2) := by decide +kernel
theorem dX7_best_30 : decode cX7_best 30 = .ok (.aload_n 0, 1) := by decide +kernel
theorem dX7_best_31 : decode cX7_best 31 = .ok (.getfield 19, 3) := by decide +kernel
theorem dX7_best_34 : decode cX7_best 34 = .ok (.getfield 101, 3) := by decide +kernel
theorem dX7_best_37 : decode cX7_best 37 = .ok (.if_icmp .ge 53, 3) := by decide +kernel
theorem dX7_best_40 : decode cX7_best 40 = .ok (.aload_n 0, 1) := by decide +kernel
theorem dX7_best_41 : decode cX7_best 41 = .ok (.getfield 23, 3) := by decide +kernel
theorem dX7_best_44 : decode cX7_best 44 = .ok (.aload_n 0, 1) := by decide +kernel
theorem dX7_best_45 : decode cX7_best 45 = .ok (.getfield 19, 3) := by decide +kernel
theorem dX7_best_48 : decode cX7_best 48 = .ok (.invokevirtual 91, 3) := by decide +kernel
theorem dX7_best_51 : decode cX7_best 51 = .ok (.aload_n 0, 1) := by decide +kernel
theorem dX7_best_52 : decode cX7_best 52 = .ok (.getfield 23, 3) := by decide +kernel
theorem dX7_best_55 : decode cX7_best 55 = .ok (.iload 4, 2) := by decide +kernel
theorem dX7_best_57 : decode cX7_best 57 = .ok (.invokevirtual 161, 3) := by decide +kernel
theorem dX7_best_60 : decode cX7_best 60 = .ok (.aload_n 0, 1) := by decide +kernel
theorem dX7_best_61 : decode cX7_best 61 = .ok (.getfield 23, 3) := by decide +kernel
theorem dX7_best_64 : decode cX7_best 64 = .ok (.invokevirtual 196, 3) := by decide +kernel
theorem dX7_best_67 : decode cX7_best 67 = .ok (.invokestatic 175, 3) := by decide +kernel
theorem dX7_best_70 : decode cX7_best 70 = .ok (.istore 5, 2) := by decide +kernel
theorem dX7_best_72 : decode cX7_best 72 = .ok (.iload 5, 2) := by decide +kernel
theorem dX7_best_74 : decode cX7_best 74 = .ok (.iload_n 2, 1) := by decide +kernel
theorem dX7_best_75 : decode cX7_best 75 = .ok (.if_icmp .le 9, 3) := by decide +kernel
theorem dX7_best_78 : decode cX7_best 78 = .ok (.iload 5, 2) := by decide +kernel
theorem dX7_best_80 : decode cX7_best 80 = .ok (.istore_n 2, 1) := by decide +kernel
theorem dX7_best_81 : decode cX7_best 81 = .ok (.iload 4, 2) := by decide +kernel
theorem dX7_best_83 : decode cX7_best 83 = .ok (.istore_n 3, 1) := by decide +kernel
theorem dX7_best_84 : decode cX7_best 84 = .ok (.iinc 4 1, 3) := by decide +kernel
theorem dX7_best_87 : decode cX7_best 87 = .ok (.goto (-59), 3) := by decide +kernel
theorem dX7_best_90 : decode cX7_best 90 = .ok (.iload_n 3, 1) := by decide +kernel
theorem dX7_best_91 : decode cX7_best 91 = .ok (.bipush (-4), 2) := by decide +kernel
theorem dX7_best_93 : decode cX7_best 93 = .ok (.if_icmp .eq 7, 3) := by decide +kernel
theorem dX7_best_96 : decode cX7_best 96 = .ok (.iload_n 1, 1) := by decide +kernel
theorem dX7_best_97 : decode cX7_best 97 = .ok (.ifCond .ne 7, 3) := by decide +kernel
theorem dX7_best_100 : decode cX7_best 100 = .ok (.iload_n 3, 1) := by decide +kernel
theorem dX7_best_101 : decode cX7_best 101 = .ok (.goto 4, 3) := by decide +kernel
theorem dX7_best_104 : decode cX7_best 104 = .ok (.iload_n 2, 1) := by decide +kernel
theorem dX7_best_105 : decode cX7_best 105 = .ok (.ireturn, 1) := by decide +kernel
theorem mkX7_best : mokV qX7_best 1 := ⟨⟨⟨⟨by decide, by decide, by decide +kernel⟩, by decide⟩, gd_mem 51 (by decide +kernel) (by decide +kernel), gd_mem 716 (by decide +kernel) (by decide +kernel)⟩, gd_mem 714 (by decide +kernel) (by decide +kernel), gd_mem 715 (by decide +kernel) (by decide +kernel)⟩
abbrev qX7_drift : mMI := (yX7_drift, cX7_drift, 7, (some .int), 6)
theorem dX7_drift_0 : decode cX7_drift 0 = .ok (.iload_n 2, 1) := by decide +kernel
theorem dX7_drift_1 : decode cX7_drift 1 = .ok (.iconst 1, 1) := by decide +kernel
theorem dX7_drift_2 : decode cX7_drift 2 = .ok (.bipush 60, 2) := by decide +kernel
theorem dX7_drift_4 : decode cX7_drift 4 = .ok (.invokestatic 73, 3) := by decide +kernel
theorem dX7_drift_7 : decode cX7_drift 7 = .ok (.ifCond .eq 12, 3) := by decide +kernel
theorem dX7_drift_10 : decode cX7_drift 10 = .ok (.iload_n 3, 1) := by decide +kernel
theorem dX7_drift_11 : decode cX7_drift 11 = .ok (.iconst 0, 1) := by decide +kernel
theorem dX7_drift_12 : decode cX7_drift 12 = .ok (.iconst 1, 1) := by decide +kernel
theorem dX7_drift_13 : decode cX7_drift 13 = .ok (.invokestatic 73, 3) := by decide +kernel
theorem dX7_drift_16 : decode cX7_drift 16 = .ok (.ifCond .ne 5, 3) := by decide +kernel
theorem dX7_drift_19 : decode cX7_drift 19 = .ok (.iconst (-1), 1) := by decide +kernel
theorem dX7_drift_20 : decode cX7_drift 20 = .ok (.ireturn, 1) := by decide +kernel
theorem dX7_drift_21 : decode cX7_drift 21 = .ok (.aload_n 0, 1) := by decide +kernel
theorem dX7_drift_22 : decode cX7_drift 22 = .ok (.getfield 19, 3) := by decide +kernel
theorem dX7_drift_25 : decode cX7_drift 25 = .ok (.getfield 104, 3) := by decide +kernel
theorem dX7_drift_28 : decode cX7_drift 28 = .ok (.ifCond .ne 6, 3) := by decide +kernel
theorem dX7_drift_31 : decode cX7_drift 31 = .ok (.bipush (-2), 2) := by decide +kernel
theorem dX7_drift_33 : decode cX7_drift 33 = .ok (.ireturn, 1) := by decide +kernel
theorem dX7_drift_34 : decode cX7_drift 34 = .ok (.aload_n 0, 1) := by decide +kernel
theorem dX7_drift_35 : decode cX7_drift 35 = .ok (.getfield 23, 3) := by decide +kernel
theorem dX7_drift_38 : decode cX7_drift 38 = .ok (.aload_n 0, 1) := by decide +kernel
theorem dX7_drift_39 : decode cX7_drift 39 = .ok (.getfield 19, 3) := by decide +kernel
theorem dX7_drift_42 : decode cX7_drift 42 = .ok (.invokevirtual 91, 3) := by decide +kernel
theorem dX7_drift_45 : decode cX7_drift 45 = .ok (.iconst 0, 1) := by decide +kernel
theorem dX7_drift_46 : decode cX7_drift 46 = .ok (.istore 4, 2) := by decide +kernel
theorem dX7_drift_48 : decode cX7_drift 48 = .ok (.iload_n 1, 1) := by decide +kernel
theorem dX7_drift_49 : decode cX7_drift 49 = .ok (.istore 5, 2) := by decide +kernel
theorem dX7_drift_51 : decode cX7_drift 51 = .ok (.iconst 0, 1) := by decide +kernel
theorem dX7_drift_52 : decode cX7_drift 52 = .ok (.istore 6, 2) := by decide +kernel
theorem dX7_drift_54 : decode cX7_drift 54 = .ok (.iload 6, 2) := by decide +kernel
theorem dX7_drift_56 : decode cX7_drift 56 = .ok (.iload_n 2, 1) := by decide +kernel
theorem dX7_drift_57 : decode cX7_drift 57 = .ok (.if_icmp .ge 54, 3) := by decide +kernel
theorem dX7_drift_60 : decode cX7_drift 60 = .ok (.iload 5, 2) := by decide +kernel
theorem dX7_drift_62 : decode cX7_drift 62 = .ok (.ldc 247, 2) := by decide +kernel
theorem dX7_drift_64 : decode cX7_drift 64 = .ok (.imul, 1) := by decide +kernel
theorem dX7_drift_65 : decode cX7_drift 65 = .ok (.sipush 12345, 3) := by decide +kernel
theorem dX7_drift_68 : decode cX7_drift 68 = .ok (.iadd, 1) := by decide +kernel
theorem dX7_drift_69 : decode cX7_drift 69 = .ok (.istore 5, 2) := by decide +kernel
theorem dX7_drift_71 : decode cX7_drift 71 = .ok (.aload_n 0, 1) := by decide +kernel
theorem dX7_drift_72 : decode cX7_drift 72 = .ok (.getfield 37, 3) := by decide +kernel
theorem dX7_drift_75 : decode cX7_drift 75 = .ok (.aload_n 0, 1) := by decide +kernel
theorem dX7_drift_76 : decode cX7_drift 76 = .ok (.getfield 23, 3) := by decide +kernel
theorem dX7_drift_79 : decode cX7_drift 79 = .ok (.iload 5, 2) := by decide +kernel
theorem dX7_drift_81 : decode cX7_drift 81 = .ok (.bipush 16, 2) := by decide +kernel
theorem dX7_drift_83 : decode cX7_drift 83 = .ok (.iushr, 1) := by decide +kernel
theorem dX7_drift_84 : decode cX7_drift 84 = .ok (.sipush 32767, 3) := by decide +kernel
theorem dX7_drift_87 : decode cX7_drift 87 = .ok (.iand, 1) := by decide +kernel
theorem dX7_drift_88 : decode cX7_drift 88 = .ok (.aload_n 0, 1) := by decide +kernel
theorem dX7_drift_89 : decode cX7_drift 89 = .ok (.getfield 19, 3) := by decide +kernel
theorem dX7_drift_92 : decode cX7_drift 92 = .ok (.getfield 104, 3) := by decide +kernel
theorem dX7_drift_95 : decode cX7_drift 95 = .ok (.irem, 1) := by decide +kernel
theorem dX7_drift_96 : decode cX7_drift 96 = .ok (.invokevirtual 248, 3) := by decide +kernel
theorem dX7_drift_99 : decode cX7_drift 99 = .ok (.ifCond .eq 6, 3) := by decide +kernel
theorem dX7_drift_102 : decode cX7_drift 102 = .ok (.iinc 4 1, 3) := by decide +kernel
theorem dX7_drift_105 : decode cX7_drift 105 = .ok (.iinc 6 1, 3) := by decide +kernel
theorem dX7_drift_108 : decode cX7_drift 108 = .ok (.goto (-54), 3) := by decide +kernel
theorem dX7_drift_111 : decode cX7_drift 111 = .ok (.iload_n 3, 1) := by decide +kernel
theorem dX7_drift_112 : decode cX7_drift 112 = .ok (.ifCond .ne 8, 3) := by decide +kernel
theorem dX7_drift_115 : decode cX7_drift 115 = .ok (.iload 4, 2) := by decide +kernel
theorem dX7_drift_117 : decode cX7_drift 117 = .ok (.goto 10, 3) := by decide +kernel
theorem dX7_drift_120 : decode cX7_drift 120 = .ok (.aload_n 0, 1) := by decide +kernel
theorem dX7_drift_121 : decode cX7_drift 121 = .ok (.getfield 23, 3) := by decide +kernel
theorem dX7_drift_124 : decode cX7_drift 124 = .ok (.invokevirtual 207, 3) := by decide +kernel
theorem dX7_drift_127 : decode cX7_drift 127 = .ok (.ireturn, 1) := by decide +kernel
theorem mkX7_drift : mokV qX7_drift 3 := ⟨⟨⟨⟨by decide, by decide, by decide +kernel⟩, by decide⟩, gd_mem 51 (by decide +kernel) (by decide +kernel), gd_mem 810 (by decide +kernel) (by decide +kernel)⟩, gd_mem 808 (by decide +kernel) (by decide +kernel), gd_mem 809 (by decide +kernel) (by decide +kernel)⟩
abbrev qX7_read : mMI := (yX7_read, cX7_read, 10, (some .int), 6)
theorem dX7_read_0 : decode cX7_read 0 = .ok (.iload_n 1, 1) := by decide +kernel
theorem dX7_read_1 : decode cX7_read 1 = .ok (.invokestatic 252, 3) := by decide +kernel
theorem dX7_read_4 : decode cX7_read 4 = .ok (.ifCond .eq 21, 3) := by decide +kernel
theorem dX7_read_7 : decode cX7_read 7 = .ok (.iload_n 2, 1) := by decide +kernel
theorem dX7_read_8 : decode cX7_read 8 = .ok (.invokestatic 255, 3) := by decide +kernel
theorem dX7_read_11 : decode cX7_read 11 = .ok (.ifCond .eq 14, 3) := by decide +kernel
theorem dX7_read_14 : decode cX7_read 14 = .ok (.iload 4, 2) := by decide +kernel
theorem dX7_read_16 : decode cX7_read 16 = .ok (.iconst 0, 1) := by decide +kernel
theorem dX7_read_17 : decode cX7_read 17 = .ok (.bipush 20, 2) := by decide +kernel
theorem dX7_read_19 : decode cX7_read 19 = .ok (.invokestatic 73, 3) := by decide +kernel
theorem dX7_read_22 : decode cX7_read 22 = .ok (.ifCond .ne 5, 3) := by decide +kernel
theorem dX7_read_25 : decode cX7_read 25 = .ok (.iconst (-1), 1) := by decide +kernel
theorem dX7_read_26 : decode cX7_read 26 = .ok (.ireturn, 1) := by decide +kernel
theorem dX7_read_27 : decode cX7_read 27 = .ok (.aload_n 0, 1) := by decide +kernel
theorem dX7_read_28 : decode cX7_read 28 = .ok (.getfield 64, 3) := by decide +kernel
theorem dX7_read_31 : decode cX7_read 31 = .ok (.iload_n 1, 1) := by decide +kernel
theorem dX7_read_32 : decode cX7_read 32 = .ok (.aaload, 1) := by decide +kernel
theorem dX7_read_33 : decode cX7_read 33 = .ok (.astore 5, 2) := by decide +kernel
theorem dX7_read_35 : decode cX7_read 35 = .ok (.aload_n 0, 1) := by decide +kernel
theorem dX7_read_36 : decode cX7_read 36 = .ok (.getfield 23, 3) := by decide +kernel
theorem dX7_read_39 : decode cX7_read 39 = .ok (.aload_n 0, 1) := by decide +kernel
theorem dX7_read_40 : decode cX7_read 40 = .ok (.getfield 19, 3) := by decide +kernel
theorem dX7_read_43 : decode cX7_read 43 = .ok (.invokevirtual 91, 3) := by decide +kernel
theorem dX7_read_46 : decode cX7_read 46 = .ok (.iconst 0, 1) := by decide +kernel
theorem dX7_read_47 : decode cX7_read 47 = .ok (.istore 6, 2) := by decide +kernel
theorem dX7_read_49 : decode cX7_read 49 = .ok (.iconst 0, 1) := by decide +kernel
theorem dX7_read_50 : decode cX7_read 50 = .ok (.istore 7, 2) := by decide +kernel
theorem dX7_read_52 : decode cX7_read 52 = .ok (.iconst 0, 1) := by decide +kernel
theorem dX7_read_53 : decode cX7_read 53 = .ok (.istore 8, 2) := by decide +kernel
theorem dX7_read_55 : decode cX7_read 55 = .ok (.iload 8, 2) := by decide +kernel
theorem dX7_read_57 : decode cX7_read 57 = .ok (.iload 4, 2) := by decide +kernel
theorem dX7_read_59 : decode cX7_read 59 = .ok (.if_icmp .ge 77, 3) := by decide +kernel
theorem dX7_read_62 : decode cX7_read 62 = .ok (.iload 6, 2) := by decide +kernel
theorem dX7_read_64 : decode cX7_read 64 = .ok (.ifCond .ne 72, 3) := by decide +kernel
theorem dX7_read_67 : decode cX7_read 67 = .ok (.aload 5, 2) := by decide +kernel
theorem dX7_read_69 : decode cX7_read 69 = .ok (.iload_n 2, 1) := by decide +kernel
theorem dX7_read_70 : decode cX7_read 70 = .ok (.iload_n 3, 1) := by decide +kernel
theorem dX7_read_71 : decode cX7_read 71 = .ok (.iload 8, 2) := by decide +kernel
theorem dX7_read_73 : decode cX7_read 73 = .ok (.iadd, 1) := by decide +kernel
theorem dX7_read_74 : decode cX7_read 74 = .ok (.invokevirtual 266, 3) := by decide +kernel
theorem dX7_read_77 : decode cX7_read 77 = .ok (.istore 6, 2) := by decide +kernel
theorem dX7_read_79 : decode cX7_read 79 = .ok (.iload 6, 2) := by decide +kernel
theorem dX7_read_81 : decode cX7_read 81 = .ok (.ifCond .ne 49, 3) := by decide +kernel
theorem dX7_read_84 : decode cX7_read 84 = .ok (.aload 5, 2) := by decide +kernel
theorem dX7_read_86 : decode cX7_read 86 = .ok (.getfield 269, 3) := by decide +kernel
theorem dX7_read_89 : decode cX7_read 89 = .ok (.iload_n 3, 1) := by decide +kernel
theorem dX7_read_90 : decode cX7_read 90 = .ok (.iload 8, 2) := by decide +kernel
theorem dX7_read_92 : decode cX7_read 92 = .ok (.iadd, 1) := by decide +kernel
theorem dX7_read_93 : decode cX7_read 93 = .ok (.iaload, 1) := by decide +kernel
theorem dX7_read_94 : decode cX7_read 94 = .ok (.istore 9, 2) := by decide +kernel
theorem dX7_read_96 : decode cX7_read 96 = .ok (.aload_n 0, 1) := by decide +kernel
theorem dX7_read_97 : decode cX7_read 97 = .ok (.iload 9, 2) := by decide +kernel
theorem dX7_read_99 : decode cX7_read 99 = .ok (.invokevirtual 136, 3) := by decide +kernel
theorem dX7_read_102 : decode cX7_read 102 = .ok (.ifCond .eq 19, 3) := by decide +kernel
theorem dX7_read_105 : decode cX7_read 105 = .ok (.aload_n 0, 1) := by decide +kernel
theorem dX7_read_106 : decode cX7_read 106 = .ok (.getfield 37, 3) := by decide +kernel
theorem dX7_read_109 : decode cX7_read 109 = .ok (.aload_n 0, 1) := by decide +kernel
theorem dX7_read_110 : decode cX7_read 110 = .ok (.getfield 23, 3) := by decide +kernel
theorem dX7_read_113 : decode cX7_read 113 = .ok (.iload 9, 2) := by decide +kernel
theorem dX7_read_115 : decode cX7_read 115 = .ok (.invokevirtual 248, 3) := by decide +kernel
theorem dX7_read_118 : decode cX7_read 118 = .ok (.ifCond .ne 9, 3) := by decide +kernel
theorem dX7_read_121 : decode cX7_read 121 = .ok (.bipush (-20), 2) := by decide +kernel
theorem dX7_read_123 : decode cX7_read 123 = .ok (.iload 8, 2) := by decide +kernel
theorem dX7_read_125 : decode cX7_read 125 = .ok (.isub, 1) := by decide +kernel
theorem dX7_read_126 : decode cX7_read 126 = .ok (.ireturn, 1) := by decide +kernel
theorem dX7_read_127 : decode cX7_read 127 = .ok (.iinc 7 1, 3) := by decide +kernel
theorem dX7_read_130 : decode cX7_read 130 = .ok (.iinc 8 1, 3) := by decide +kernel
theorem dX7_read_133 : decode cX7_read 133 = .ok (.goto (-78), 3) := by decide +kernel
theorem dX7_read_136 : decode cX7_read 136 = .ok (.aload_n 0, 1) := by decide +kernel
theorem dX7_read_137 : decode cX7_read 137 = .ok (.getfield 19, 3) := by decide +kernel
theorem dX7_read_140 : decode cX7_read 140 = .ok (.aload_n 0, 1) := by decide +kernel
theorem dX7_read_141 : decode cX7_read 141 = .ok (.getfield 23, 3) := by decide +kernel
theorem dX7_read_144 : decode cX7_read 144 = .ok (.invokevirtual 91, 3) := by decide +kernel
theorem dX7_read_147 : decode cX7_read 147 = .ok (.aload_n 0, 1) := by decide +kernel
theorem dX7_read_148 : decode cX7_read 148 = .ok (.iload 6, 2) := by decide +kernel
theorem dX7_read_150 : decode cX7_read 150 = .ok (.putfield 68, 3) := by decide +kernel
theorem dX7_read_153 : decode cX7_read 153 = .ok (.iload 7, 2) := by decide +kernel
theorem dX7_read_155 : decode cX7_read 155 = .ok (.ireturn, 1) := by decide +kernel
theorem mkX7_read : mokV qX7_read 4 := ⟨⟨⟨⟨by decide, by decide, by decide +kernel⟩, by decide⟩, gd_mem 51 (by decide +kernel) (by decide +kernel), gd_mem 855 (by decide +kernel) (by decide +kernel)⟩, gd_mem 853 (by decide +kernel) (by decide +kernel), gd_mem 854 (by decide +kernel) (by decide +kernel)⟩
abbrev qX7_count : mMI := (yX7_count, cX7_count, 2, (some .int), 6)
theorem dX7_count_0 : decode cX7_count 0 = .ok (.iload_n 1, 1) := by decide +kernel
theorem dX7_count_1 : decode cX7_count 1 = .ok (.tableswitch 121 0 6 #[43, 51, 56, 64, 91, 102, 110], 43) := by decide +kernel
theorem dX7_count_44 : decode cX7_count 44 = .ok (.aload_n 0, 1) := by decide +kernel
theorem dX7_count_45 : decode cX7_count 45 = .ok (.getfield 58, 3) := by decide +kernel
theorem dX7_count_48 : decode cX7_count 48 = .ok (.getfield 95, 3) := by decide +kernel
theorem dX7_count_51 : decode cX7_count 51 = .ok (.ireturn, 1) := by decide +kernel
theorem dX7_count_52 : decode cX7_count 52 = .ok (.aload_n 0, 1) := by decide +kernel
theorem dX7_count_53 : decode cX7_count 53 = .ok (.invokevirtual 272, 3) := by decide +kernel
theorem dX7_count_56 : decode cX7_count 56 = .ok (.ireturn, 1) := by decide +kernel
theorem dX7_count_57 : decode cX7_count 57 = .ok (.aload_n 0, 1) := by decide +kernel
theorem dX7_count_58 : decode cX7_count 58 = .ok (.getfield 10, 3) := by decide +kernel
theorem dX7_count_61 : decode cX7_count 61 = .ok (.getfield 81, 3) := by decide +kernel
theorem dX7_count_64 : decode cX7_count 64 = .ok (.ireturn, 1) := by decide +kernel
theorem dX7_count_65 : decode cX7_count 65 = .ok (.aload_n 0, 1) := by decide +kernel
theorem dX7_count_66 : decode cX7_count 66 = .ok (.getfield 64, 3) := by decide +kernel
theorem dX7_count_69 : decode cX7_count 69 = .ok (.iconst 0, 1) := by decide +kernel
theorem dX7_count_70 : decode cX7_count 70 = .ok (.aaload, 1) := by decide +kernel
theorem dX7_count_71 : decode cX7_count 71 = .ok (.invokevirtual 275, 3) := by decide +kernel
theorem dX7_count_74 : decode cX7_count 74 = .ok (.ifCond .eq 8, 3) := by decide +kernel
theorem dX7_count_77 : decode cX7_count 77 = .ok (.bipush (-4), 2) := by decide +kernel
theorem dX7_count_79 : decode cX7_count 79 = .ok (.goto 12, 3) := by decide +kernel
theorem dX7_count_82 : decode cX7_count 82 = .ok (.aload_n 0, 1) := by decide +kernel
theorem dX7_count_83 : decode cX7_count 83 = .ok (.getfield 64, 3) := by decide +kernel
theorem dX7_count_86 : decode cX7_count 86 = .ok (.iconst 0, 1) := by decide +kernel
theorem dX7_count_87 : decode cX7_count 87 = .ok (.aaload, 1) := by decide +kernel
theorem dX7_count_88 : decode cX7_count 88 = .ok (.getfield 279, 3) := by decide +kernel
theorem dX7_count_91 : decode cX7_count 91 = .ok (.ireturn, 1) := by decide +kernel
theorem dX7_count_92 : decode cX7_count 92 = .ok (.aload_n 0, 1) := by decide +kernel
theorem dX7_count_93 : decode cX7_count 93 = .ok (.getfield 19, 3) := by decide +kernel
theorem dX7_count_96 : decode cX7_count 96 = .ok (.invokevirtual 207, 3) := by decide +kernel
theorem dX7_count_99 : decode cX7_count 99 = .ok (.invokestatic 175, 3) := by decide +kernel
theorem dX7_count_102 : decode cX7_count 102 = .ok (.ireturn, 1) := by decide +kernel
theorem dX7_count_103 : decode cX7_count 103 = .ok (.aload_n 0, 1) := by decide +kernel
theorem dX7_count_104 : decode cX7_count 104 = .ok (.getfield 19, 3) := by decide +kernel
theorem dX7_count_107 : decode cX7_count 107 = .ok (.invokevirtual 282, 3) := by decide +kernel
theorem dX7_count_110 : decode cX7_count 110 = .ok (.ireturn, 1) := by decide +kernel
theorem dX7_count_111 : decode cX7_count 111 = .ok (.aload_n 0, 1) := by decide +kernel
theorem dX7_count_112 : decode cX7_count 112 = .ok (.getfield 19, 3) := by decide +kernel
theorem dX7_count_115 : decode cX7_count 115 = .ok (.invokevirtual 196, 3) := by decide +kernel
theorem dX7_count_118 : decode cX7_count 118 = .ok (.invokestatic 175, 3) := by decide +kernel
theorem dX7_count_121 : decode cX7_count 121 = .ok (.ireturn, 1) := by decide +kernel
theorem dX7_count_122 : decode cX7_count 122 = .ok (.iconst (-1), 1) := by decide +kernel
theorem dX7_count_123 : decode cX7_count 123 = .ok (.ireturn, 1) := by decide +kernel
theorem mkX7_count : mokV qX7_count 1 := ⟨⟨⟨⟨by decide, by decide, by decide +kernel⟩, by decide⟩, gd_mem 51 (by decide +kernel) (by decide +kernel), gd_mem 868 (by decide +kernel) (by decide +kernel)⟩, gd_mem 866 (by decide +kernel) (by decide +kernel), gd_mem 867 (by decide +kernel) (by decide +kernel)⟩
abbrev qX7_day : mMI := (yX7_day, cX7_day, 2, (some .int), 7)
theorem dX7_day_0 : decode cX7_day 0 = .ok (.iload_n 1, 1) := by decide +kernel
theorem dX7_day_1 : decode cX7_day 1 = .ok (.iconst 0, 1) := by decide +kernel
theorem dX7_day_2 : decode cX7_day 2 = .ok (.bipush 60, 2) := by decide +kernel
theorem dX7_day_4 : decode cX7_day 4 = .ok (.invokestatic 73, 3) := by decide +kernel
theorem dX7_day_7 : decode cX7_day 7 = .ok (.ifCond .ne 5, 3) := by decide +kernel
theorem dX7_day_10 : decode cX7_day 10 = .ok (.iconst (-1), 1) := by decide +kernel
theorem dX7_day_11 : decode cX7_day 11 = .ok (.ireturn, 1) := by decide +kernel
theorem dX7_day_12 : decode cX7_day 12 = .ok (.aload_n 0, 1) := by decide +kernel
theorem dX7_day_13 : decode cX7_day 13 = .ok (.getfield 19, 3) := by decide +kernel
theorem dX7_day_16 : decode cX7_day 16 = .ok (.getfield 113, 3) := by decide +kernel
theorem dX7_day_19 : decode cX7_day 19 = .ok (.iload_n 1, 1) := by decide +kernel
theorem dX7_day_20 : decode cX7_day 20 = .ok (.iadd, 1) := by decide +kernel
theorem dX7_day_21 : decode cX7_day 21 = .ok (.sipush 1000, 3) := by decide +kernel
theorem dX7_day_24 : decode cX7_day 24 = .ok (.if_icmp .lt 6, 3) := by decide +kernel
theorem dX7_day_27 : decode cX7_day 27 = .ok (.bipush (-3), 2) := by decide +kernel
theorem dX7_day_29 : decode cX7_day 29 = .ok (.ireturn, 1) := by decide +kernel
theorem dX7_day_30 : decode cX7_day 30 = .ok (.aload_n 0, 1) := by decide +kernel
theorem dX7_day_31 : decode cX7_day 31 = .ok (.getfield 37, 3) := by decide +kernel
theorem dX7_day_34 : decode cX7_day 34 = .ok (.aload_n 0, 1) := by decide +kernel
theorem dX7_day_35 : decode cX7_day 35 = .ok (.getfield 19, 3) := by decide +kernel
theorem dX7_day_38 : decode cX7_day 38 = .ok (.iload_n 1, 1) := by decide +kernel
theorem dX7_day_39 : decode cX7_day 39 = .ok (.invokevirtual 204, 3) := by decide +kernel
theorem dX7_day_42 : decode cX7_day 42 = .ok (.ireturn, 1) := by decide +kernel
theorem mkX7_day : mokV qX7_day 1 := ⟨⟨⟨⟨by decide, by decide, by decide +kernel⟩, by decide⟩, gd_mem 51 (by decide +kernel) (by decide +kernel), gd_mem 667 (by decide +kernel) (by decide +kernel)⟩, gd_mem 665 (by decide +kernel) (by decide +kernel), gd_mem 666 (by decide +kernel) (by decide +kernel)⟩
abbrev qX7_ahead : mMI := (yX7_ahead, cX7_ahead, 5, (some .int), 7)
theorem dX7_ahead_0 : decode cX7_ahead 0 = .ok (.iload_n 2, 1) := by decide +kernel
theorem dX7_ahead_1 : decode cX7_ahead 1 = .ok (.bipush 10, 2) := by decide +kernel
theorem dX7_ahead_3 : decode cX7_ahead 3 = .ok (.isub, 1) := by decide +kernel
theorem dX7_ahead_4 : decode cX7_ahead 4 = .ok (.istore_n 3, 1) := by decide +kernel
theorem dX7_ahead_5 : decode cX7_ahead 5 = .ok (.iload_n 1, 1) := by decide +kernel
theorem dX7_ahead_6 : decode cX7_ahead 6 = .ok (.iconst 0, 1) := by decide +kernel
theorem dX7_ahead_7 : decode cX7_ahead 7 = .ok (.bipush 60, 2) := by decide +kernel
theorem dX7_ahead_9 : decode cX7_ahead 9 = .ok (.invokestatic 73, 3) := by decide +kernel
theorem dX7_ahead_12 : decode cX7_ahead 12 = .ok (.ifCond .eq 20, 3) := by decide +kernel
theorem dX7_ahead_15 : decode cX7_ahead 15 = .ok (.iload_n 2, 1) := by decide +kernel
theorem dX7_ahead_16 : decode cX7_ahead 16 = .ok (.iconst 0, 1) := by decide +kernel
theorem dX7_ahead_17 : decode cX7_ahead 17 = .ok (.iconst 1, 1) := by decide +kernel
theorem dX7_ahead_18 : decode cX7_ahead 18 = .ok (.invokestatic 73, 3) := by decide +kernel
theorem dX7_ahead_21 : decode cX7_ahead 21 = .ok (.ifCond .ne 13, 3) := by decide +kernel
theorem dX7_ahead_24 : decode cX7_ahead 24 = .ok (.aload_n 0, 1) := by decide +kernel
theorem dX7_ahead_25 : decode cX7_ahead 25 = .ok (.iload_n 3, 1) := by decide +kernel
theorem dX7_ahead_26 : decode cX7_ahead 26 = .ok (.invokevirtual 116, 3) := by decide +kernel
theorem dX7_ahead_29 : decode cX7_ahead 29 = .ok (.ifCond .ne 5, 3) := by decide +kernel
theorem dX7_ahead_32 : decode cX7_ahead 32 = .ok (.iconst (-1), 1) := by decide +kernel
theorem dX7_ahead_33 : decode cX7_ahead 33 = .ok (.ireturn, 1) := by decide +kernel
theorem dX7_ahead_34 : decode cX7_ahead 34 = .ok (.aload_n 0, 1) := by decide +kernel
theorem dX7_ahead_35 : decode cX7_ahead 35 = .ok (.getfield 23, 3) := by decide +kernel
theorem dX7_ahead_38 : decode cX7_ahead 38 = .ok (.aload_n 0, 1) := by decide +kernel
theorem dX7_ahead_39 : decode cX7_ahead 39 = .ok (.getfield 19, 3) := by decide +kernel
theorem dX7_ahead_42 : decode cX7_ahead 42 = .ok (.invokevirtual 91, 3) := by decide +kernel
theorem dX7_ahead_45 : decode cX7_ahead 45 = .ok (.aload_n 0, 1) := by decide +kernel
theorem dX7_ahead_46 : decode cX7_ahead 46 = .ok (.getfield 37, 3) := by decide +kernel
theorem dX7_ahead_49 : decode cX7_ahead 49 = .ok (.aload_n 0, 1) := by decide +kernel
theorem dX7_ahead_50 : decode cX7_ahead 50 = .ok (.getfield 23, 3) := by decide +kernel
theorem dX7_ahead_53 : decode cX7_ahead 53 = .ok (.iload_n 1, 1) := by decide +kernel
theorem dX7_ahead_54 : decode cX7_ahead 54 = .ok (.invokevirtual 204, 3) := by decide +kernel
theorem dX7_ahead_57 : decode cX7_ahead 57 = .ok (.istore 4, 2) := by decide +kernel
theorem dX7_ahead_59 : decode cX7_ahead 59 = .ok (.iload_n 2, 1) := by decide +kernel
theorem dX7_ahead_60 : decode cX7_ahead 60 = .ok (.ifCond .ne 6, 3) := by decide +kernel
theorem dX7_ahead_63 : decode cX7_ahead 63 = .ok (.iload 4, 2) := by decide +kernel
theorem dX7_ahead_65 : decode cX7_ahead 65 = .ok (.ireturn, 1) := by decide +kernel
theorem dX7_ahead_66 : decode cX7_ahead 66 = .ok (.iload_n 2, 1) := by decide +kernel
theorem dX7_ahead_67 : decode cX7_ahead 67 = .ok (.iconst 1, 1) := by decide +kernel
theorem dX7_ahead_68 : decode cX7_ahead 68 = .ok (.if_icmp .ne 13, 3) := by decide +kernel
theorem dX7_ahead_71 : decode cX7_ahead 71 = .ok (.aload_n 0, 1) := by decide +kernel
theorem dX7_ahead_72 : decode cX7_ahead 72 = .ok (.getfield 23, 3) := by decide +kernel
theorem dX7_ahead_75 : decode cX7_ahead 75 = .ok (.invokevirtual 207, 3) := by decide +kernel
theorem dX7_ahead_78 : decode cX7_ahead 78 = .ok (.goto 12, 3) := by decide +kernel
theorem dX7_ahead_81 : decode cX7_ahead 81 = .ok (.aload_n 0, 1) := by decide +kernel
theorem dX7_ahead_82 : decode cX7_ahead 82 = .ok (.getfield 23, 3) := by decide +kernel
theorem dX7_ahead_85 : decode cX7_ahead 85 = .ok (.getfield 127, 3) := by decide +kernel
theorem dX7_ahead_88 : decode cX7_ahead 88 = .ok (.iload_n 3, 1) := by decide +kernel
theorem dX7_ahead_89 : decode cX7_ahead 89 = .ok (.iaload, 1) := by decide +kernel
theorem dX7_ahead_90 : decode cX7_ahead 90 = .ok (.ireturn, 1) := by decide +kernel
theorem mkX7_ahead : mokV qX7_ahead 2 := ⟨⟨⟨⟨by decide, by decide, by decide +kernel⟩, by decide⟩, gd_mem 51 (by decide +kernel) (by decide +kernel), gd_mem 684 (by decide +kernel) (by decide +kernel)⟩, gd_mem 682 (by decide +kernel) (by decide +kernel), gd_mem 683 (by decide +kernel) (by decide +kernel)⟩
abbrev qX7_breaks : mMI := (yX7_breaks, cX7_breaks, 5, (some .int), 7)
theorem dX7_breaks_0 : decode cX7_breaks 0 = .ok (.iload_n 1, 1) := by decide +kernel
theorem dX7_breaks_1 : decode cX7_breaks 1 = .ok (.iconst 0, 1) := by decide +kernel
theorem dX7_breaks_2 : decode cX7_breaks 2 = .ok (.iconst 1, 1) := by decide +kernel
theorem dX7_breaks_3 : decode cX7_breaks 3 = .ok (.invokestatic 73, 3) := by decide +kernel
theorem dX7_breaks_6 : decode cX7_breaks 6 = .ok (.ifCond .ne 5, 3) := by decide +kernel
theorem dX7_breaks_9 : decode cX7_breaks 9 = .ok (.iconst (-1), 1) := by decide +kernel
theorem dX7_breaks_10 : decode cX7_breaks 10 = .ok (.ireturn, 1) := by decide +kernel
theorem dX7_breaks_11 : decode cX7_breaks 11 = .ok (.aload_n 0, 1) := by decide +kernel
theorem dX7_breaks_12 : decode cX7_breaks 12 = .ok (.getfield 19, 3) := by decide +kernel
theorem dX7_breaks_15 : decode cX7_breaks 15 = .ok (.invokevirtual 207, 3) := by decide +kernel
theorem dX7_breaks_18 : decode cX7_breaks 18 = .ok (.iconst (-1), 1) := by decide +kernel
theorem dX7_breaks_19 : decode cX7_breaks 19 = .ok (.ixor, 1) := by decide +kernel
theorem dX7_breaks_20 : decode cX7_breaks 20 = .ok (.istore_n 2, 1) := by decide +kernel
theorem dX7_breaks_21 : decode cX7_breaks 21 = .ok (.aload_n 0, 1) := by decide +kernel
theorem dX7_breaks_22 : decode cX7_breaks 22 = .ok (.getfield 23, 3) := by decide +kernel
theorem dX7_breaks_25 : decode cX7_breaks 25 = .ok (.aload_n 0, 1) := by decide +kernel
theorem dX7_breaks_26 : decode cX7_breaks 26 = .ok (.getfield 19, 3) := by decide +kernel
theorem dX7_breaks_29 : decode cX7_breaks 29 = .ok (.invokevirtual 91, 3) := by decide +kernel
theorem dX7_breaks_32 : decode cX7_breaks 32 = .ok (.iconst 1, 1) := by decide +kernel
theorem dX7_breaks_33 : decode cX7_breaks 33 = .ok (.istore_n 3, 1) := by decide +kernel
theorem dX7_breaks_34 : decode cX7_breaks 34 = .ok (.iload_n 3, 1) := by decide +kernel
theorem dX7_breaks_35 : decode cX7_breaks 35 = .ok (.bipush 60, 2) := by decide +kernel
theorem dX7_breaks_37 : decode cX7_breaks 37 = .ok (.if_icmp .gt 52, 3) := by decide +kernel
theorem dX7_breaks_40 : decode cX7_breaks 40 = .ok (.aload_n 0, 1) := by decide +kernel
theorem dX7_breaks_41 : decode cX7_breaks 41 = .ok (.getfield 37, 3) := by decide +kernel
theorem dX7_breaks_44 : decode cX7_breaks 44 = .ok (.aload_n 0, 1) := by decide +kernel
theorem dX7_breaks_45 : decode cX7_breaks 45 = .ok (.getfield 23, 3) := by decide +kernel
theorem dX7_breaks_48 : decode cX7_breaks 48 = .ok (.iconst 1, 1) := by decide +kernel
theorem dX7_breaks_49 : decode cX7_breaks 49 = .ok (.invokevirtual 204, 3) := by decide +kernel
theorem dX7_breaks_52 : decode cX7_breaks 52 = .ok (.pop, 1) := by decide +kernel
theorem dX7_breaks_53 : decode cX7_breaks 53 = .ok (.aload_n 0, 1) := by decide +kernel
theorem dX7_breaks_54 : decode cX7_breaks 54 = .ok (.getfield 23, 3) := by decide +kernel
theorem dX7_breaks_57 : decode cX7_breaks 57 = .ok (.invokevirtual 207, 3) := by decide +kernel
theorem dX7_breaks_60 : decode cX7_breaks 60 = .ok (.iload_n 2, 1) := by decide +kernel
theorem dX7_breaks_61 : decode cX7_breaks 61 = .ok (.iand, 1) := by decide +kernel
theorem dX7_breaks_62 : decode cX7_breaks 62 = .ok (.istore 4, 2) := by decide +kernel
theorem dX7_breaks_64 : decode cX7_breaks 64 = .ok (.iload 4, 2) := by decide +kernel
theorem dX7_breaks_66 : decode cX7_breaks 66 = .ok (.ifCond .eq 17, 3) := by decide +kernel
theorem dX7_breaks_69 : decode cX7_breaks 69 = .ok (.iload_n 1, 1) := by decide +kernel
theorem dX7_breaks_70 : decode cX7_breaks 70 = .ok (.ifCond .ne 7, 3) := by decide +kernel
theorem dX7_breaks_73 : decode cX7_breaks 73 = .ok (.iload_n 3, 1) := by decide +kernel
theorem dX7_breaks_74 : decode cX7_breaks 74 = .ok (.goto 8, 3) := by decide +kernel
theorem dX7_breaks_77 : decode cX7_breaks 77 = .ok (.iload 4, 2) := by decide +kernel
theorem dX7_breaks_79 : decode cX7_breaks 79 = .ok (.invokestatic 210, 3) := by decide +kernel
theorem dX7_breaks_82 : decode cX7_breaks 82 = .ok (.ireturn, 1) := by decide +kernel
theorem dX7_breaks_83 : decode cX7_breaks 83 = .ok (.iinc 3 1, 3) := by decide +kernel
theorem dX7_breaks_86 : decode cX7_breaks 86 = .ok (.goto (-52), 3) := by decide +kernel
theorem dX7_breaks_89 : decode cX7_breaks 89 = .ok (.bipush (-4), 2) := by decide +kernel
theorem dX7_breaks_91 : decode cX7_breaks 91 = .ok (.ireturn, 1) := by decide +kernel
theorem mkX7_breaks : mokV qX7_breaks 1 := ⟨⟨⟨⟨by decide, by decide, by decide +kernel⟩, by decide⟩, gd_mem 51 (by decide +kernel) (by decide +kernel), gd_mem 692 (by decide +kernel) (by decide +kernel)⟩, gd_mem 690 (by decide +kernel) (by decide +kernel), gd_mem 691 (by decide +kernel) (by decide +kernel)⟩
abbrev qX7_stuck : mMI := (yX7_stuck, cX7_stuck, 3, (some .int), 7)
theorem dX7_stuck_0 : decode cX7_stuck 0 = .ok (.aload_n 0, 1) := by decide +kernel
theorem dX7_stuck_1 : decode cX7_stuck 1 = .ok (.iload_n 1, 1) := by decide +kernel
theorem dX7_stuck_2 : decode cX7_stuck 2 = .ok (.invokevirtual 136, 3) := by decide +kernel
theorem dX7_stuck_5 : decode cX7_stuck 5 = .ok (.ifCond .ne 5, 3) := by decide +kernel
theorem dX7_stuck_8 : decode cX7_stuck 8 = .ok (.iconst (-1), 1) := by decide +kernel
theorem dX7_stuck_9 : decode cX7_stuck 9 = .ok (.ireturn, 1) := by decide +kernel
theorem dX7_stuck_10 : decode cX7_stuck 10 = .ok (.aload_n 0, 1) := by decide +kernel
theorem dX7_stuck_11 : decode cX7_stuck 11 = .ok (.getfield 23, 3) := by decide +kernel
theorem dX7_stuck_14 : decode cX7_stuck 14 = .ok (.aload_n 0, 1) := by decide +kernel
theorem dX7_stuck_15 : decode cX7_stuck 15 = .ok (.getfield 19, 3) := by decide +kernel
theorem dX7_stuck_18 : decode cX7_stuck 18 = .ok (.invokevirtual 91, 3) := by decide +kernel
theorem dX7_stuck_21 : decode cX7_stuck 21 = .ok (.iconst 0, 1) := by decide +kernel
theorem dX7_stuck_22 : decode cX7_stuck 22 = .ok (.istore_n 2, 1) := by decide +kernel
theorem dX7_stuck_23 : decode cX7_stuck 23 = .ok (.iload_n 2, 1) := by decide +kernel
theorem dX7_stuck_24 : decode cX7_stuck 24 = .ok (.bipush 60, 2) := by decide +kernel
theorem dX7_stuck_26 : decode cX7_stuck 26 = .ok (.if_icmp .gt 35, 3) := by decide +kernel
theorem dX7_stuck_29 : decode cX7_stuck 29 = .ok (.aload_n 0, 1) := by decide +kernel
theorem dX7_stuck_30 : decode cX7_stuck 30 = .ok (.getfield 23, 3) := by decide +kernel
theorem dX7_stuck_33 : decode cX7_stuck 33 = .ok (.iload_n 1, 1) := by decide +kernel
theorem dX7_stuck_34 : decode cX7_stuck 34 = .ok (.invokevirtual 186, 3) := by decide +kernel
theorem dX7_stuck_37 : decode cX7_stuck 37 = .ok (.ifCond .ne 5, 3) := by decide +kernel
theorem dX7_stuck_40 : decode cX7_stuck 40 = .ok (.iload_n 2, 1) := by decide +kernel
theorem dX7_stuck_41 : decode cX7_stuck 41 = .ok (.ireturn, 1) := by decide +kernel
theorem dX7_stuck_42 : decode cX7_stuck 42 = .ok (.aload_n 0, 1) := by decide +kernel
theorem dX7_stuck_43 : decode cX7_stuck 43 = .ok (.getfield 37, 3) := by decide +kernel
theorem dX7_stuck_46 : decode cX7_stuck 46 = .ok (.aload_n 0, 1) := by decide +kernel
theorem dX7_stuck_47 : decode cX7_stuck 47 = .ok (.getfield 23, 3) := by decide +kernel
theorem dX7_stuck_50 : decode cX7_stuck 50 = .ok (.iconst 1, 1) := by decide +kernel
theorem dX7_stuck_51 : decode cX7_stuck 51 = .ok (.invokevirtual 204, 3) := by decide +kernel
theorem dX7_stuck_54 : decode cX7_stuck 54 = .ok (.pop, 1) := by decide +kernel
theorem dX7_stuck_55 : decode cX7_stuck 55 = .ok (.iinc 2 1, 3) := by decide +kernel
theorem dX7_stuck_58 : decode cX7_stuck 58 = .ok (.goto (-35), 3) := by decide +kernel
theorem dX7_stuck_61 : decode cX7_stuck 61 = .ok (.bipush (-4), 2) := by decide +kernel
theorem dX7_stuck_63 : decode cX7_stuck 63 = .ok (.ireturn, 1) := by decide +kernel
theorem mkX7_stuck : mokV qX7_stuck 1 := ⟨⟨⟨⟨by decide, by decide, by decide +kernel⟩, by decide⟩, gd_mem 51 (by decide +kernel) (by decide +kernel), gd_mem 696 (by decide +kernel) (by decide +kernel)⟩, gd_mem 694 (by decide +kernel) (by decide +kernel), gd_mem 695 (by decide +kernel) (by decide +kernel)⟩
abbrev qX7_hold : mMI := (yX7_hold, cX7_hold, 3, (some .int), 7)
theorem dX7_hold_0 : decode cX7_hold 0 = .ok (.iload_n 1, 1) := by decide +kernel
theorem dX7_hold_1 : decode cX7_hold 1 = .ok (.iconst 0, 1) := by decide +kernel
theorem dX7_hold_2 : decode cX7_hold 2 = .ok (.bipush 60, 2) := by decide +kernel
theorem dX7_hold_4 : decode cX7_hold 4 = .ok (.invokestatic 73, 3) := by decide +kernel
theorem dX7_hold_7 : decode cX7_hold 7 = .ok (.ifCond .ne 5, 3) := by decide +kernel
theorem dX7_hold_10 : decode cX7_hold 10 = .ok (.iconst (-1), 1) := by decide +kernel
theorem dX7_hold_11 : decode cX7_hold 11 = .ok (.ireturn, 1) := by decide +kernel
theorem dX7_hold_12 : decode cX7_hold 12 = .ok (.aload_n 0, 1) := by decide +kernel
theorem dX7_hold_13 : decode cX7_hold 13 = .ok (.getfield 23, 3) := by decide +kernel
theorem dX7_hold_16 : decode cX7_hold 16 = .ok (.aload_n 0, 1) := by decide +kernel
theorem dX7_hold_17 : decode cX7_hold 17 = .ok (.getfield 19, 3) := by decide +kernel
theorem dX7_hold_20 : decode cX7_hold 20 = .ok (.invokevirtual 91, 3) := by decide +kernel
theorem dX7_hold_23 : decode cX7_hold 23 = .ok (.aload_n 0, 1) := by decide +kernel
theorem dX7_hold_24 : decode cX7_hold 24 = .ok (.getfield 23, 3) := by decide +kernel
theorem dX7_hold_27 : decode cX7_hold 27 = .ok (.bipush 100, 2) := by decide +kernel
theorem dX7_hold_29 : decode cX7_hold 29 = .ok (.putfield 110, 3) := by decide +kernel
theorem dX7_hold_32 : decode cX7_hold 32 = .ok (.aload_n 0, 1) := by decide +kernel
theorem dX7_hold_33 : decode cX7_hold 33 = .ok (.getfield 37, 3) := by decide +kernel
theorem dX7_hold_36 : decode cX7_hold 36 = .ok (.aload_n 0, 1) := by decide +kernel
theorem dX7_hold_37 : decode cX7_hold 37 = .ok (.getfield 23, 3) := by decide +kernel
theorem dX7_hold_40 : decode cX7_hold 40 = .ok (.iload_n 1, 1) := by decide +kernel
theorem dX7_hold_41 : decode cX7_hold 41 = .ok (.invokevirtual 204, 3) := by decide +kernel
theorem dX7_hold_44 : decode cX7_hold 44 = .ok (.pop, 1) := by decide +kernel
theorem dX7_hold_45 : decode cX7_hold 45 = .ok (.aload_n 0, 1) := by decide +kernel
theorem dX7_hold_46 : decode cX7_hold 46 = .ok (.getfield 23, 3) := by decide +kernel
theorem dX7_hold_49 : decode cX7_hold 49 = .ok (.invokevirtual 213, 3) := by decide +kernel
theorem dX7_hold_52 : decode cX7_hold 52 = .ok (.iconst 1, 1) := by decide +kernel
theorem dX7_hold_53 : decode cX7_hold 53 = .ok (.iadd, 1) := by decide +kernel
theorem dX7_hold_54 : decode cX7_hold 54 = .ok (.istore_n 2, 1) := by decide +kernel
theorem dX7_hold_55 : decode cX7_hold 55 = .ok (.iload_n 2, 1) := by decide +kernel
theorem dX7_hold_56 : decode cX7_hold 56 = .ok (.bipush 99, 2) := by decide +kernel
theorem dX7_hold_58 : decode cX7_hold 58 = .ok (.if_icmp .gt 7, 3) := by decide +kernel
theorem dX7_hold_61 : decode cX7_hold 61 = .ok (.iload_n 2, 1) := by decide +kernel
theorem dX7_hold_62 : decode cX7_hold 62 = .ok (.goto 5, 3) := by decide +kernel
theorem dX7_hold_65 : decode cX7_hold 65 = .ok (.bipush (-4), 2) := by decide +kernel
theorem dX7_hold_67 : decode cX7_hold 67 = .ok (.ireturn, 1) := by decide +kernel
theorem mkX7_hold : mokV qX7_hold 1 := ⟨⟨⟨⟨by decide, by decide, by decide +kernel⟩, by decide⟩, gd_mem 51 (by decide +kernel) (by decide +kernel), gd_mem 708 (by decide +kernel) (by decide +kernel)⟩, gd_mem 706 (by decide +kernel) (by decide +kernel), gd_mem 707 (by decide +kernel) (by decide +kernel)⟩
abbrev qX7_text : mMI := (yX7_text, cX7_text, 2, (some .int), 9)
theorem dX7_text_0 : decode cX7_text 0 = .ok (.aload_n 0, 1) := by decide +kernel
theorem dX7_text_1 : decode cX7_text 1 = .ok (.getfield 10, 3) := by decide +kernel
theorem dX7_text_4 : decode cX7_text 4 = .ok (.aload_n 0, 1) := by decide +kernel
theorem dX7_text_5 : decode cX7_text 5 = .ok (.getfield 23, 3) := by decide +kernel
theorem dX7_text_8 : decode cX7_text 8 = .ok (.invokevirtual 84, 3) := by decide +kernel
theorem dX7_text_11 : decode cX7_text 11 = .ok (.istore_n 1, 1) := by decide +kernel
theorem dX7_text_12 : decode cX7_text 12 = .ok (.aload_n 0, 1) := by decide +kernel
theorem dX7_text_13 : decode cX7_text 13 = .ok (.getfield 10, 3) := by decide +kernel
theorem dX7_text_16 : decode cX7_text 16 = .ok (.getfield 88, 3) := by decide +kernel
theorem dX7_text_19 : decode cX7_text 19 = .ok (.ifCond .ne 26, 3) := by decide +kernel
theorem dX7_text_22 : decode cX7_text 22 = .ok (.aload_n 0, 1) := by decide +kernel
theorem dX7_text_23 : decode cX7_text 23 = .ok (.getfield 19, 3) := by decide +kernel
theorem dX7_text_26 : decode cX7_text 26 = .ok (.aload_n 0, 1) := by decide +kernel
theorem dX7_text_27 : decode cX7_text 27 = .ok (.getfield 23, 3) := by decide +kernel
theorem dX7_text_30 : decode cX7_text 30 = .ok (.invokevirtual 91, 3) := by decide +kernel
theorem dX7_text_33 : decode cX7_text 33 = .ok (.aload_n 0, 1) := by decide +kernel
theorem dX7_text_34 : decode cX7_text 34 = .ok (.getfield 58, 3) := by decide +kernel
theorem dX7_text_37 : decode cX7_text 37 = .ok (.iconst 0, 1) := by decide +kernel
theorem dX7_text_38 : decode cX7_text 38 = .ok (.putfield 95, 3) := by decide +kernel
theorem dX7_text_41 : decode cX7_text 41 = .ok (.aload_n 0, 1) := by decide +kernel
theorem dX7_text_42 : decode cX7_text 42 = .ok (.invokevirtual 98, 3) := by decide +kernel
theorem dX7_text_45 : decode cX7_text 45 = .ok (.iload_n 1, 1) := by decide +kernel
theorem dX7_text_46 : decode cX7_text 46 = .ok (.ireturn, 1) := by decide +kernel
theorem mkX7_text : mokV qX7_text 0 := ⟨⟨⟨⟨by decide, by decide, by decide +kernel⟩, by decide⟩, gd_mem 51 (by decide +kernel) (by decide +kernel), gd_mem 352 (by decide +kernel) (by decide +kernel)⟩, gd_mem 350 (by decide +kernel) (by decide +kernel), gd_mem 351 (by decide +kernel) (by decide +kernel)⟩
abbrev qX7_lodge : mMI := (yX7_lodge, cX7_lodge, 3, (some .int), 12)
theorem dX7_lodge_0 : decode cX7_lodge 0 = .ok (.iload_n 1, 1) := by decide +kernel
theorem dX7_lodge_1 : decode cX7_lodge 1 = .ok (.bipush 10, 2) := by decide +kernel
theorem dX7_lodge_3 : decode cX7_lodge 3 = .ok (.isub, 1) := by decide +kernel
theorem dX7_lodge_4 : decode cX7_lodge 4 = .ok (.istore_n 2, 1) := by decide +kernel
theorem dX7_lodge_5 : decode cX7_lodge 5 = .ok (.iload_n 1, 1) := by decide +kernel
theorem dX7_lodge_6 : decode cX7_lodge 6 = .ok (.iconst 0, 1) := by decide +kernel
theorem dX7_lodge_7 : decode cX7_lodge 7 = .ok (.iconst 1, 1) := by decide +kernel
theorem dX7_lodge_8 : decode cX7_lodge 8 = .ok (.invokestatic 73, 3) := by decide +kernel
theorem dX7_lodge_11 : decode cX7_lodge 11 = .ok (.ifCond .ne 13, 3) := by decide +kernel
theorem dX7_lodge_14 : decode cX7_lodge 14 = .ok (.aload_n 0, 1) := by decide +kernel
theorem dX7_lodge_15 : decode cX7_lodge 15 = .ok (.iload_n 2, 1) := by decide +kernel
theorem dX7_lodge_16 : decode cX7_lodge 16 = .ok (.invokevirtual 136, 3) := by decide +kernel
theorem dX7_lodge_19 : decode cX7_lodge 19 = .ok (.ifCond .ne 5, 3) := by decide +kernel
theorem dX7_lodge_22 : decode cX7_lodge 22 = .ok (.iconst (-1), 1) := by decide +kernel
theorem dX7_lodge_23 : decode cX7_lodge 23 = .ok (.ireturn, 1) := by decide +kernel
theorem dX7_lodge_24 : decode cX7_lodge 24 = .ok (.aload_n 0, 1) := by decide +kernel
theorem dX7_lodge_25 : decode cX7_lodge 25 = .ok (.getfield 44, 3) := by decide +kernel
theorem dX7_lodge_28 : decode cX7_lodge 28 = .ok (.aload_n 0, 1) := by decide +kernel
theorem dX7_lodge_29 : decode cX7_lodge 29 = .ok (.getfield 19, 3) := by decide +kernel
theorem dX7_lodge_32 : decode cX7_lodge 32 = .ok (.invokevirtual 216, 3) := by decide +kernel
theorem dX7_lodge_35 : decode cX7_lodge 35 = .ok (.iload_n 1, 1) := by decide +kernel
theorem dX7_lodge_36 : decode cX7_lodge 36 = .ok (.ifCond .ne 11, 3) := by decide +kernel
theorem dX7_lodge_39 : decode cX7_lodge 39 = .ok (.aload_n 0, 1) := by decide +kernel
theorem dX7_lodge_40 : decode cX7_lodge 40 = .ok (.getfield 44, 3) := by decide +kernel
theorem dX7_lodge_43 : decode cX7_lodge 43 = .ok (.getfield 219, 3) := by decide +kernel
theorem dX7_lodge_46 : decode cX7_lodge 46 = .ok (.ireturn, 1) := by decide +kernel
theorem dX7_lodge_47 : decode cX7_lodge 47 = .ok (.iload_n 1, 1) := by decide +kernel
theorem dX7_lodge_48 : decode cX7_lodge 48 = .ok (.iconst 1, 1) := by decide +kernel
theorem dX7_lodge_49 : decode cX7_lodge 49 = .ok (.if_icmp .ne 13, 3) := by decide +kernel
theorem dX7_lodge_52 : decode cX7_lodge 52 = .ok (.aload_n 0, 1) := by decide +kernel
theorem dX7_lodge_53 : decode cX7_lodge 53 = .ok (.getfield 44, 3) := by decide +kernel
theorem dX7_lodge_56 : decode cX7_lodge 56 = .ok (.getfield 222, 3) := by decide +kernel
theorem dX7_lodge_59 : decode cX7_lodge 59 = .ok (.goto 20, 3) := by decide +kernel
theorem dX7_lodge_62 : decode cX7_lodge 62 = .ok (.aload_n 0, 1) := by decide +kernel
theorem dX7_lodge_63 : decode cX7_lodge 63 = .ok (.getfield 19, 3) := by decide +kernel
theorem dX7_lodge_66 : decode cX7_lodge 66 = .ok (.getfield 148, 3) := by decide +kernel
theorem dX7_lodge_69 : decode cX7_lodge 69 = .ok (.aload_n 0, 1) := by decide +kernel
theorem dX7_lodge_70 : decode cX7_lodge 70 = .ok (.getfield 44, 3) := by decide +kernel
theorem dX7_lodge_73 : decode cX7_lodge 73 = .ok (.getfield 225, 3) := by decide +kernel
theorem dX7_lodge_76 : decode cX7_lodge 76 = .ok (.iload_n 2, 1) := by decide +kernel
theorem dX7_lodge_77 : decode cX7_lodge 77 = .ok (.iaload, 1) := by decide +kernel
theorem dX7_lodge_78 : decode cX7_lodge 78 = .ok (.iaload, 1) := by decide +kernel
theorem dX7_lodge_79 : decode cX7_lodge 79 = .ok (.ireturn, 1) := by decide +kernel
theorem mkX7_lodge : mokV qX7_lodge 1 := ⟨⟨⟨⟨by decide, by decide, by decide +kernel⟩, by decide⟩, gd_mem 51 (by decide +kernel) (by decide +kernel), gd_mem 720 (by decide +kernel) (by decide +kernel)⟩, gd_mem 718 (by decide +kernel) (by decide +kernel), gd_mem 719 (by decide +kernel) (by decide +kernel)⟩
abbrev qX7_fits : mMI := (yX7_fits, cX7_fits, 1, (some .int), 28)
theorem dX7_fits_0 : decode cX7_fits 0 = .ok (.aload_n 0, 1) := by decide +kernel
theorem dX7_fits_1 : decode cX7_fits 1 = .ok (.getfield 58, 3) := by decide +kernel
theorem dX7_fits_4 : decode cX7_fits 4 = .ok (.aload_n 0, 1) := by decide +kernel
theorem dX7_fits_5 : decode cX7_fits 5 = .ok (.getfield 19, 3) := by decide +kernel
theorem dX7_fits_8 : decode cX7_fits 8 = .ok (.invokevirtual 241, 3) := by decide +kernel
theorem dX7_fits_11 : decode cX7_fits 11 = .ok (.ireturn, 1) := by decide +kernel
theorem mkX7_fits : mokV qX7_fits 0 := ⟨⟨⟨⟨by decide, by decide, by decide +kernel⟩, by decide⟩, gd_mem 51 (by decide +kernel) (by decide +kernel), gd_mem 777 (by decide +kernel) (by decide +kernel)⟩, gd_mem 775 (by decide +kernel) (by decide +kernel), gd_mem 776 (by decide +kernel) (by decide +kernel)⟩
abbrev qX7_floors : mMI := (yX7_floors, cX7_floors, 2, (some .int), 28)
theorem dX7_floors_0 : decode cX7_floors 0 = .ok (.aload_n 0, 1) := by decide +kernel
theorem dX7_floors_1 : decode cX7_floors 1 = .ok (.iload_n 1, 1) := by decide +kernel
theorem dX7_floors_2 : decode cX7_floors 2 = .ok (.invokevirtual 136, 3) := by decide +kernel
theorem dX7_floors_5 : decode cX7_floors 5 = .ok (.ifCond .ne 5, 3) := by decide +kernel
theorem dX7_floors_8 : decode cX7_floors 8 = .ok (.iconst (-1), 1) := by decide +kernel
theorem dX7_floors_9 : decode cX7_floors 9 = .ok (.ireturn, 1) := by decide +kernel
theorem dX7_floors_10 : decode cX7_floors 10 = .ok (.aload_n 0, 1) := by decide +kernel
theorem dX7_floors_11 : decode cX7_floors 11 = .ok (.getfield 58, 3) := by decide +kernel
theorem dX7_floors_14 : decode cX7_floors 14 = .ok (.aload_n 0, 1) := by decide +kernel
theorem dX7_floors_15 : decode cX7_floors 15 = .ok (.getfield 19, 3) := by decide +kernel
theorem dX7_floors_18 : decode cX7_floors 18 = .ok (.invokevirtual 241, 3) := by decide +kernel
theorem dX7_floors_21 : decode cX7_floors 21 = .ok (.pop, 1) := by decide +kernel
theorem dX7_floors_22 : decode cX7_floors 22 = .ok (.aload_n 0, 1) := by decide +kernel
theorem dX7_floors_23 : decode cX7_floors 23 = .ok (.getfield 58, 3) := by decide +kernel
theorem dX7_floors_26 : decode cX7_floors 26 = .ok (.getfield 244, 3) := by decide +kernel
theorem dX7_floors_29 : decode cX7_floors 29 = .ok (.iload_n 1, 1) := by decide +kernel
theorem dX7_floors_30 : decode cX7_floors 30 = .ok (.iaload, 1) := by decide +kernel
theorem dX7_floors_31 : decode cX7_floors 31 = .ok (.ireturn, 1) := by decide +kernel
theorem mkX7_floors : mokV qX7_floors 1 := ⟨⟨⟨⟨by decide, by decide, by decide +kernel⟩, by decide⟩, gd_mem 51 (by decide +kernel) (by decide +kernel), gd_mem 806 (by decide +kernel) (by decide +kernel)⟩, gd_mem 804 (by decide +kernel) (by decide +kernel), gd_mem 805 (by decide +kernel) (by decide +kernel)⟩
theorem lfX7_10 : Cond.fieldLink RX7 10 "RankStairs" "tape" "LRankStairs$Tape;" ∈ gdL := gd_mem 300 (by decide +kernel) (by decide +kernel)
theorem gRX7_10 {q : mMI} {X : mCx} {tgt : mR} {pc : Nat} {lv : List (Nat × Value)} {st : List Value} {μ : mMem} {b : Nat} (hq : q.1.cls = RX7) (hb : kd b = (7, 0)) (z : Nat) (hz : rf b 0 = z) (hd : decode q.2.1 pc = .ok (.getfield 10, 3)) (h : T q X tgt (pc + 3) lv (.ref z :: st) μ) : T q X tgt pc lv (.ref b :: st) μ := T_getR (c := 7) rfl (by decide) rfl (by decide) (by rw [hq]; exact lfX7_10) hb z hz hd h
theorem lfX7_88 : Cond.fieldLink RX7 88 "RankStairs$Tape" "found" "I" ∈ gdL := gd_mem 85 (by decide +kernel) (by decide +kernel)
theorem gIX7_88 {q : mMI} {X : mCx} {tgt : mR} {pc : Nat} {lv : List (Nat × Value)} {st : List Value} {μ : mMem} {b : Nat} (hq : q.1.cls = RX7) (hb : kd b = (6, 0)) (hd : decode q.2.1 pc = .ok (.getfield 88, 3)) (h : T q X tgt (pc + 3) lv (.int (μ.1 b 1) :: st) μ) : T q X tgt pc lv (.ref b :: st) μ := T_getI (c := 6) rfl (by decide) rfl (by decide) (by rw [hq]; exact lfX7_88) hb hd h
theorem pIX7_88 {q : mMI} {X : mCx} {tgt : mR} {pc : Nat} {lv : List (Nat × Value)} {st : List Value} {μ : mMem} {b : Nat} {x : Int32} (hq : q.1.cls = RX7) (hn : narrow .int (.int x) = .int x) (hfit : fits .int (.int x) = true) (hb : kd b = (6, 0)) (hd : decode q.2.1 pc = .ok (.putfield 88, 3)) (h : T q X tgt (pc + 3) lv st (si μ b 1 x)) : T q X tgt pc lv (.int x :: .ref b :: st) μ := T_put (c := 6) rfl (by decide) rfl (by decide) (by rw [hq]; exact lfX7_88) (by decide) hn hfit hb hd h
def fX7_fault  (m : mMem) : mR := some (some (.int (m.1 49 1)), m)
set_option maxRecDepth 100000 in
theorem bsX7_fault (l : Launch)  (m : mMem)  : BS l qX7_fault [.ref 48] m (fX7_fault  m) := BS_of (by decide) (Nat.le_of_ble_eq_true rfl) (fun X _ => by
    show T qX7_fault X (fX7_fault  m) 0 [(0, .ref 48)] [] m
    unfold fX7_fault
    refine T_aload_n 0 rfl rfl dX7_fault_0 ?_
    refine gRX7_10 rfl kd_48 49 rfl dX7_fault_1 ?_
    refine gIX7_88 rfl kd_49 dX7_fault_4 ?_
    exact T_iret rfl dX7_fault_7)
theorem lfX7_19 : Cond.fieldLink RX7 19 "RankStairs" "now" "LRankStairs$House;" ∈ gdL := gd_mem 301 (by decide +kernel) (by decide +kernel)
theorem gRX7_19 {q : mMI} {X : mCx} {tgt : mR} {pc : Nat} {lv : List (Nat × Value)} {st : List Value} {μ : mMem} {b : Nat} (hq : q.1.cls = RX7) (hb : kd b = (7, 0)) (z : Nat) (hz : rf b 1 = z) (hd : decode q.2.1 pc = .ok (.getfield 19, 3)) (h : T q X tgt (pc + 3) lv (.ref z :: st) μ) : T q X tgt pc lv (.ref b :: st) μ := T_getR (c := 7) rfl (by decide) rfl (by decide) (by rw [hq]; exact lfX7_19) hb z hz hd h
theorem lfX7_101 : Cond.fieldLink RX7 101 "RankStairs$House" "steps" "I" ∈ gdL := gd_mem 127 (by decide +kernel) (by decide +kernel)
theorem gIX7_101 {q : mMI} {X : mCx} {tgt : mR} {pc : Nat} {lv : List (Nat × Value)} {st : List Value} {μ : mMem} {b : Nat} (hq : q.1.cls = RX7) (hb : kd b = (4, 0)) (hd : decode q.2.1 pc = .ok (.getfield 101, 3)) (h : T q X tgt (pc + 3) lv (.int (μ.1 b 0) :: st) μ) : T q X tgt pc lv (.ref b :: st) μ := T_getI (c := 4) rfl (by decide) rfl (by decide) (by rw [hq]; exact lfX7_101) hb hd h
theorem pIX7_101 {q : mMI} {X : mCx} {tgt : mR} {pc : Nat} {lv : List (Nat × Value)} {st : List Value} {μ : mMem} {b : Nat} {x : Int32} (hq : q.1.cls = RX7) (hn : narrow .int (.int x) = .int x) (hfit : fits .int (.int x) = true) (hb : kd b = (4, 0)) (hd : decode q.2.1 pc = .ok (.putfield 101, 3)) (h : T q X tgt (pc + 3) lv st (si μ b 0 x)) : T q X tgt pc lv (.int x :: .ref b :: st) μ := T_put (c := 4) rfl (by decide) rfl (by decide) (by rw [hq]; exact lfX7_101) (by decide) hn hfit hb hd h
theorem lfX7_104 : Cond.fieldLink RX7 104 "RankStairs$House" "lodgers" "I" ∈ gdL := gd_mem 133 (by decide +kernel) (by decide +kernel)
theorem gIX7_104 {q : mMI} {X : mCx} {tgt : mR} {pc : Nat} {lv : List (Nat × Value)} {st : List Value} {μ : mMem} {b : Nat} (hq : q.1.cls = RX7) (hb : kd b = (4, 0)) (hd : decode q.2.1 pc = .ok (.getfield 104, 3)) (h : T q X tgt (pc + 3) lv (.int (μ.1 b 1) :: st) μ) : T q X tgt pc lv (.ref b :: st) μ := T_getI (c := 4) rfl (by decide) rfl (by decide) (by rw [hq]; exact lfX7_104) hb hd h
theorem pIX7_104 {q : mMI} {X : mCx} {tgt : mR} {pc : Nat} {lv : List (Nat × Value)} {st : List Value} {μ : mMem} {b : Nat} {x : Int32} (hq : q.1.cls = RX7) (hn : narrow .int (.int x) = .int x) (hfit : fits .int (.int x) = true) (hb : kd b = (4, 0)) (hd : decode q.2.1 pc = .ok (.putfield 104, 3)) (h : T q X tgt (pc + 3) lv st (si μ b 1 x)) : T q X tgt pc lv (.int x :: .ref b :: st) μ := T_put (c := 4) rfl (by decide) rfl (by decide) (by rw [hq]; exact lfX7_104) (by decide) hn hfit hb hd h
theorem lfX7_107 : Cond.fieldLink RX7 107 "RankStairs$House" "gapLaw" "I" ∈ gdL := gd_mem 136 (by decide +kernel) (by decide +kernel)
theorem gIX7_107 {q : mMI} {X : mCx} {tgt : mR} {pc : Nat} {lv : List (Nat × Value)} {st : List Value} {μ : mMem} {b : Nat} (hq : q.1.cls = RX7) (hb : kd b = (4, 0)) (hd : decode q.2.1 pc = .ok (.getfield 107, 3)) (h : T q X tgt (pc + 3) lv (.int (μ.1 b 2) :: st) μ) : T q X tgt pc lv (.ref b :: st) μ := T_getI (c := 4) rfl (by decide) rfl (by decide) (by rw [hq]; exact lfX7_107) hb hd h
theorem pIX7_107 {q : mMI} {X : mCx} {tgt : mR} {pc : Nat} {lv : List (Nat × Value)} {st : List Value} {μ : mMem} {b : Nat} {x : Int32} (hq : q.1.cls = RX7) (hn : narrow .int (.int x) = .int x) (hfit : fits .int (.int x) = true) (hb : kd b = (4, 0)) (hd : decode q.2.1 pc = .ok (.putfield 107, 3)) (h : T q X tgt (pc + 3) lv st (si μ b 2 x)) : T q X tgt pc lv (.int x :: .ref b :: st) μ := T_put (c := 4) rfl (by decide) rfl (by decide) (by rw [hq]; exact lfX7_107) (by decide) hn hfit hb hd h
theorem lfX7_110 : Cond.fieldLink RX7 110 "RankStairs$House" "holdLaw" "I" ∈ gdL := gd_mem 139 (by decide +kernel) (by decide +kernel)
theorem gIX7_110 {q : mMI} {X : mCx} {tgt : mR} {pc : Nat} {lv : List (Nat × Value)} {st : List Value} {μ : mMem} {b : Nat} (hq : q.1.cls = RX7) (hb : kd b = (4, 0)) (hd : decode q.2.1 pc = .ok (.getfield 110, 3)) (h : T q X tgt (pc + 3) lv (.int (μ.1 b 3) :: st) μ) : T q X tgt pc lv (.ref b :: st) μ := T_getI (c := 4) rfl (by decide) rfl (by decide) (by rw [hq]; exact lfX7_110) hb hd h
theorem pIX7_110 {q : mMI} {X : mCx} {tgt : mR} {pc : Nat} {lv : List (Nat × Value)} {st : List Value} {μ : mMem} {b : Nat} {x : Int32} (hq : q.1.cls = RX7) (hn : narrow .int (.int x) = .int x) (hfit : fits .int (.int x) = true) (hb : kd b = (4, 0)) (hd : decode q.2.1 pc = .ok (.putfield 110, 3)) (h : T q X tgt (pc + 3) lv st (si μ b 3 x)) : T q X tgt pc lv (.int x :: .ref b :: st) μ := T_put (c := 4) rfl (by decide) rfl (by decide) (by rw [hq]; exact lfX7_110) (by decide) hn hfit hb hd h
theorem lfX7_113 : Cond.fieldLink RX7 113 "RankStairs$House" "dayNumber" "I" ∈ gdL := gd_mem 142 (by decide +kernel) (by decide +kernel)
theorem gIX7_113 {q : mMI} {X : mCx} {tgt : mR} {pc : Nat} {lv : List (Nat × Value)} {st : List Value} {μ : mMem} {b : Nat} (hq : q.1.cls = RX7) (hb : kd b = (4, 0)) (hd : decode q.2.1 pc = .ok (.getfield 113, 3)) (h : T q X tgt (pc + 3) lv (.int (μ.1 b 4) :: st) μ) : T q X tgt pc lv (.ref b :: st) μ := T_getI (c := 4) rfl (by decide) rfl (by decide) (by rw [hq]; exact lfX7_113) hb hd h
theorem pIX7_113 {q : mMI} {X : mCx} {tgt : mR} {pc : Nat} {lv : List (Nat × Value)} {st : List Value} {μ : mMem} {b : Nat} {x : Int32} (hq : q.1.cls = RX7) (hn : narrow .int (.int x) = .int x) (hfit : fits .int (.int x) = true) (hb : kd b = (4, 0)) (hd : decode q.2.1 pc = .ok (.putfield 113, 3)) (h : T q X tgt (pc + 3) lv st (si μ b 4 x)) : T q X tgt pc lv (.int x :: .ref b :: st) μ := T_put (c := 4) rfl (by decide) rfl (by decide) (by rw [hq]; exact lfX7_113) (by decide) hn hfit hb hd h
def fX7_rule (x1 : Int32) (m : mMem) : mR := if x1 = (0 : Int32) then some (some (.int (m.1 0 0)), m) else if x1 = (1 : Int32) then some (some (.int (m.1 0 1)), m) else if x1 = (2 : Int32) then some (some (.int (m.1 0 2)), m) else if x1 = (3 : Int32) then some (some (.int (m.1 0 3)), m) else if x1 = (4 : Int32) then some (some (.int (m.1 0 4)), m) else some (some (.int (-1 : Int32)), m)
set_option maxRecDepth 100000 in
theorem bsX7_rule (l : Launch) (x1 : Int32) (m : mMem)  : BS l qX7_rule [.ref 48, .int x1] m (fX7_rule x1 m) := BS_of (by decide) (Nat.le_of_ble_eq_true rfl) (fun X _ => by
    show T qX7_rule X (fX7_rule x1 m) 0 [(0, .ref 48), (1, .int x1)] [] m
    unfold fX7_rule
    refine T_iload_n 1 rfl rfl dX7_rule_0 ?_
    refine T_ite (fun hc => ?_) (fun hn0 => ?_)
    · refine T_tsIn (0 : Int32) 36 hc dX7_rule_1 (by decide) (by decide) rfl (by decide) ?_
      refine T_aload_n 0 rfl rfl dX7_rule_36 ?_
      refine gRX7_19 rfl kd_48 0 rfl dX7_rule_37 ?_
      refine gIX7_101 rfl kd_0 dX7_rule_40 ?_
      exact T_iret rfl dX7_rule_43
    · refine T_ite (fun hc => ?_) (fun hn1 => ?_)
      · refine T_tsIn (1 : Int32) 44 hc dX7_rule_1 (by decide) (by decide) rfl (by decide) ?_
        refine T_aload_n 0 rfl rfl dX7_rule_44 ?_
        refine gRX7_19 rfl kd_48 0 rfl dX7_rule_45 ?_
        refine gIX7_104 rfl kd_0 dX7_rule_48 ?_
        exact T_iret rfl dX7_rule_51
      · refine T_ite (fun hc => ?_) (fun hn2 => ?_)
        · refine T_tsIn (2 : Int32) 52 hc dX7_rule_1 (by decide) (by decide) rfl (by decide) ?_
          refine T_aload_n 0 rfl rfl dX7_rule_52 ?_
          refine gRX7_19 rfl kd_48 0 rfl dX7_rule_53 ?_
          refine gIX7_107 rfl kd_0 dX7_rule_56 ?_
          exact T_iret rfl dX7_rule_59
        · refine T_ite (fun hc => ?_) (fun hn3 => ?_)
          · refine T_tsIn (3 : Int32) 60 hc dX7_rule_1 (by decide) (by decide) rfl (by decide) ?_
            refine T_aload_n 0 rfl rfl dX7_rule_60 ?_
            refine gRX7_19 rfl kd_48 0 rfl dX7_rule_61 ?_
            refine gIX7_110 rfl kd_0 dX7_rule_64 ?_
            exact T_iret rfl dX7_rule_67
          · refine T_ite (fun hc => ?_) (fun hn4 => ?_)
            · refine T_tsIn (4 : Int32) 68 hc dX7_rule_1 (by decide) (by decide) rfl (by decide) ?_
              refine T_aload_n 0 rfl rfl dX7_rule_68 ?_
              refine gRX7_19 rfl kd_48 0 rfl dX7_rule_69 ?_
              refine gIX7_113 rfl kd_0 dX7_rule_72 ?_
              exact T_iret rfl dX7_rule_75
            · refine T_tsOut 76 (by have e0 := neT (k := 0) hn0 (by decide); have e1 := neT (k := 1) hn1 (by decide); have e2 := neT (k := 2) hn2 (by decide); have e3 := neT (k := 3) hn3 (by decide); have e4 := neT (k := 4) hn4 (by decide); omega) dX7_rule_1 (by decide) ?_
              refine T_iconst (-1 : Int32) (by decide) dX7_rule_76 ?_
              exact T_iret rfl dX7_rule_77)
theorem lfX7_68 : Cond.fieldLink RX7 68 "RankStairs" "readFault" "I" ∈ gdL := gd_mem 310 (by decide +kernel) (by decide +kernel)
theorem gIX7_68 {q : mMI} {X : mCx} {tgt : mR} {pc : Nat} {lv : List (Nat × Value)} {st : List Value} {μ : mMem} {b : Nat} (hq : q.1.cls = RX7) (hb : kd b = (7, 0)) (hd : decode q.2.1 pc = .ok (.getfield 68, 3)) (h : T q X tgt (pc + 3) lv (.int (μ.1 b 10) :: st) μ) : T q X tgt pc lv (.ref b :: st) μ := T_getI (c := 7) rfl (by decide) rfl (by decide) (by rw [hq]; exact lfX7_68) hb hd h
theorem pIX7_68 {q : mMI} {X : mCx} {tgt : mR} {pc : Nat} {lv : List (Nat × Value)} {st : List Value} {μ : mMem} {b : Nat} {x : Int32} (hq : q.1.cls = RX7) (hn : narrow .int (.int x) = .int x) (hfit : fits .int (.int x) = true) (hb : kd b = (7, 0)) (hd : decode q.2.1 pc = .ok (.putfield 68, 3)) (h : T q X tgt (pc + 3) lv st (si μ b 10 x)) : T q X tgt pc lv (.int x :: .ref b :: st) μ := T_put (c := 7) rfl (by decide) rfl (by decide) (by rw [hq]; exact lfX7_68) (by decide) hn hfit hb hd h
def fX7_torn  (m : mMem) : mR := some (some (.int (m.1 48 10)), m)
set_option maxRecDepth 100000 in
theorem bsX7_torn (l : Launch)  (m : mMem)  : BS l qX7_torn [.ref 48] m (fX7_torn  m) := BS_of (by decide) (Nat.le_of_ble_eq_true rfl) (fun X _ => by
    show T qX7_torn X (fX7_torn  m) 0 [(0, .ref 48)] [] m
    unfold fX7_torn
    refine T_aload_n 0 rfl rfl dX7_torn_0 ?_
    refine gIX7_68 rfl kd_48 dX7_torn_1 ?_
    exact T_iret rfl dX7_torn_4)
def fX7_within (x0 : Int32) (x1 : Int32) (x2 : Int32) (m : mMem) : mR := if x0 < x1 then some (some (.int (0 : Int32)), m) else if x2 < x0 then some (some (.int (0 : Int32)), m) else some (some (.int (1 : Int32)), m)
set_option maxRecDepth 100000 in
theorem bsX7_within (l : Launch) (x0 : Int32) (x1 : Int32) (x2 : Int32) (m : mMem)  : BS l qX7_within [.int x0, .int x1, .int x2] m (fX7_within x0 x1 x2 m) := BS_of (by decide) (Nat.le_of_ble_eq_true rfl) (fun X _ => by
    show T qX7_within X (fX7_within x0 x1 x2 m) 0 [(0, .int x0), (1, .int x1), (2, .int x2)] [] m
    unfold fX7_within
    refine T_iload_n 0 rfl rfl dX7_within_0 ?_
    refine T_iload_n 1 rfl rfl dX7_within_1 ?_
    refine T_icmp_lt 14 dX7_within_2 (by decide) (fun _ => ?_) (fun _ => ?_)
    · refine T_iconst (0 : Int32) (by decide) dX7_within_14 ?_
      exact T_zretc (by decide) rfl dX7_within_15
    · refine T_iload_n 0 rfl rfl dX7_within_5 ?_
      refine T_iload_n 2 rfl rfl dX7_within_6 ?_
      refine T_icmp_gt 14 dX7_within_7 (by decide) (fun _ => ?_) (fun _ => ?_)
      · refine T_iconst (0 : Int32) (by decide) dX7_within_14 ?_
        exact T_zretc (by decide) rfl dX7_within_15
      · refine T_iconst (1 : Int32) (by decide) dX7_within_10 ?_
        refine T_goto 15 dX7_within_11 (by decide) ?_
        exact T_zretc (by decide) rfl dX7_within_15)
theorem lfX7_30 : Cond.fieldLink RX7 30 "RankStairs" "kept" "[Z" ∈ gdL := gd_mem 304 (by decide +kernel) (by decide +kernel)
theorem gRX7_30 {q : mMI} {X : mCx} {tgt : mR} {pc : Nat} {lv : List (Nat × Value)} {st : List Value} {μ : mMem} {b : Nat} (hq : q.1.cls = RX7) (hb : kd b = (7, 0)) (z : Nat) (hz : rf b 4 = z) (hd : decode q.2.1 pc = .ok (.getfield 30, 3)) (h : T q X tgt (pc + 3) lv (.ref z :: st) μ) : T q X tgt pc lv (.ref b :: st) μ := T_getR (c := 7) rfl (by decide) rfl (by decide) (by rw [hq]; exact lfX7_30) hb z hz hd h
def bX7_forgetImages_2  (k2 : Int32 × mMem → mR) (s : Int32 × mMem) : mR := match s with
  | (x1, m) => if (2 : Int32) ≤ x1 then some (none, m) else ga x1 2 (lt (si m 53 (x1).toNatClampNeg (0 : Int32)) (fun m1 => li (x1 + (1 : Int32)) (fun y2 => k2 (y2, m1))))
set_option maxRecDepth 100000 in
theorem tX7_forgetImages_2 (X : mCx)   : ∀ (n : Nat) (s : Int32 × mMem), T qX7_forgetImages X (lp (bX7_forgetImages_2 ) n s) 2 [(0, .ref 48), (1, .int s.1)] [] s.2 :=
  T_lp (body := bX7_forgetImages_2 ) (lv := fun s => [(0, .ref 48), (1, .int s.1)]) (st := fun _ => []) (μ := fun s : Int32 × mMem => s.2) (fun k2 hk2 s => by
    obtain ⟨x1, m⟩ := s
    show T qX7_forgetImages X (bX7_forgetImages_2  k2 (x1, m)) 2 [(0, .ref 48), (1, .int x1)] [] m
    unfold bX7_forgetImages_2
    dsimp only
    refine T_iload_n 1 rfl rfl dX7_forgetImages_2 ?_
    refine T_iconst (2 : Int32) (by decide) dX7_forgetImages_3 ?_
    refine T_icmp_ge 20 dX7_forgetImages_4 (by decide) (fun _ => ?_) (fun _ => ?_)
    · exact T_vret rfl dX7_forgetImages_20
    · refine T_aload_n 0 rfl rfl dX7_forgetImages_7 ?_
      refine gRX7_30 rfl kd_48 53 rfl dX7_forgetImages_8 ?_
      refine T_iload_n 1 rfl rfl dX7_forgetImages_11 ?_
      refine T_iconst (0 : Int32) (by decide) dX7_forgetImages_12 ?_
      refine T_zast (0 : Int32) (by decide) kd_53 dX7_forgetImages_13 ?_
      refine T_lt (fun m1 => ?_)
      refine T_iinc (lv' := [(1, .int (x1 + (1 : Int32))), (0, .ref 48)]) 1 (1 : Int32) rfl (by decide) (Nat.le_of_ble_eq_true rfl) rfl dX7_forgetImages_14 ?_
      refine T_li (fun y2 => ?_)
      refine T_goto 2 dX7_forgetImages_17 (by decide) ?_
      exact T_sub [1, 0] rfl (hk2 (y2, m1)))
def fX7_forgetImages  (m : mMem) : mR := lp (bX7_forgetImages_2 ) FU ((0 : Int32), m)
set_option maxRecDepth 100000 in
theorem bsX7_forgetImages (l : Launch)  (m : mMem)  : BS l qX7_forgetImages [.ref 48] m (fX7_forgetImages  m) := BS_of (by decide) (Nat.le_of_ble_eq_true rfl) (fun X _ => by
    show T qX7_forgetImages X (fX7_forgetImages  m) 0 [(0, .ref 48)] [] m
    unfold fX7_forgetImages
    refine T_iconst (0 : Int32) (by decide) dX7_forgetImages_0 ?_
    refine T_istore_n (lv' := [(1, .int (0 : Int32)), (0, .ref 48)]) rfl (Nat.le_of_ble_eq_true rfl) rfl dX7_forgetImages_1 ?_
    exact T_sub [1, 0] rfl (tX7_forgetImages_2 X   FU ((0 : Int32), m)))
def bX7_countImages_4  (k4 : Int32 × Int32 × mMem → mR) (s : Int32 × Int32 × mMem) : mR := match s with
  | (x1, x2, m) => if (2 : Int32) ≤ x2 then some (some (.int x1), m) else ga x2 2 (if (m.1 53 (x2).toNatClampNeg) = (0 : Int32) then li (x2 + (1 : Int32)) (fun y1 => k4 (x1, y1, m)) else li (x1 + (1 : Int32)) (fun y2 => li (x2 + (1 : Int32)) (fun y3 => k4 (y2, y3, m))))
set_option maxRecDepth 100000 in
theorem tX7_countImages_4 (X : mCx)   : ∀ (n : Nat) (s : Int32 × Int32 × mMem), T qX7_countImages X (lp (bX7_countImages_4 ) n s) 4 [(0, .ref 48), (1, .int s.1), (2, .int s.2.1)] [] s.2.2 :=
  T_lp (body := bX7_countImages_4 ) (lv := fun s => [(0, .ref 48), (1, .int s.1), (2, .int s.2.1)]) (st := fun _ => []) (μ := fun s : Int32 × Int32 × mMem => s.2.2) (fun k4 hk4 s => by
    obtain ⟨x1, x2, m⟩ := s
    show T qX7_countImages X (bX7_countImages_4  k4 (x1, x2, m)) 4 [(0, .ref 48), (1, .int x1), (2, .int x2)] [] m
    unfold bX7_countImages_4
    dsimp only
    refine T_iload_n 2 rfl rfl dX7_countImages_4 ?_
    refine T_iconst (2 : Int32) (by decide) dX7_countImages_5 ?_
    refine T_icmp_ge 27 dX7_countImages_6 (by decide) (fun _ => ?_) (fun _ => ?_)
    · refine T_iload_n 1 rfl rfl dX7_countImages_27 ?_
      exact T_iret rfl dX7_countImages_28
    · refine T_aload_n 0 rfl rfl dX7_countImages_9 ?_
      refine gRX7_30 rfl kd_48 53 rfl dX7_countImages_10 ?_
      refine T_iload_n 2 rfl rfl dX7_countImages_13 ?_
      refine T_zald kd_53 dX7_countImages_14 ?_
      refine T_if_eq 21 dX7_countImages_15 (by decide) (fun _ => ?_) (fun _ => ?_)
      · refine T_iinc (lv' := [(2, .int (x2 + (1 : Int32))), (0, .ref 48), (1, .int x1)]) 2 (1 : Int32) rfl (by decide) (Nat.le_of_ble_eq_true rfl) rfl dX7_countImages_21 ?_
        refine T_li (fun y1 => ?_)
        refine T_goto 4 dX7_countImages_24 (by decide) ?_
        exact T_sub [1, 2, 0] rfl (hk4 (x1, y1, m))
      · refine T_iinc (lv' := [(1, .int (x1 + (1 : Int32))), (0, .ref 48), (2, .int x2)]) 1 (1 : Int32) rfl (by decide) (Nat.le_of_ble_eq_true rfl) rfl dX7_countImages_18 ?_
        refine T_li (fun y2 => ?_)
        refine T_iinc (lv' := [(2, .int (x2 + (1 : Int32))), (1, .int y2), (0, .ref 48)]) 2 (1 : Int32) rfl (by decide) (Nat.le_of_ble_eq_true rfl) rfl dX7_countImages_21 ?_
        refine T_li (fun y3 => ?_)
        refine T_goto 4 dX7_countImages_24 (by decide) ?_
        exact T_sub [2, 1, 0] rfl (hk4 (y2, y3, m)))
def fX7_countImages  (m : mMem) : mR := lp (bX7_countImages_4 ) FU ((0 : Int32), (0 : Int32), m)
set_option maxRecDepth 100000 in
theorem bsX7_countImages (l : Launch)  (m : mMem)  : BS l qX7_countImages [.ref 48] m (fX7_countImages  m) := BS_of (by decide) (Nat.le_of_ble_eq_true rfl) (fun X _ => by
    show T qX7_countImages X (fX7_countImages  m) 0 [(0, .ref 48)] [] m
    unfold fX7_countImages
    refine T_iconst (0 : Int32) (by decide) dX7_countImages_0 ?_
    refine T_istore_n (lv' := [(1, .int (0 : Int32)), (0, .ref 48)]) rfl (Nat.le_of_ble_eq_true rfl) rfl dX7_countImages_1 ?_
    refine T_iconst (0 : Int32) (by decide) dX7_countImages_2 ?_
    refine T_istore_n (lv' := [(2, .int (0 : Int32)), (1, .int (0 : Int32)), (0, .ref 48)]) rfl (Nat.le_of_ble_eq_true rfl) rfl dX7_countImages_3 ?_
    exact T_sub [2, 1, 0] rfl (tX7_countImages_4 X   FU ((0 : Int32), (0 : Int32), m)))
def fX7_exchanged (r0 : Nat) (n0 : Nat) (x1 : Int32) (x2 : Int32) (m : mMem) : mR := ga x1 n0 (li (m.1 r0 (x1).toNatClampNeg) (fun y1 => ga x1 n0 (lt (si m r0 (x1).toNatClampNeg x2) (fun m2 => some (some (.int y1), m2)))))
set_option maxRecDepth 100000 in
theorem bsX7_exchanged (l : Launch) (r0 : Nat) (n0 : Nat) (x1 : Int32) (x2 : Int32) (m : mMem) (h0 : kd r0 = (10, n0)) : BS l qX7_exchanged [.ref r0, .int x1, .int x2] m (fX7_exchanged r0 n0 x1 x2 m) := BS_of (by decide) (Nat.le_of_ble_eq_true rfl) (fun X _ => by
    show T qX7_exchanged X (fX7_exchanged r0 n0 x1 x2 m) 0 [(0, .ref r0), (1, .int x1), (2, .int x2)] [] m
    unfold fX7_exchanged
    refine T_aload_n 0 rfl rfl dX7_exchanged_0 ?_
    refine T_iload_n 1 rfl rfl dX7_exchanged_1 ?_
    refine T_iald h0 dX7_exchanged_2 ?_
    refine T_istore_n (lv' := [(3, .int (m.1 r0 (x1).toNatClampNeg)), (0, .ref r0), (1, .int x1), (2, .int x2)]) rfl (Nat.le_of_ble_eq_true rfl) rfl dX7_exchanged_3 ?_
    refine T_li (fun y1 => ?_)
    refine T_aload_n 1 rfl rfl dX7_exchanged_4 ?_
    refine T_iload_n 2 rfl rfl dX7_exchanged_5 ?_
    refine T_iload_n 3 rfl rfl dX7_exchanged_6 ?_
    refine T_iast _ rfl h0 dX7_exchanged_7 ?_
    refine T_lt (fun m2 => ?_)
    refine T_iload_n 0 rfl rfl dX7_exchanged_8 ?_
    exact T_iret rfl dX7_exchanged_9)
theorem lmX7_73 : Cond.methodLink RX7 73 yX7_within ∈ gdL := gd_mem 338 (by decide +kernel) (by decide +kernel)
theorem lmX7_77 : Cond.methodLink RX7 77 yX6_put ∈ gdL := gd_mem 341 (by decide +kernel) (by decide +kernel)
def fX7_feed (x1 : Int32) (m : mMem) : mR := bI (fX7_within x1 (0 : Int32) (127 : Int32) m) (fun z2 m1 => if z2 = (0 : Int32) then some (some (.int (-1 : Int32)), m1) else bI (fX6_put x1 m1) (fun z5 m4 => some (some (.int z5), m4)))
set_option maxRecDepth 100000 in
theorem bsX7_feed (l : Launch) (x1 : Int32) (m : mMem)  : BS l qX7_feed [.ref 48, .int x1] m (fX7_feed x1 m) := BS_of (by decide) (Nat.le_of_ble_eq_true rfl) (fun X _ => by
    show T qX7_feed X (fX7_feed x1 m) 0 [(0, .ref 48), (1, .int x1)] [] m
    unfold fX7_feed
    refine T_iload_n 1 rfl rfl dX7_feed_0 ?_
    refine T_iconst (0 : Int32) (by decide) dX7_feed_1 ?_
    refine T_bipush (127 : Int32) (by decide) dX7_feed_2 ?_
    refine T_cSI [.int x1, .int (0 : Int32), .int (127 : Int32)] [] mkX7_within lmX7_73 rfl (by decide) (Nat.le_of_ble_eq_true rfl) dX7_feed_4 (bsX7_within _ x1 (0 : Int32) (127 : Int32) m) (fun z2 m1 => ?_)
    refine T_if_ne 12 dX7_feed_7 (by decide) (fun _ => ?_) (fun _ => ?_)
    · refine T_iconst (-1 : Int32) (by decide) dX7_feed_10 ?_
      exact T_iret rfl dX7_feed_11
    · refine T_aload_n 0 rfl rfl dX7_feed_12 ?_
      refine gRX7_10 rfl kd_48 49 rfl dX7_feed_13 ?_
      refine T_iload_n 1 rfl rfl dX7_feed_16 ?_
      refine T_cVI (c := 6) [.int x1] [] mkX6_put lmX7_77 rfl rfl (by decide) (Nat.le_of_ble_eq_true rfl) kd_49 dX7_feed_17 (bsX6_put _ x1 m1) (fun z5 m4 => ?_)
      exact T_iret rfl dX7_feed_20)
theorem lfX7_81 : Cond.fieldLink RX7 81 "RankStairs$Tape" "length" "I" ∈ gdL := gd_mem 83 (by decide +kernel) (by decide +kernel)
theorem gIX7_81 {q : mMI} {X : mCx} {tgt : mR} {pc : Nat} {lv : List (Nat × Value)} {st : List Value} {μ : mMem} {b : Nat} (hq : q.1.cls = RX7) (hb : kd b = (6, 0)) (hd : decode q.2.1 pc = .ok (.getfield 81, 3)) (h : T q X tgt (pc + 3) lv (.int (μ.1 b 0) :: st) μ) : T q X tgt pc lv (.ref b :: st) μ := T_getI (c := 6) rfl (by decide) rfl (by decide) (by rw [hq]; exact lfX7_81) hb hd h
theorem pIX7_81 {q : mMI} {X : mCx} {tgt : mR} {pc : Nat} {lv : List (Nat × Value)} {st : List Value} {μ : mMem} {b : Nat} {x : Int32} (hq : q.1.cls = RX7) (hn : narrow .int (.int x) = .int x) (hfit : fits .int (.int x) = true) (hb : kd b = (6, 0)) (hd : decode q.2.1 pc = .ok (.putfield 81, 3)) (h : T q X tgt (pc + 3) lv st (si μ b 0 x)) : T q X tgt pc lv (.int x :: .ref b :: st) μ := T_put (c := 6) rfl (by decide) rfl (by decide) (by rw [hq]; exact lfX7_81) (by decide) hn hfit hb hd h
def fX7_end (x1 : Int32) (m : mMem) : mR := bI (fX7_within x1 (0 : Int32) (m.1 49 0) m) (fun z2 m1 => if z2 = (0 : Int32) then some (some (.int (-1 : Int32)), m1) else li (m1.1 49 0) (fun y4 => lt (si m1 49 0 x1) (fun m5 => some (some (.int y4), m5))))
set_option maxRecDepth 100000 in
theorem bsX7_end (l : Launch) (x1 : Int32) (m : mMem)  : BS l qX7_end [.ref 48, .int x1] m (fX7_end x1 m) := BS_of (by decide) (Nat.le_of_ble_eq_true rfl) (fun X _ => by
    show T qX7_end X (fX7_end x1 m) 0 [(0, .ref 48), (1, .int x1)] [] m
    unfold fX7_end
    refine T_iload_n 1 rfl rfl dX7_end_0 ?_
    refine T_iconst (0 : Int32) (by decide) dX7_end_1 ?_
    refine T_aload_n 0 rfl rfl dX7_end_2 ?_
    refine gRX7_10 rfl kd_48 49 rfl dX7_end_3 ?_
    refine gIX7_81 rfl kd_49 dX7_end_6 ?_
    refine T_cSI [.int x1, .int (0 : Int32), .int (m.1 49 0)] [] mkX7_within lmX7_73 rfl (by decide) (Nat.le_of_ble_eq_true rfl) dX7_end_9 (bsX7_within _ x1 (0 : Int32) (m.1 49 0) m) (fun z2 m1 => ?_)
    refine T_if_ne 17 dX7_end_12 (by decide) (fun _ => ?_) (fun _ => ?_)
    · refine T_iconst (-1 : Int32) (by decide) dX7_end_15 ?_
      exact T_iret rfl dX7_end_16
    · refine T_aload_n 0 rfl rfl dX7_end_17 ?_
      refine gRX7_10 rfl kd_48 49 rfl dX7_end_18 ?_
      refine gIX7_81 rfl kd_49 dX7_end_21 ?_
      refine T_istore_n (lv' := [(2, .int (m1.1 49 0)), (0, .ref 48), (1, .int x1)]) rfl (Nat.le_of_ble_eq_true rfl) rfl dX7_end_24 ?_
      refine T_li (fun y4 => ?_)
      refine T_aload_n 1 rfl rfl dX7_end_25 ?_
      refine gRX7_10 rfl kd_48 49 rfl dX7_end_26 ?_
      refine T_iload_n 2 rfl rfl dX7_end_29 ?_
      refine pIX7_81 rfl rfl rfl kd_49 dX7_end_30 ?_
      refine T_lt (fun m5 => ?_)
      refine T_iload_n 0 rfl rfl dX7_end_33 ?_
      exact T_iret rfl dX7_end_34)
def jX7_law_31 (x1 : Int32) (x2 : Int32) (m : mMem) : mR := if x1 = (1 : Int32) then bI (fX7_within x2 (1 : Int32) (99 : Int32) m) (fun z5 m4 => if z5 = (0 : Int32) then some (some (.int (-1 : Int32)), m4) else li (m4.1 0 3) (fun y7 => lt (si m4 0 3 x2) (fun m8 => some (some (.int y7), m8)))) else some (some (.int (-1 : Int32)), m)
set_option maxRecDepth 100000 in
theorem uX7_law_31 (X : mCx) (x1 : Int32) (x2 : Int32) (m : mMem)  : T qX7_law X (jX7_law_31 x1 x2 m) 31 [(0, .ref 48), (1, .int x1), (2, .int x2)] [] m := by
  unfold jX7_law_31
  refine T_iload_n 1 rfl rfl dX7_law_31 ?_
  refine T_iconst (1 : Int32) (by decide) dX7_law_32 ?_
  refine T_icmp_ne 64 dX7_law_33 (by decide) (fun _ => ?_) (fun _ => ?_)
  · refine T_iload_n 2 rfl rfl dX7_law_36 ?_
    refine T_iconst (1 : Int32) (by decide) dX7_law_37 ?_
    refine T_bipush (99 : Int32) (by decide) dX7_law_38 ?_
    refine T_cSI [.int x2, .int (1 : Int32), .int (99 : Int32)] [] mkX7_within lmX7_73 rfl (by decide) (Nat.le_of_ble_eq_true rfl) dX7_law_40 (bsX7_within _ x2 (1 : Int32) (99 : Int32) m) (fun z5 m4 => ?_)
    refine T_if_eq 64 dX7_law_43 (by decide) (fun _ => ?_) (fun _ => ?_)
    · refine T_iconst (-1 : Int32) (by decide) dX7_law_64 ?_
      exact T_iret rfl dX7_law_65
    · refine T_aload_n 0 rfl rfl dX7_law_46 ?_
      refine gRX7_19 rfl kd_48 0 rfl dX7_law_47 ?_
      refine gIX7_110 rfl kd_0 dX7_law_50 ?_
      refine T_istore_n (lv' := [(3, .int (m4.1 0 3)), (0, .ref 48), (1, .int x1), (2, .int x2)]) rfl (Nat.le_of_ble_eq_true rfl) rfl dX7_law_53 ?_
      refine T_li (fun y7 => ?_)
      refine T_aload_n 1 rfl rfl dX7_law_54 ?_
      refine gRX7_19 rfl kd_48 0 rfl dX7_law_55 ?_
      refine T_iload_n 3 rfl rfl dX7_law_58 ?_
      refine pIX7_110 rfl rfl rfl kd_0 dX7_law_59 ?_
      refine T_lt (fun m8 => ?_)
      refine T_iload_n 0 rfl rfl dX7_law_62 ?_
      exact T_iret rfl dX7_law_63
  · refine T_iconst (-1 : Int32) (by decide) dX7_law_64 ?_
    exact T_iret rfl dX7_law_65
def fX7_law (x1 : Int32) (x2 : Int32) (m : mMem) : mR := if x1 = (0 : Int32) then bI (fX7_within x2 (0 : Int32) (3 : Int32) m) (fun z2 m1 => if z2 = (0 : Int32) then jX7_law_31 x1 x2 m1 else li (m1.1 0 2) (fun y9 => lt (si m1 0 2 x2) (fun m10 => some (some (.int y9), m10)))) else jX7_law_31 x1 x2 m
set_option maxRecDepth 100000 in
theorem bsX7_law (l : Launch) (x1 : Int32) (x2 : Int32) (m : mMem)  : BS l qX7_law [.ref 48, .int x1, .int x2] m (fX7_law x1 x2 m) := BS_of (by decide) (Nat.le_of_ble_eq_true rfl) (fun X _ => by
    show T qX7_law X (fX7_law x1 x2 m) 0 [(0, .ref 48), (1, .int x1), (2, .int x2)] [] m
    unfold fX7_law
    refine T_iload_n 1 rfl rfl dX7_law_0 ?_
    refine T_if_ne 31 dX7_law_1 (by decide) (fun _ => ?_) (fun _ => ?_)
    · refine T_iload_n 2 rfl rfl dX7_law_4 ?_
      refine T_iconst (0 : Int32) (by decide) dX7_law_5 ?_
      refine T_iconst (3 : Int32) (by decide) dX7_law_6 ?_
      refine T_cSI [.int x2, .int (0 : Int32), .int (3 : Int32)] [] mkX7_within lmX7_73 rfl (by decide) (Nat.le_of_ble_eq_true rfl) dX7_law_7 (bsX7_within _ x2 (0 : Int32) (3 : Int32) m) (fun z2 m1 => ?_)
      refine T_if_eq 31 dX7_law_10 (by decide) (fun _ => ?_) (fun _ => ?_)
      · exact T_sub [0, 1, 2] rfl (uX7_law_31 X x1 x2 m1 )
      · refine T_aload_n 0 rfl rfl dX7_law_13 ?_
        refine gRX7_19 rfl kd_48 0 rfl dX7_law_14 ?_
        refine gIX7_107 rfl kd_0 dX7_law_17 ?_
        refine T_istore_n (lv' := [(3, .int (m1.1 0 2)), (0, .ref 48), (1, .int x1), (2, .int x2)]) rfl (Nat.le_of_ble_eq_true rfl) rfl dX7_law_20 ?_
        refine T_li (fun y9 => ?_)
        refine T_aload_n 1 rfl rfl dX7_law_21 ?_
        refine gRX7_19 rfl kd_48 0 rfl dX7_law_22 ?_
        refine T_iload_n 3 rfl rfl dX7_law_25 ?_
        refine pIX7_107 rfl rfl rfl kd_0 dX7_law_26 ?_
        refine T_lt (fun m10 => ?_)
        refine T_iload_n 0 rfl rfl dX7_law_29 ?_
        exact T_iret rfl dX7_law_30
    · exact T_sub [0, 1, 2] rfl (uX7_law_31 X x1 x2 m ))
theorem lfX7_58 : Cond.fieldLink RX7 58 "RankStairs" "dust" "LRankStairs$Dust;" ∈ gdL := gd_mem 308 (by decide +kernel) (by decide +kernel)
theorem gRX7_58 {q : mMI} {X : mCx} {tgt : mR} {pc : Nat} {lv : List (Nat × Value)} {st : List Value} {μ : mMem} {b : Nat} (hq : q.1.cls = RX7) (hb : kd b = (7, 0)) (z : Nat) (hz : rf b 8 = z) (hd : decode q.2.1 pc = .ok (.getfield 58, 3)) (h : T q X tgt (pc + 3) lv (.ref z :: st) μ) : T q X tgt pc lv (.ref b :: st) μ := T_getR (c := 7) rfl (by decide) rfl (by decide) (by rw [hq]; exact lfX7_58) hb z hz hd h
theorem lfX7_95 : Cond.fieldLink RX7 95 "RankStairs$Dust" "seen" "I" ∈ gdL := gd_mem 258 (by decide +kernel) (by decide +kernel)
theorem gIX7_95 {q : mMI} {X : mCx} {tgt : mR} {pc : Nat} {lv : List (Nat × Value)} {st : List Value} {μ : mMem} {b : Nat} (hq : q.1.cls = RX7) (hb : kd b = (2, 0)) (hd : decode q.2.1 pc = .ok (.getfield 95, 3)) (h : T q X tgt (pc + 3) lv (.int (μ.1 b 0) :: st) μ) : T q X tgt pc lv (.ref b :: st) μ := T_getI (c := 2) rfl (by decide) rfl (by decide) (by rw [hq]; exact lfX7_95) hb hd h
theorem pIX7_95 {q : mMI} {X : mCx} {tgt : mR} {pc : Nat} {lv : List (Nat × Value)} {st : List Value} {μ : mMem} {b : Nat} {x : Int32} (hq : q.1.cls = RX7) (hn : narrow .int (.int x) = .int x) (hfit : fits .int (.int x) = true) (hb : kd b = (2, 0)) (hd : decode q.2.1 pc = .ok (.putfield 95, 3)) (h : T q X tgt (pc + 3) lv st (si μ b 0 x)) : T q X tgt pc lv (.int x :: .ref b :: st) μ := T_put (c := 2) rfl (by decide) rfl (by decide) (by rw [hq]; exact lfX7_95) (by decide) hn hfit hb hd h
def fX7_forget (x1 : Int32) (m : mMem) : mR := bI (fX7_within x1 (0 : Int32) (m.1 65 0) m) (fun z2 m1 => if z2 = (0 : Int32) then some (some (.int (-1 : Int32)), m1) else li (m1.1 65 0) (fun y4 => lt (si m1 65 0 x1) (fun m5 => some (some (.int y4), m5))))
set_option maxRecDepth 100000 in
theorem bsX7_forget (l : Launch) (x1 : Int32) (m : mMem)  : BS l qX7_forget [.ref 48, .int x1] m (fX7_forget x1 m) := BS_of (by decide) (Nat.le_of_ble_eq_true rfl) (fun X _ => by
    show T qX7_forget X (fX7_forget x1 m) 0 [(0, .ref 48), (1, .int x1)] [] m
    unfold fX7_forget
    refine T_iload_n 1 rfl rfl dX7_forget_0 ?_
    refine T_iconst (0 : Int32) (by decide) dX7_forget_1 ?_
    refine T_aload_n 0 rfl rfl dX7_forget_2 ?_
    refine gRX7_58 rfl kd_48 65 rfl dX7_forget_3 ?_
    refine gIX7_95 rfl kd_65 dX7_forget_6 ?_
    refine T_cSI [.int x1, .int (0 : Int32), .int (m.1 65 0)] [] mkX7_within lmX7_73 rfl (by decide) (Nat.le_of_ble_eq_true rfl) dX7_forget_9 (bsX7_within _ x1 (0 : Int32) (m.1 65 0) m) (fun z2 m1 => ?_)
    refine T_if_ne 17 dX7_forget_12 (by decide) (fun _ => ?_) (fun _ => ?_)
    · refine T_iconst (-1 : Int32) (by decide) dX7_forget_15 ?_
      exact T_iret rfl dX7_forget_16
    · refine T_aload_n 0 rfl rfl dX7_forget_17 ?_
      refine gRX7_58 rfl kd_48 65 rfl dX7_forget_18 ?_
      refine gIX7_95 rfl kd_65 dX7_forget_21 ?_
      refine T_istore_n (lv' := [(2, .int (m1.1 65 0)), (0, .ref 48), (1, .int x1)]) rfl (Nat.le_of_ble_eq_true rfl) rfl dX7_forget_24 ?_
      refine T_li (fun y4 => ?_)
      refine T_aload_n 1 rfl rfl dX7_forget_25 ?_
      refine gRX7_58 rfl kd_48 65 rfl dX7_forget_26 ?_
      refine T_iload_n 2 rfl rfl dX7_forget_29 ?_
      refine pIX7_95 rfl rfl rfl kd_65 dX7_forget_30 ?_
      refine T_lt (fun m5 => ?_)
      refine T_iload_n 0 rfl rfl dX7_forget_33 ?_
      exact T_iret rfl dX7_forget_34)
def fX7_isStep (x1 : Int32) (m : mMem) : mR := bI (fX7_within x1 (0 : Int32) ((m.1 0 0) - (1 : Int32)) m) (fun z2 m1 => gb z2 (some (some (.int z2), m1)))
set_option maxRecDepth 100000 in
theorem bsX7_isStep (l : Launch) (x1 : Int32) (m : mMem)  : BS l qX7_isStep [.ref 48, .int x1] m (fX7_isStep x1 m) := BS_of (by decide) (Nat.le_of_ble_eq_true rfl) (fun X _ => by
    show T qX7_isStep X (fX7_isStep x1 m) 0 [(0, .ref 48), (1, .int x1)] [] m
    unfold fX7_isStep
    refine T_iload_n 1 rfl rfl dX7_isStep_0 ?_
    refine T_iconst (0 : Int32) (by decide) dX7_isStep_1 ?_
    refine T_aload_n 0 rfl rfl dX7_isStep_2 ?_
    refine gRX7_19 rfl kd_48 0 rfl dX7_isStep_3 ?_
    refine gIX7_101 rfl kd_0 dX7_isStep_6 ?_
    refine T_iconst (1 : Int32) (by decide) dX7_isStep_9 ?_
    refine T_isub dX7_isStep_10 ?_
    refine T_cSI [.int x1, .int (0 : Int32), .int ((m.1 0 0) - (1 : Int32))] [] mkX7_within lmX7_73 rfl (by decide) (Nat.le_of_ble_eq_true rfl) dX7_isStep_11 (bsX7_within _ x1 (0 : Int32) ((m.1 0 0) - (1 : Int32)) m) (fun z2 m1 => ?_)
    exact T_zret rfl dX7_isStep_14)
def fX7_isLodger (x1 : Int32) (m : mMem) : mR := bI (fX7_within x1 (0 : Int32) ((m.1 0 1) - (1 : Int32)) m) (fun z2 m1 => gb z2 (some (some (.int z2), m1)))
set_option maxRecDepth 100000 in
theorem bsX7_isLodger (l : Launch) (x1 : Int32) (m : mMem)  : BS l qX7_isLodger [.ref 48, .int x1] m (fX7_isLodger x1 m) := BS_of (by decide) (Nat.le_of_ble_eq_true rfl) (fun X _ => by
    show T qX7_isLodger X (fX7_isLodger x1 m) 0 [(0, .ref 48), (1, .int x1)] [] m
    unfold fX7_isLodger
    refine T_iload_n 1 rfl rfl dX7_isLodger_0 ?_
    refine T_iconst (0 : Int32) (by decide) dX7_isLodger_1 ?_
    refine T_aload_n 0 rfl rfl dX7_isLodger_2 ?_
    refine gRX7_19 rfl kd_48 0 rfl dX7_isLodger_3 ?_
    refine gIX7_104 rfl kd_0 dX7_isLodger_6 ?_
    refine T_iconst (1 : Int32) (by decide) dX7_isLodger_9 ?_
    refine T_isub dX7_isLodger_10 ?_
    refine T_cSI [.int x1, .int (0 : Int32), .int ((m.1 0 1) - (1 : Int32))] [] mkX7_within lmX7_73 rfl (by decide) (Nat.le_of_ble_eq_true rfl) dX7_isLodger_11 (bsX7_within _ x1 (0 : Int32) ((m.1 0 1) - (1 : Int32)) m) (fun z2 m1 => ?_)
    exact T_zret rfl dX7_isLodger_14)
def fX7_isSheet (x0 : Int32) (m : mMem) : mR := bI (fX7_within x0 (0 : Int32) (3 : Int32) m) (fun z2 m1 => gb z2 (some (some (.int z2), m1)))
set_option maxRecDepth 100000 in
theorem bsX7_isSheet (l : Launch) (x0 : Int32) (m : mMem)  : BS l qX7_isSheet [.int x0] m (fX7_isSheet x0 m) := BS_of (by decide) (Nat.le_of_ble_eq_true rfl) (fun X _ => by
    show T qX7_isSheet X (fX7_isSheet x0 m) 0 [(0, .int x0)] [] m
    unfold fX7_isSheet
    refine T_iload_n 0 rfl rfl dX7_isSheet_0 ?_
    refine T_iconst (0 : Int32) (by decide) dX7_isSheet_1 ?_
    refine T_iconst (3 : Int32) (by decide) dX7_isSheet_2 ?_
    refine T_cSI [.int x0, .int (0 : Int32), .int (3 : Int32)] [] mkX7_within lmX7_73 rfl (by decide) (Nat.le_of_ble_eq_true rfl) dX7_isSheet_3 (bsX7_within _ x0 (0 : Int32) (3 : Int32) m) (fun z2 m1 => ?_)
    exact T_zret rfl dX7_isSheet_6)
def fX7_isLane (x0 : Int32) (m : mMem) : mR := bI (fX7_within x0 (0 : Int32) (2 : Int32) m) (fun z2 m1 => gb z2 (some (some (.int z2), m1)))
set_option maxRecDepth 100000 in
theorem bsX7_isLane (l : Launch) (x0 : Int32) (m : mMem)  : BS l qX7_isLane [.int x0] m (fX7_isLane x0 m) := BS_of (by decide) (Nat.le_of_ble_eq_true rfl) (fun X _ => by
    show T qX7_isLane X (fX7_isLane x0 m) 0 [(0, .int x0)] [] m
    unfold fX7_isLane
    refine T_iload_n 0 rfl rfl dX7_isLane_0 ?_
    refine T_iconst (0 : Int32) (by decide) dX7_isLane_1 ?_
    refine T_iconst (2 : Int32) (by decide) dX7_isLane_2 ?_
    refine T_cSI [.int x0, .int (0 : Int32), .int (2 : Int32)] [] mkX7_within lmX7_73 rfl (by decide) (Nat.le_of_ble_eq_true rfl) dX7_isLane_3 (bsX7_within _ x0 (0 : Int32) (2 : Int32) m) (fun z2 m1 => ?_)
    exact T_zret rfl dX7_isLane_6)
theorem lmX7_210 : Cond.methodLink RX7 210 yJ6_numberOfTrailingZeros_0f7a4 ∈ gdL := gd_mem 614 (by decide +kernel) (by decide +kernel)
def bX7_stepOfPath_4 (x1 : Int32) (k4 : Int32 × Int32 × mMem → mR) (s : Int32 × Int32 × mMem) : mR := match s with
  | (x2, x3, m) => if x1 ≤ x3 then if x2 = (0 : Int32) then some (some (.int (-4 : Int32)), m) else bI (fJ6_numberOfTrailingZeros_0f7a4 x2 m) (fun z2 m1 => some (some (.int z2), m1)) else li (x2 &&& (x2 - (1 : Int32))) (fun y4 => li (x3 + (1 : Int32)) (fun y5 => k4 (y4, y5, m)))
set_option maxRecDepth 100000 in
theorem tX7_stepOfPath_4 (X : mCx) (x1 : Int32)  : ∀ (n : Nat) (s : Int32 × Int32 × mMem), T qX7_stepOfPath X (lp (bX7_stepOfPath_4 x1) n s) 4 [(1, .int x1), (2, .int s.1), (3, .int s.2.1)] [] s.2.2 :=
  T_lp (body := bX7_stepOfPath_4 x1) (lv := fun s => [(1, .int x1), (2, .int s.1), (3, .int s.2.1)]) (st := fun _ => []) (μ := fun s : Int32 × Int32 × mMem => s.2.2) (fun k4 hk4 s => by
    obtain ⟨x2, x3, m⟩ := s
    show T qX7_stepOfPath X (bX7_stepOfPath_4 x1 k4 (x2, x3, m)) 4 [(1, .int x1), (2, .int x2), (3, .int x3)] [] m
    unfold bX7_stepOfPath_4
    dsimp only
    refine T_iload_n 2 rfl rfl dX7_stepOfPath_4 ?_
    refine T_iload_n 0 rfl rfl dX7_stepOfPath_5 ?_
    refine T_icmp_ge 21 dX7_stepOfPath_6 (by decide) (fun _ => ?_) (fun _ => ?_)
    · refine T_iload_n 1 rfl rfl dX7_stepOfPath_21 ?_
      refine T_if_ne 30 dX7_stepOfPath_22 (by decide) (fun _ => ?_) (fun _ => ?_)
      · refine T_bipush (-4 : Int32) (by decide) dX7_stepOfPath_25 ?_
        refine T_goto 34 dX7_stepOfPath_27 (by decide) ?_
        exact T_iret rfl dX7_stepOfPath_34
      · refine T_iload_n 1 rfl rfl dX7_stepOfPath_30 ?_
        refine T_cSI [.int x2] [] mkJ6_numberOfTrailingZeros_0f7a4 lmX7_210 rfl (by decide) (Nat.le_of_ble_eq_true rfl) dX7_stepOfPath_31 (bsJ6_numberOfTrailingZeros_0f7a4 _ x2 m) (fun z2 m1 => ?_)
        exact T_iret rfl dX7_stepOfPath_34
    · refine T_iload_n 1 rfl rfl dX7_stepOfPath_9 ?_
      refine T_iload_n 1 rfl rfl dX7_stepOfPath_10 ?_
      refine T_iconst (1 : Int32) (by decide) dX7_stepOfPath_11 ?_
      refine T_isub dX7_stepOfPath_12 ?_
      refine T_iand dX7_stepOfPath_13 ?_
      refine T_istore_n (lv' := [(2, .int (x2 &&& (x2 - (1 : Int32)))), (1, .int x1), (3, .int x3)]) rfl (Nat.le_of_ble_eq_true rfl) rfl dX7_stepOfPath_14 ?_
      refine T_li (fun y4 => ?_)
      refine T_iinc (lv' := [(3, .int (x3 + (1 : Int32))), (2, .int y4), (1, .int x1)]) 2 (1 : Int32) rfl (by decide) (Nat.le_of_ble_eq_true rfl) rfl dX7_stepOfPath_15 ?_
      refine T_li (fun y5 => ?_)
      refine T_goto 4 dX7_stepOfPath_18 (by decide) ?_
      exact T_sub [2, 1, 0] rfl (hk4 (y4, y5, m)))
def fX7_stepOfPath (x0 : Int32) (x1 : Int32) (m : mMem) : mR := lp (bX7_stepOfPath_4 x1) FU (x0, (0 : Int32), m)
set_option maxRecDepth 100000 in
theorem bsX7_stepOfPath (l : Launch) (x0 : Int32) (x1 : Int32) (m : mMem)  : BS l qX7_stepOfPath [.int x0, .int x1] m (fX7_stepOfPath x0 x1 m) := BS_of (by decide) (Nat.le_of_ble_eq_true rfl) (fun X _ => by
    show T qX7_stepOfPath X (fX7_stepOfPath x0 x1 m) 0 [(0, .int x0), (1, .int x1)] [] m
    unfold fX7_stepOfPath
    refine T_iload_n 0 rfl rfl dX7_stepOfPath_0 ?_
    refine T_istore_n (lv' := [(2, .int x0), (0, .int x0), (1, .int x1)]) rfl (Nat.le_of_ble_eq_true rfl) rfl dX7_stepOfPath_1 ?_
    refine T_iconst (0 : Int32) (by decide) dX7_stepOfPath_2 ?_
    refine T_istore_n (lv' := [(3, .int (0 : Int32)), (2, .int x0), (0, .int x0), (1, .int x1)]) rfl (Nat.le_of_ble_eq_true rfl) rfl dX7_stepOfPath_3 ?_
    exact T_sub [3, 1, 0] rfl (tX7_stepOfPath_4 X x1  FU (x0, (0 : Int32), m)))
theorem lmX7_116 : Cond.methodLink RX7 116 yX7_isStep ∈ gdL := gd_mem 498 (by decide +kernel) (by decide +kernel)
theorem lmX7_130 : Cond.methodLink RX7 130 yX4_rankOfStep ∈ gdL := gd_mem 502 (by decide +kernel) (by decide +kernel)
theorem lmX7_133 : Cond.methodLink RX7 133 yX4_isBroken ∈ gdL := gd_mem 509 (by decide +kernel) (by decide +kernel)
theorem lfX7_120 : Cond.fieldLink RX7 120 "RankStairs$House" "kinds" "[I" ∈ gdL := gd_mem 146 (by decide +kernel) (by decide +kernel)
theorem gRX7_120 {q : mMI} {X : mCx} {tgt : mR} {pc : Nat} {lv : List (Nat × Value)} {st : List Value} {μ : mMem} {b : Nat} (hq : q.1.cls = RX7) (hb : kd b = (4, 0)) (z : Nat) (hz : rf b 5 = z) (hd : decode q.2.1 pc = .ok (.getfield 120, 3)) (h : T q X tgt (pc + 3) lv (.ref z :: st) μ) : T q X tgt pc lv (.ref b :: st) μ := T_getR (c := 4) rfl (by decide) rfl (by decide) (by rw [hq]; exact lfX7_120) hb z hz hd h
theorem lfX7_124 : Cond.fieldLink RX7 124 "RankStairs$House" "years" "[I" ∈ gdL := gd_mem 148 (by decide +kernel) (by decide +kernel)
theorem gRX7_124 {q : mMI} {X : mCx} {tgt : mR} {pc : Nat} {lv : List (Nat × Value)} {st : List Value} {μ : mMem} {b : Nat} (hq : q.1.cls = RX7) (hb : kd b = (4, 0)) (z : Nat) (hz : rf b 6 = z) (hd : decode q.2.1 pc = .ok (.getfield 124, 3)) (h : T q X tgt (pc + 3) lv (.ref z :: st) μ) : T q X tgt pc lv (.ref b :: st) μ := T_getR (c := 4) rfl (by decide) rfl (by decide) (by rw [hq]; exact lfX7_124) hb z hz hd h
theorem lfX7_127 : Cond.fieldLink RX7 127 "RankStairs$House" "wears" "[I" ∈ gdL := gd_mem 151 (by decide +kernel) (by decide +kernel)
theorem gRX7_127 {q : mMI} {X : mCx} {tgt : mR} {pc : Nat} {lv : List (Nat × Value)} {st : List Value} {μ : mMem} {b : Nat} (hq : q.1.cls = RX7) (hb : kd b = (4, 0)) (z : Nat) (hz : rf b 7 = z) (hd : decode q.2.1 pc = .ok (.getfield 127, 3)) (h : T q X tgt (pc + 3) lv (.ref z :: st) μ) : T q X tgt pc lv (.ref b :: st) μ := T_getR (c := 4) rfl (by decide) rfl (by decide) (by rw [hq]; exact lfX7_127) hb z hz hd h
def fX7_step (x1 : Int32) (x2 : Int32) (m : mMem) : mR := bI (fX7_isStep x1 m) (fun z2 m1 => if z2 = (0 : Int32) then some (some (.int (-1 : Int32)), m1) else if x2 = (0 : Int32) then ga x1 10 (some (some (.int (m1.1 1 (x1).toNatClampNeg)), m1)) else if x2 = (1 : Int32) then ga x1 10 (some (some (.int (m1.1 2 (x1).toNatClampNeg)), m1)) else if x2 = (2 : Int32) then ga x1 10 (some (some (.int (m1.1 3 (x1).toNatClampNeg)), m1)) else if x2 = (3 : Int32) then bI (fX4_rankOfStep 0 x1 m1) (fun z5 m4 => some (some (.int z5), m4)) else if x2 = (4 : Int32) then bI (fX4_isBroken 0 x1 m1) (fun z8 m7 => if z8 = (0 : Int32) then some (some (.int (0 : Int32)), m7) else some (some (.int (1 : Int32)), m7)) else some (some (.int (-1 : Int32)), m1))
set_option maxRecDepth 100000 in
theorem bsX7_step (l : Launch) (x1 : Int32) (x2 : Int32) (m : mMem)  : BS l qX7_step [.ref 48, .int x1, .int x2] m (fX7_step x1 x2 m) := BS_of (by decide) (Nat.le_of_ble_eq_true rfl) (fun X _ => by
    show T qX7_step X (fX7_step x1 x2 m) 0 [(0, .ref 48), (1, .int x1), (2, .int x2)] [] m
    unfold fX7_step
    refine T_aload_n 0 rfl rfl dX7_step_0 ?_
    refine T_iload_n 1 rfl rfl dX7_step_1 ?_
    refine T_cVI (c := 7) [.int x1] [] mkX7_isStep lmX7_116 rfl rfl (by decide) (Nat.le_of_ble_eq_true rfl) kd_48 dX7_step_2 (bsX7_isStep _ x1 m) (fun z2 m1 => ?_)
    refine T_if_ne 10 dX7_step_5 (by decide) (fun _ => ?_) (fun _ => ?_)
    · refine T_iconst (-1 : Int32) (by decide) dX7_step_8 ?_
      exact T_iret rfl dX7_step_9
    · refine T_iload_n 2 rfl rfl dX7_step_10 ?_
      refine T_ite (fun hc => ?_) (fun hn0 => ?_)
      · refine T_tsIn (0 : Int32) 44 hc dX7_step_11 (by decide) (by decide) rfl (by decide) ?_
        refine T_aload_n 0 rfl rfl dX7_step_44 ?_
        refine gRX7_19 rfl kd_48 0 rfl dX7_step_45 ?_
        refine gRX7_120 rfl kd_0 1 rfl dX7_step_48 ?_
        refine T_iload_n 1 rfl rfl dX7_step_51 ?_
        refine T_iald kd_1 dX7_step_52 ?_
        exact T_iret rfl dX7_step_53
      · refine T_ite (fun hc => ?_) (fun hn1 => ?_)
        · refine T_tsIn (1 : Int32) 54 hc dX7_step_11 (by decide) (by decide) rfl (by decide) ?_
          refine T_aload_n 0 rfl rfl dX7_step_54 ?_
          refine gRX7_19 rfl kd_48 0 rfl dX7_step_55 ?_
          refine gRX7_124 rfl kd_0 2 rfl dX7_step_58 ?_
          refine T_iload_n 1 rfl rfl dX7_step_61 ?_
          refine T_iald kd_2 dX7_step_62 ?_
          exact T_iret rfl dX7_step_63
        · refine T_ite (fun hc => ?_) (fun hn2 => ?_)
          · refine T_tsIn (2 : Int32) 64 hc dX7_step_11 (by decide) (by decide) rfl (by decide) ?_
            refine T_aload_n 0 rfl rfl dX7_step_64 ?_
            refine gRX7_19 rfl kd_48 0 rfl dX7_step_65 ?_
            refine gRX7_127 rfl kd_0 3 rfl dX7_step_68 ?_
            refine T_iload_n 1 rfl rfl dX7_step_71 ?_
            refine T_iald kd_3 dX7_step_72 ?_
            exact T_iret rfl dX7_step_73
          · refine T_ite (fun hc => ?_) (fun hn3 => ?_)
            · refine T_tsIn (3 : Int32) 74 hc dX7_step_11 (by decide) (by decide) rfl (by decide) ?_
              refine T_aload_n 0 rfl rfl dX7_step_74 ?_
              refine gRX7_19 rfl kd_48 0 rfl dX7_step_75 ?_
              refine T_iload_n 1 rfl rfl dX7_step_78 ?_
              refine T_cVI (c := 4) [.int x1] [] mkX4_rankOfStep lmX7_130 rfl rfl (by decide) (Nat.le_of_ble_eq_true rfl) kd_0 dX7_step_79 (bsX4_rankOfStep _ 0 x1 m1 kd_0) (fun z5 m4 => ?_)
              exact T_iret rfl dX7_step_82
            · refine T_ite (fun hc => ?_) (fun hn4 => ?_)
              · refine T_tsIn (4 : Int32) 83 hc dX7_step_11 (by decide) (by decide) rfl (by decide) ?_
                refine T_aload_n 0 rfl rfl dX7_step_83 ?_
                refine gRX7_19 rfl kd_48 0 rfl dX7_step_84 ?_
                refine T_iload_n 1 rfl rfl dX7_step_87 ?_
                refine T_cVI (c := 4) [.int x1] [] mkX4_isBroken lmX7_133 rfl rfl (by decide) (Nat.le_of_ble_eq_true rfl) kd_0 dX7_step_88 (bsX4_isBroken _ 0 x1 m1 kd_0) (fun z8 m7 => ?_)
                refine T_if_eq 98 dX7_step_91 (by decide) (fun _ => ?_) (fun _ => ?_)
                · refine T_iconst (0 : Int32) (by decide) dX7_step_98 ?_
                  exact T_iret rfl dX7_step_99
                · refine T_iconst (1 : Int32) (by decide) dX7_step_94 ?_
                  refine T_goto 99 dX7_step_95 (by decide) ?_
                  exact T_iret rfl dX7_step_99
              · refine T_tsOut 100 (by have e0 := neT (k := 0) hn0 (by decide); have e1 := neT (k := 1) hn1 (by decide); have e2 := neT (k := 2) hn2 (by decide); have e3 := neT (k := 3) hn3 (by decide); have e4 := neT (k := 4) hn4 (by decide); omega) dX7_step_11 (by decide) ?_
                refine T_iconst (-1 : Int32) (by decide) dX7_step_100 ?_
                exact T_iret rfl dX7_step_101)
theorem lmX7_157 : Cond.methodLink RX7 157 yX7_exchanged ∈ gdL := gd_mem 549 (by decide +kernel) (by decide +kernel)
def fX7_age (x1 : Int32) (x2 : Int32) (m : mMem) : mR := bI (fX7_isStep x1 m) (fun z2 m1 => if z2 = (0 : Int32) then some (some (.int (-1 : Int32)), m1) else bI (fX7_within x2 (0 : Int32) (60 : Int32) m1) (fun z5 m4 => if z5 = (0 : Int32) then some (some (.int (-1 : Int32)), m4) else bI (fX7_exchanged 2 10 x1 x2 m4) (fun z8 m7 => some (some (.int z8), m7))))
set_option maxRecDepth 100000 in
theorem bsX7_age (l : Launch) (x1 : Int32) (x2 : Int32) (m : mMem)  : BS l qX7_age [.ref 48, .int x1, .int x2] m (fX7_age x1 x2 m) := BS_of (by decide) (Nat.le_of_ble_eq_true rfl) (fun X _ => by
    show T qX7_age X (fX7_age x1 x2 m) 0 [(0, .ref 48), (1, .int x1), (2, .int x2)] [] m
    unfold fX7_age
    refine T_aload_n 0 rfl rfl dX7_age_0 ?_
    refine T_iload_n 1 rfl rfl dX7_age_1 ?_
    refine T_cVI (c := 7) [.int x1] [] mkX7_isStep lmX7_116 rfl rfl (by decide) (Nat.le_of_ble_eq_true rfl) kd_48 dX7_age_2 (bsX7_isStep _ x1 m) (fun z2 m1 => ?_)
    refine T_if_eq 18 dX7_age_5 (by decide) (fun _ => ?_) (fun _ => ?_)
    · refine T_iconst (-1 : Int32) (by decide) dX7_age_18 ?_
      exact T_iret rfl dX7_age_19
    · refine T_iload_n 2 rfl rfl dX7_age_8 ?_
      refine T_iconst (0 : Int32) (by decide) dX7_age_9 ?_
      refine T_bipush (60 : Int32) (by decide) dX7_age_10 ?_
      refine T_cSI [.int x2, .int (0 : Int32), .int (60 : Int32)] [] mkX7_within lmX7_73 rfl (by decide) (Nat.le_of_ble_eq_true rfl) dX7_age_12 (bsX7_within _ x2 (0 : Int32) (60 : Int32) m1) (fun z5 m4 => ?_)
      refine T_if_ne 20 dX7_age_15 (by decide) (fun _ => ?_) (fun _ => ?_)
      · refine T_iconst (-1 : Int32) (by decide) dX7_age_18 ?_
        exact T_iret rfl dX7_age_19
      · refine T_aload_n 0 rfl rfl dX7_age_20 ?_
        refine gRX7_19 rfl kd_48 0 rfl dX7_age_21 ?_
        refine gRX7_124 rfl kd_0 2 rfl dX7_age_24 ?_
        refine T_iload_n 1 rfl rfl dX7_age_27 ?_
        refine T_iload_n 2 rfl rfl dX7_age_28 ?_
        refine T_cSI [.ref 2, .int x1, .int x2] [] mkX7_exchanged lmX7_157 rfl (by decide) (Nat.le_of_ble_eq_true rfl) dX7_age_29 (bsX7_exchanged _ 2 10 x1 x2 m4 kd_2) (fun z8 m7 => ?_)
        exact T_iret rfl dX7_age_32)
def fX7_wear (x1 : Int32) (x2 : Int32) (m : mMem) : mR := bI (fX7_isStep x1 m) (fun z2 m1 => if z2 = (0 : Int32) then some (some (.int (-1 : Int32)), m1) else bI (fX7_within x2 (0 : Int32) (99 : Int32) m1) (fun z5 m4 => if z5 = (0 : Int32) then some (some (.int (-1 : Int32)), m4) else bI (fX7_exchanged 3 10 x1 x2 m4) (fun z8 m7 => some (some (.int z8), m7))))
set_option maxRecDepth 100000 in
theorem bsX7_wear (l : Launch) (x1 : Int32) (x2 : Int32) (m : mMem)  : BS l qX7_wear [.ref 48, .int x1, .int x2] m (fX7_wear x1 x2 m) := BS_of (by decide) (Nat.le_of_ble_eq_true rfl) (fun X _ => by
    show T qX7_wear X (fX7_wear x1 x2 m) 0 [(0, .ref 48), (1, .int x1), (2, .int x2)] [] m
    unfold fX7_wear
    refine T_aload_n 0 rfl rfl dX7_wear_0 ?_
    refine T_iload_n 1 rfl rfl dX7_wear_1 ?_
    refine T_cVI (c := 7) [.int x1] [] mkX7_isStep lmX7_116 rfl rfl (by decide) (Nat.le_of_ble_eq_true rfl) kd_48 dX7_wear_2 (bsX7_isStep _ x1 m) (fun z2 m1 => ?_)
    refine T_if_eq 18 dX7_wear_5 (by decide) (fun _ => ?_) (fun _ => ?_)
    · refine T_iconst (-1 : Int32) (by decide) dX7_wear_18 ?_
      exact T_iret rfl dX7_wear_19
    · refine T_iload_n 2 rfl rfl dX7_wear_8 ?_
      refine T_iconst (0 : Int32) (by decide) dX7_wear_9 ?_
      refine T_bipush (99 : Int32) (by decide) dX7_wear_10 ?_
      refine T_cSI [.int x2, .int (0 : Int32), .int (99 : Int32)] [] mkX7_within lmX7_73 rfl (by decide) (Nat.le_of_ble_eq_true rfl) dX7_wear_12 (bsX7_within _ x2 (0 : Int32) (99 : Int32) m1) (fun z5 m4 => ?_)
      refine T_if_ne 20 dX7_wear_15 (by decide) (fun _ => ?_) (fun _ => ?_)
      · refine T_iconst (-1 : Int32) (by decide) dX7_wear_18 ?_
        exact T_iret rfl dX7_wear_19
      · refine T_aload_n 0 rfl rfl dX7_wear_20 ?_
        refine gRX7_19 rfl kd_48 0 rfl dX7_wear_21 ?_
        refine gRX7_127 rfl kd_0 3 rfl dX7_wear_24 ?_
        refine T_iload_n 1 rfl rfl dX7_wear_27 ?_
        refine T_iload_n 2 rfl rfl dX7_wear_28 ?_
        refine T_cSI [.ref 3, .int x1, .int x2] [] mkX7_exchanged lmX7_157 rfl (by decide) (Nat.le_of_ble_eq_true rfl) dX7_wear_29 (bsX7_exchanged _ 3 10 x1 x2 m4 kd_3) (fun z8 m7 => ?_)
        exact T_iret rfl dX7_wear_32)
theorem lmX7_161 : Cond.methodLink RX7 161 yX4_renew ∈ gdL := gd_mem 560 (by decide +kernel) (by decide +kernel)
def fX7_mend (x1 : Int32) (m : mMem) : mR := bI (fX7_isStep x1 m) (fun z2 m1 => if z2 = (0 : Int32) then some (some (.int (-1 : Int32)), m1) else ga x1 10 (li (m1.1 3 (x1).toNatClampNeg) (fun y4 => bV (fX4_renew 0 x1 m1) (fun m5 => some (some (.int y4), m5)))))
set_option maxRecDepth 100000 in
theorem bsX7_mend (l : Launch) (x1 : Int32) (m : mMem)  : BS l qX7_mend [.ref 48, .int x1] m (fX7_mend x1 m) := BS_of (by decide) (Nat.le_of_ble_eq_true rfl) (fun X _ => by
    show T qX7_mend X (fX7_mend x1 m) 0 [(0, .ref 48), (1, .int x1)] [] m
    unfold fX7_mend
    refine T_aload_n 0 rfl rfl dX7_mend_0 ?_
    refine T_iload_n 1 rfl rfl dX7_mend_1 ?_
    refine T_cVI (c := 7) [.int x1] [] mkX7_isStep lmX7_116 rfl rfl (by decide) (Nat.le_of_ble_eq_true rfl) kd_48 dX7_mend_2 (bsX7_isStep _ x1 m) (fun z2 m1 => ?_)
    refine T_if_ne 10 dX7_mend_5 (by decide) (fun _ => ?_) (fun _ => ?_)
    · refine T_iconst (-1 : Int32) (by decide) dX7_mend_8 ?_
      exact T_iret rfl dX7_mend_9
    · refine T_aload_n 0 rfl rfl dX7_mend_10 ?_
      refine gRX7_19 rfl kd_48 0 rfl dX7_mend_11 ?_
      refine gRX7_127 rfl kd_0 3 rfl dX7_mend_14 ?_
      refine T_iload_n 1 rfl rfl dX7_mend_17 ?_
      refine T_iald kd_3 dX7_mend_18 ?_
      refine T_istore_n (lv' := [(2, .int (m1.1 3 (x1).toNatClampNeg)), (0, .ref 48), (1, .int x1)]) rfl (Nat.le_of_ble_eq_true rfl) rfl dX7_mend_19 ?_
      refine T_li (fun y4 => ?_)
      refine T_aload_n 1 rfl rfl dX7_mend_20 ?_
      refine gRX7_19 rfl kd_48 0 rfl dX7_mend_21 ?_
      refine T_iload_n 2 rfl rfl dX7_mend_24 ?_
      refine T_cVV (c := 4) [.int x1] [] mkX4_renew lmX7_161 rfl rfl (by decide) (Nat.le_of_ble_eq_true rfl) kd_0 dX7_mend_25 (bsX4_renew _ 0 x1 m1 kd_0) (fun m5 => ?_)
      refine T_iload_n 0 rfl rfl dX7_mend_28 ?_
      exact T_iret rfl dX7_mend_29)
theorem lmX7_136 : Cond.methodLink RX7 136 yX7_isLodger ∈ gdL := gd_mem 517 (by decide +kernel) (by decide +kernel)
theorem lfX7_142 : Cond.fieldLink RX7 142 "RankStairs$House" "rankOf" "[I" ∈ gdL := gd_mem 156 (by decide +kernel) (by decide +kernel)
theorem gRX7_142 {q : mMI} {X : mCx} {tgt : mR} {pc : Nat} {lv : List (Nat × Value)} {st : List Value} {μ : mMem} {b : Nat} (hq : q.1.cls = RX7) (hb : kd b = (4, 0)) (z : Nat) (hz : rf b 9 = z) (hd : decode q.2.1 pc = .ok (.getfield 142, 3)) (h : T q X tgt (pc + 3) lv (.ref z :: st) μ) : T q X tgt pc lv (.ref b :: st) μ := T_getR (c := 4) rfl (by decide) rfl (by decide) (by rw [hq]; exact lfX7_142) hb z hz hd h
def fX7_rank (x1 : Int32) (x2 : Int32) (m : mMem) : mR := bI (fX7_isLodger x1 m) (fun z2 m1 => if z2 = (0 : Int32) then some (some (.int (-1 : Int32)), m1) else bI (fX7_within x2 (0 : Int32) (3 : Int32) m1) (fun z5 m4 => if z5 = (0 : Int32) then some (some (.int (-1 : Int32)), m4) else bI (fX7_exchanged 5 4 x1 x2 m4) (fun z8 m7 => some (some (.int z8), m7))))
set_option maxRecDepth 100000 in
theorem bsX7_rank (l : Launch) (x1 : Int32) (x2 : Int32) (m : mMem)  : BS l qX7_rank [.ref 48, .int x1, .int x2] m (fX7_rank x1 x2 m) := BS_of (by decide) (Nat.le_of_ble_eq_true rfl) (fun X _ => by
    show T qX7_rank X (fX7_rank x1 x2 m) 0 [(0, .ref 48), (1, .int x1), (2, .int x2)] [] m
    unfold fX7_rank
    refine T_aload_n 0 rfl rfl dX7_rank_0 ?_
    refine T_iload_n 1 rfl rfl dX7_rank_1 ?_
    refine T_cVI (c := 7) [.int x1] [] mkX7_isLodger lmX7_136 rfl rfl (by decide) (Nat.le_of_ble_eq_true rfl) kd_48 dX7_rank_2 (bsX7_isLodger _ x1 m) (fun z2 m1 => ?_)
    refine T_if_eq 17 dX7_rank_5 (by decide) (fun _ => ?_) (fun _ => ?_)
    · refine T_iconst (-1 : Int32) (by decide) dX7_rank_17 ?_
      exact T_iret rfl dX7_rank_18
    · refine T_iload_n 2 rfl rfl dX7_rank_8 ?_
      refine T_iconst (0 : Int32) (by decide) dX7_rank_9 ?_
      refine T_iconst (3 : Int32) (by decide) dX7_rank_10 ?_
      refine T_cSI [.int x2, .int (0 : Int32), .int (3 : Int32)] [] mkX7_within lmX7_73 rfl (by decide) (Nat.le_of_ble_eq_true rfl) dX7_rank_11 (bsX7_within _ x2 (0 : Int32) (3 : Int32) m1) (fun z5 m4 => ?_)
      refine T_if_ne 19 dX7_rank_14 (by decide) (fun _ => ?_) (fun _ => ?_)
      · refine T_iconst (-1 : Int32) (by decide) dX7_rank_17 ?_
        exact T_iret rfl dX7_rank_18
      · refine T_aload_n 0 rfl rfl dX7_rank_19 ?_
        refine gRX7_19 rfl kd_48 0 rfl dX7_rank_20 ?_
        refine gRX7_142 rfl kd_0 5 rfl dX7_rank_23 ?_
        refine T_iload_n 1 rfl rfl dX7_rank_26 ?_
        refine T_iload_n 2 rfl rfl dX7_rank_27 ?_
        refine T_cSI [.ref 5, .int x1, .int x2] [] mkX7_exchanged lmX7_157 rfl (by decide) (Nat.le_of_ble_eq_true rfl) dX7_rank_28 (bsX7_exchanged _ 5 4 x1 x2 m4 kd_5) (fun z8 m7 => ?_)
        exact T_iret rfl dX7_rank_31)
theorem lfX7_145 : Cond.fieldLink RX7 145 "RankStairs$House" "loadOf" "[I" ∈ gdL := gd_mem 158 (by decide +kernel) (by decide +kernel)
theorem gRX7_145 {q : mMI} {X : mCx} {tgt : mR} {pc : Nat} {lv : List (Nat × Value)} {st : List Value} {μ : mMem} {b : Nat} (hq : q.1.cls = RX7) (hb : kd b = (4, 0)) (z : Nat) (hz : rf b 10 = z) (hd : decode q.2.1 pc = .ok (.getfield 145, 3)) (h : T q X tgt (pc + 3) lv (.ref z :: st) μ) : T q X tgt pc lv (.ref b :: st) μ := T_getR (c := 4) rfl (by decide) rfl (by decide) (by rw [hq]; exact lfX7_145) hb z hz hd h
def fX7_load (x1 : Int32) (x2 : Int32) (m : mMem) : mR := bI (fX7_isLodger x1 m) (fun z2 m1 => if z2 = (0 : Int32) then some (some (.int (-1 : Int32)), m1) else bI (fX7_within x2 (0 : Int32) (9 : Int32) m1) (fun z5 m4 => if z5 = (0 : Int32) then some (some (.int (-1 : Int32)), m4) else bI (fX7_exchanged 6 4 x1 x2 m4) (fun z8 m7 => some (some (.int z8), m7))))
set_option maxRecDepth 100000 in
theorem bsX7_load (l : Launch) (x1 : Int32) (x2 : Int32) (m : mMem)  : BS l qX7_load [.ref 48, .int x1, .int x2] m (fX7_load x1 x2 m) := BS_of (by decide) (Nat.le_of_ble_eq_true rfl) (fun X _ => by
    show T qX7_load X (fX7_load x1 x2 m) 0 [(0, .ref 48), (1, .int x1), (2, .int x2)] [] m
    unfold fX7_load
    refine T_aload_n 0 rfl rfl dX7_load_0 ?_
    refine T_iload_n 1 rfl rfl dX7_load_1 ?_
    refine T_cVI (c := 7) [.int x1] [] mkX7_isLodger lmX7_136 rfl rfl (by decide) (Nat.le_of_ble_eq_true rfl) kd_48 dX7_load_2 (bsX7_isLodger _ x1 m) (fun z2 m1 => ?_)
    refine T_if_eq 18 dX7_load_5 (by decide) (fun _ => ?_) (fun _ => ?_)
    · refine T_iconst (-1 : Int32) (by decide) dX7_load_18 ?_
      exact T_iret rfl dX7_load_19
    · refine T_iload_n 2 rfl rfl dX7_load_8 ?_
      refine T_iconst (0 : Int32) (by decide) dX7_load_9 ?_
      refine T_bipush (9 : Int32) (by decide) dX7_load_10 ?_
      refine T_cSI [.int x2, .int (0 : Int32), .int (9 : Int32)] [] mkX7_within lmX7_73 rfl (by decide) (Nat.le_of_ble_eq_true rfl) dX7_load_12 (bsX7_within _ x2 (0 : Int32) (9 : Int32) m1) (fun z5 m4 => ?_)
      refine T_if_ne 20 dX7_load_15 (by decide) (fun _ => ?_) (fun _ => ?_)
      · refine T_iconst (-1 : Int32) (by decide) dX7_load_18 ?_
        exact T_iret rfl dX7_load_19
      · refine T_aload_n 0 rfl rfl dX7_load_20 ?_
        refine gRX7_19 rfl kd_48 0 rfl dX7_load_21 ?_
        refine gRX7_145 rfl kd_0 6 rfl dX7_load_24 ?_
        refine T_iload_n 1 rfl rfl dX7_load_27 ?_
        refine T_iload_n 2 rfl rfl dX7_load_28 ?_
        refine T_cSI [.ref 6, .int x1, .int x2] [] mkX7_exchanged lmX7_157 rfl (by decide) (Nat.le_of_ble_eq_true rfl) dX7_load_29 (bsX7_exchanged _ 6 4 x1 x2 m4 kd_6) (fun z8 m7 => ?_)
        exact T_iret rfl dX7_load_32)
theorem lfX7_148 : Cond.fieldLink RX7 148 "RankStairs$House" "floorOf" "[I" ∈ gdL := gd_mem 164 (by decide +kernel) (by decide +kernel)
theorem gRX7_148 {q : mMI} {X : mCx} {tgt : mR} {pc : Nat} {lv : List (Nat × Value)} {st : List Value} {μ : mMem} {b : Nat} (hq : q.1.cls = RX7) (hb : kd b = (4, 0)) (z : Nat) (hz : rf b 11 = z) (hd : decode q.2.1 pc = .ok (.getfield 148, 3)) (h : T q X tgt (pc + 3) lv (.ref z :: st) μ) : T q X tgt pc lv (.ref b :: st) μ := T_getR (c := 4) rfl (by decide) rfl (by decide) (by rw [hq]; exact lfX7_148) hb z hz hd h
def fX7_move (x1 : Int32) (x2 : Int32) (m : mMem) : mR := bI (fX7_isLodger x1 m) (fun z2 m1 => if z2 = (0 : Int32) then some (some (.int (-1 : Int32)), m1) else bI (fX7_isStep x2 m1) (fun z5 m4 => if z5 = (0 : Int32) then some (some (.int (-1 : Int32)), m4) else bI (fX7_exchanged 7 4 x1 x2 m4) (fun z8 m7 => some (some (.int z8), m7))))
set_option maxRecDepth 100000 in
theorem bsX7_move (l : Launch) (x1 : Int32) (x2 : Int32) (m : mMem)  : BS l qX7_move [.ref 48, .int x1, .int x2] m (fX7_move x1 x2 m) := BS_of (by decide) (Nat.le_of_ble_eq_true rfl) (fun X _ => by
    show T qX7_move X (fX7_move x1 x2 m) 0 [(0, .ref 48), (1, .int x1), (2, .int x2)] [] m
    unfold fX7_move
    refine T_aload_n 0 rfl rfl dX7_move_0 ?_
    refine T_iload_n 1 rfl rfl dX7_move_1 ?_
    refine T_cVI (c := 7) [.int x1] [] mkX7_isLodger lmX7_136 rfl rfl (by decide) (Nat.le_of_ble_eq_true rfl) kd_48 dX7_move_2 (bsX7_isLodger _ x1 m) (fun z2 m1 => ?_)
    refine T_if_eq 16 dX7_move_5 (by decide) (fun _ => ?_) (fun _ => ?_)
    · refine T_iconst (-1 : Int32) (by decide) dX7_move_16 ?_
      exact T_iret rfl dX7_move_17
    · refine T_aload_n 0 rfl rfl dX7_move_8 ?_
      refine T_iload_n 2 rfl rfl dX7_move_9 ?_
      refine T_cVI (c := 7) [.int x2] [] mkX7_isStep lmX7_116 rfl rfl (by decide) (Nat.le_of_ble_eq_true rfl) kd_48 dX7_move_10 (bsX7_isStep _ x2 m1) (fun z5 m4 => ?_)
      refine T_if_ne 18 dX7_move_13 (by decide) (fun _ => ?_) (fun _ => ?_)
      · refine T_iconst (-1 : Int32) (by decide) dX7_move_16 ?_
        exact T_iret rfl dX7_move_17
      · refine T_aload_n 0 rfl rfl dX7_move_18 ?_
        refine gRX7_19 rfl kd_48 0 rfl dX7_move_19 ?_
        refine gRX7_148 rfl kd_0 7 rfl dX7_move_22 ?_
        refine T_iload_n 1 rfl rfl dX7_move_25 ?_
        refine T_iload_n 2 rfl rfl dX7_move_26 ?_
        refine T_cSI [.ref 7, .int x1, .int x2] [] mkX7_exchanged lmX7_157 rfl (by decide) (Nat.le_of_ble_eq_true rfl) dX7_move_27 (bsX7_exchanged _ 7 4 x1 x2 m4 kd_7) (fun z8 m7 => ?_)
        exact T_iret rfl dX7_move_30)
theorem lmX7_165 : Cond.methodLink RX7 165 Lib.Math.min.name ∈ gdL := gd_mem 584 (by decide +kernel) (by decide +kernel)
def bX7_year_4  (k4 : Int32 × Int32 × mMem → mR) (s : Int32 × Int32 × mMem) : mR := match s with
  | (x1, x2, m) => if (m.1 0 0) ≤ x2 then some (some (.int x1), m) else bI (fX4_rankOfStep 0 x2 m) (fun z2 m1 => ga x2 10 (ga x2 10 (lt (si m1 2 (x2).toNatClampNeg (imin ((m1.1 2 (x2).toNatClampNeg) + (1 : Int32)) (60 : Int32))) (fun m4 => bI (fX4_rankOfStep 0 x2 m4) (fun z6 m5 => if z6 = z2 then li (x2 + (1 : Int32)) (fun y8 => k4 (x1, y8, m5)) else li (x1 + (1 : Int32)) (fun y9 => li (x2 + (1 : Int32)) (fun y10 => k4 (y9, y10, m5))))))))
set_option maxRecDepth 100000 in
theorem tX7_year_4 (X : mCx)   : ∀ (n : Nat) (s : Int32 × Int32 × mMem), T qX7_year X (lp (bX7_year_4 ) n s) 4 [(0, .ref 48), (1, .int s.1), (2, .int s.2.1)] [] s.2.2 :=
  T_lp (body := bX7_year_4 ) (lv := fun s => [(0, .ref 48), (1, .int s.1), (2, .int s.2.1)]) (st := fun _ => []) (μ := fun s : Int32 × Int32 × mMem => s.2.2) (fun k4 hk4 s => by
    obtain ⟨x1, x2, m⟩ := s
    show T qX7_year X (bX7_year_4  k4 (x1, x2, m)) 4 [(0, .ref 48), (1, .int x1), (2, .int x2)] [] m
    unfold bX7_year_4
    dsimp only
    refine T_iload_n 2 rfl rfl dX7_year_4 ?_
    refine T_aload_n 0 rfl rfl dX7_year_5 ?_
    refine gRX7_19 rfl kd_48 0 rfl dX7_year_6 ?_
    refine gIX7_101 rfl kd_0 dX7_year_9 ?_
    refine T_icmp_ge 70 dX7_year_12 (by decide) (fun _ => ?_) (fun _ => ?_)
    · refine T_iload_n 1 rfl rfl dX7_year_70 ?_
      exact T_iret rfl dX7_year_71
    · refine T_aload_n 0 rfl rfl dX7_year_15 ?_
      refine gRX7_19 rfl kd_48 0 rfl dX7_year_16 ?_
      refine T_iload_n 2 rfl rfl dX7_year_19 ?_
      refine T_cVI (c := 4) [.int x2] [] mkX4_rankOfStep lmX7_130 rfl rfl (by decide) (Nat.le_of_ble_eq_true rfl) kd_0 dX7_year_20 (bsX4_rankOfStep _ 0 x2 m kd_0) (fun z2 m1 => ?_)
      refine T_istore_n (lv' := [(3, .int z2), (0, .ref 48), (1, .int x1), (2, .int x2)]) rfl (Nat.le_of_ble_eq_true rfl) rfl dX7_year_23 ?_
      refine T_aload_n 1 rfl rfl dX7_year_24 ?_
      refine gRX7_19 rfl kd_48 0 rfl dX7_year_25 ?_
      refine gRX7_124 rfl kd_0 2 rfl dX7_year_28 ?_
      refine T_iload_n 3 rfl rfl dX7_year_31 ?_
      refine T_aload_n 1 rfl rfl dX7_year_32 ?_
      refine gRX7_19 rfl kd_48 0 rfl dX7_year_33 ?_
      refine gRX7_124 rfl kd_0 2 rfl dX7_year_36 ?_
      refine T_iload_n 3 rfl rfl dX7_year_39 ?_
      refine T_iald kd_2 dX7_year_40 ?_
      refine T_iconst (1 : Int32) (by decide) dX7_year_41 ?_
      refine T_iadd dX7_year_42 ?_
      refine T_bipush (60 : Int32) (by decide) dX7_year_43 ?_
      refine T_mmin lmX7_165 (by decide) (Nat.le_of_ble_eq_true rfl) dX7_year_45 ?_
      refine T_iast _ rfl kd_2 dX7_year_48 ?_
      refine T_lt (fun m4 => ?_)
      refine T_aload_n 1 rfl rfl dX7_year_49 ?_
      refine gRX7_19 rfl kd_48 0 rfl dX7_year_50 ?_
      refine T_iload_n 3 rfl rfl dX7_year_53 ?_
      refine T_cVI (c := 4) [.int x2] [] mkX4_rankOfStep lmX7_130 rfl rfl (by decide) (Nat.le_of_ble_eq_true rfl) kd_0 dX7_year_54 (bsX4_rankOfStep _ 0 x2 m4 kd_0) (fun z6 m5 => ?_)
      refine T_iload_n 0 rfl rfl dX7_year_57 ?_
      refine T_icmp_eq 64 dX7_year_58 (by decide) (fun _ => ?_) (fun _ => ?_)
      · refine T_iinc (lv' := [(2, .int (x2 + (1 : Int32))), (3, .int z2), (0, .ref 48), (1, .int x1)]) 3 (1 : Int32) rfl (by decide) (Nat.le_of_ble_eq_true rfl) rfl dX7_year_64 ?_
        refine T_li (fun y8 => ?_)
        refine T_goto 4 dX7_year_67 (by decide) ?_
        exact T_sub [2, 3, 0] rfl (hk4 (x1, y8, m5))
      · refine T_iinc (lv' := [(1, .int (x1 + (1 : Int32))), (3, .int z2), (0, .ref 48), (2, .int x2)]) 2 (1 : Int32) rfl (by decide) (Nat.le_of_ble_eq_true rfl) rfl dX7_year_61 ?_
        refine T_li (fun y9 => ?_)
        refine T_iinc (lv' := [(2, .int (x2 + (1 : Int32))), (1, .int y9), (3, .int z2), (0, .ref 48)]) 3 (1 : Int32) rfl (by decide) (Nat.le_of_ble_eq_true rfl) rfl dX7_year_64 ?_
        refine T_li (fun y10 => ?_)
        refine T_goto 4 dX7_year_67 (by decide) ?_
        exact T_sub [3, 1, 0] rfl (hk4 (y9, y10, m5)))
def fX7_year  (m : mMem) : mR := lp (bX7_year_4 ) FU ((0 : Int32), (0 : Int32), m)
set_option maxRecDepth 100000 in
theorem bsX7_year (l : Launch)  (m : mMem)  : BS l qX7_year [.ref 48] m (fX7_year  m) := BS_of (by decide) (Nat.le_of_ble_eq_true rfl) (fun X _ => by
    show T qX7_year X (fX7_year  m) 0 [(0, .ref 48)] [] m
    unfold fX7_year
    refine T_iconst (0 : Int32) (by decide) dX7_year_0 ?_
    refine T_istore_n (lv' := [(1, .int (0 : Int32)), (0, .ref 48)]) rfl (Nat.le_of_ble_eq_true rfl) rfl dX7_year_1 ?_
    refine T_iconst (0 : Int32) (by decide) dX7_year_2 ?_
    refine T_istore_n (lv' := [(2, .int (0 : Int32)), (1, .int (0 : Int32)), (0, .ref 48)]) rfl (Nat.le_of_ble_eq_true rfl) rfl dX7_year_3 ?_
    exact T_sub [2, 1, 0] rfl (tX7_year_4 X   FU ((0 : Int32), (0 : Int32), m)))
theorem lmX7_238 : Cond.methodLink RX7 238 yX2_note ∈ gdL := gd_mem 766 (by decide +kernel) (by decide +kernel)
def fX7_see (x1 : Int32) (x2 : Int32) (m : mMem) : mR := bI (fX7_isStep x1 m) (fun z2 m1 => if z2 = (0 : Int32) then some (some (.int (-1 : Int32)), m1) else bI (fX7_within x2 (0 : Int32) (40 : Int32) m1) (fun z5 m4 => if z5 = (0 : Int32) then some (some (.int (-1 : Int32)), m4) else bI (fX2_note x1 x2 m4) (fun z8 m7 => some (some (.int z8), m7))))
set_option maxRecDepth 100000 in
theorem bsX7_see (l : Launch) (x1 : Int32) (x2 : Int32) (m : mMem)  : BS l qX7_see [.ref 48, .int x1, .int x2] m (fX7_see x1 x2 m) := BS_of (by decide) (Nat.le_of_ble_eq_true rfl) (fun X _ => by
    show T qX7_see X (fX7_see x1 x2 m) 0 [(0, .ref 48), (1, .int x1), (2, .int x2)] [] m
    unfold fX7_see
    refine T_aload_n 0 rfl rfl dX7_see_0 ?_
    refine T_iload_n 1 rfl rfl dX7_see_1 ?_
    refine T_cVI (c := 7) [.int x1] [] mkX7_isStep lmX7_116 rfl rfl (by decide) (Nat.le_of_ble_eq_true rfl) kd_48 dX7_see_2 (bsX7_isStep _ x1 m) (fun z2 m1 => ?_)
    refine T_if_eq 18 dX7_see_5 (by decide) (fun _ => ?_) (fun _ => ?_)
    · refine T_iconst (-1 : Int32) (by decide) dX7_see_18 ?_
      exact T_iret rfl dX7_see_19
    · refine T_iload_n 2 rfl rfl dX7_see_8 ?_
      refine T_iconst (0 : Int32) (by decide) dX7_see_9 ?_
      refine T_bipush (40 : Int32) (by decide) dX7_see_10 ?_
      refine T_cSI [.int x2, .int (0 : Int32), .int (40 : Int32)] [] mkX7_within lmX7_73 rfl (by decide) (Nat.le_of_ble_eq_true rfl) dX7_see_12 (bsX7_within _ x2 (0 : Int32) (40 : Int32) m1) (fun z5 m4 => ?_)
      refine T_if_ne 20 dX7_see_15 (by decide) (fun _ => ?_) (fun _ => ?_)
      · refine T_iconst (-1 : Int32) (by decide) dX7_see_18 ?_
        exact T_iret rfl dX7_see_19
      · refine T_aload_n 0 rfl rfl dX7_see_20 ?_
        refine gRX7_58 rfl kd_48 65 rfl dX7_see_21 ?_
        refine T_iload_n 1 rfl rfl dX7_see_24 ?_
        refine T_iload_n 2 rfl rfl dX7_see_25 ?_
        refine T_cVI (c := 2) [.int x1, .int x2] [] mkX2_note lmX7_238 rfl rfl (by decide) (Nat.le_of_ble_eq_true rfl) kd_65 dX7_see_26 (bsX2_note _ x1 x2 m4) (fun z8 m7 => ?_)
        exact T_iret rfl dX7_see_29)
theorem lmX7_91 : Cond.methodLink RX7 91 yX4_copyFrom ∈ gdL := gd_mem 475 (by decide +kernel) (by decide +kernel)
theorem lfX7_26 : Cond.fieldLink RX7 26 "RankStairs" "images" "[LRankStairs$House;" ∈ gdL := gd_mem 303 (by decide +kernel) (by decide +kernel)
theorem gRX7_26 {q : mMI} {X : mCx} {tgt : mR} {pc : Nat} {lv : List (Nat × Value)} {st : List Value} {μ : mMem} {b : Nat} (hq : q.1.cls = RX7) (hb : kd b = (7, 0)) (z : Nat) (hz : rf b 3 = z) (hd : decode q.2.1 pc = .ok (.getfield 26, 3)) (h : T q X tgt (pc + 3) lv (.ref z :: st) μ) : T q X tgt pc lv (.ref b :: st) μ := T_getR (c := 7) rfl (by decide) rfl (by decide) (by rw [hq]; exact lfX7_26) hb z hz hd h
def jX7_keep_25 (x1 : Int32) (xs0 : Int32) (m : mMem) : mR := ga x1 2 (bV (fX4_copyFrom (rf 52 (x1).toNatClampNeg) 0 m) (fun m5 => ga x1 2 (lt (si m5 53 (x1).toNatClampNeg (1 : Int32)) (fun m6 => some (some (.int xs0), m6)))))
set_option maxRecDepth 100000 in
theorem uX7_keep_25 (X : mCx) (x1 : Int32) (xs0 : Int32) (m : mMem)  : T qX7_keep X (jX7_keep_25 x1 xs0 m) 25 [(0, .ref 48), (1, .int x1)] [.int xs0] m := by
  unfold jX7_keep_25
  refine T_istore_n (lv' := [(2, .int xs0), (0, .ref 48), (1, .int x1)]) rfl (Nat.le_of_ble_eq_true rfl) rfl dX7_keep_25 ?_
  refine T_aload_n 1 rfl rfl dX7_keep_26 ?_
  refine gRX7_26 rfl kd_48 52 rfl dX7_keep_27 ?_
  refine T_iload_n 2 rfl rfl dX7_keep_30 ?_
  refine T_aaldH kd_52 dX7_keep_31 (fun hv4 => ?_)
  refine T_aload_n 1 rfl rfl dX7_keep_32 ?_
  refine gRX7_19 rfl kd_48 0 rfl dX7_keep_33 ?_
  refine T_cVV (c := 4) [.ref 0] [] mkX4_copyFrom lmX7_91 rfl rfl (by decide) (Nat.le_of_ble_eq_true rfl) (kdA52 hv4) dX7_keep_36 (bsX4_copyFrom _ (rf 52 (x1).toNatClampNeg) 0 m (kdA52 hv4) kd_0) (fun m5 => ?_)
  refine T_aload_n 1 rfl rfl dX7_keep_39 ?_
  refine gRX7_30 rfl kd_48 53 rfl dX7_keep_40 ?_
  refine T_iload_n 2 rfl rfl dX7_keep_43 ?_
  refine T_iconst (1 : Int32) (by decide) dX7_keep_44 ?_
  refine T_zast (1 : Int32) (by decide) kd_53 dX7_keep_45 ?_
  refine T_lt (fun m6 => ?_)
  refine T_iload_n 0 rfl rfl dX7_keep_46 ?_
  exact T_iret rfl dX7_keep_47
def fX7_keep (x1 : Int32) (m : mMem) : mR := bI (fX7_within x1 (0 : Int32) (1 : Int32) m) (fun z2 m1 => if z2 = (0 : Int32) then some (some (.int (-1 : Int32)), m1) else ga x1 2 (if (m1.1 53 (x1).toNatClampNeg) = (0 : Int32) then jX7_keep_25 x1 (0 : Int32) m1 else jX7_keep_25 x1 (1 : Int32) m1))
set_option maxRecDepth 100000 in
theorem bsX7_keep (l : Launch) (x1 : Int32) (m : mMem)  : BS l qX7_keep [.ref 48, .int x1] m (fX7_keep x1 m) := BS_of (by decide) (Nat.le_of_ble_eq_true rfl) (fun X _ => by
    show T qX7_keep X (fX7_keep x1 m) 0 [(0, .ref 48), (1, .int x1)] [] m
    unfold fX7_keep
    refine T_iload_n 1 rfl rfl dX7_keep_0 ?_
    refine T_iconst (0 : Int32) (by decide) dX7_keep_1 ?_
    refine T_iconst (1 : Int32) (by decide) dX7_keep_2 ?_
    refine T_cSI [.int x1, .int (0 : Int32), .int (1 : Int32)] [] mkX7_within lmX7_73 rfl (by decide) (Nat.le_of_ble_eq_true rfl) dX7_keep_3 (bsX7_within _ x1 (0 : Int32) (1 : Int32) m) (fun z2 m1 => ?_)
    refine T_if_ne 11 dX7_keep_6 (by decide) (fun _ => ?_) (fun _ => ?_)
    · refine T_iconst (-1 : Int32) (by decide) dX7_keep_9 ?_
      exact T_iret rfl dX7_keep_10
    · refine T_aload_n 0 rfl rfl dX7_keep_11 ?_
      refine gRX7_30 rfl kd_48 53 rfl dX7_keep_12 ?_
      refine T_iload_n 1 rfl rfl dX7_keep_15 ?_
      refine T_zald kd_53 dX7_keep_16 ?_
      refine T_if_eq 24 dX7_keep_17 (by decide) (fun _ => ?_) (fun _ => ?_)
      · refine T_iconst (0 : Int32) (by decide) dX7_keep_24 ?_
        exact T_sub [0, 1] rfl (uX7_keep_25 X x1 (0 : Int32) m1 )
      · refine T_iconst (1 : Int32) (by decide) dX7_keep_20 ?_
        refine T_goto 25 dX7_keep_21 (by decide) ?_
        exact T_sub [0, 1] rfl (uX7_keep_25 X x1 (1 : Int32) m1 ))
def fX7_back (x1 : Int32) (m : mMem) : mR := bI (fX7_within x1 (0 : Int32) (1 : Int32) m) (fun z2 m1 => if z2 = (0 : Int32) then some (some (.int (-1 : Int32)), m1) else ga x1 2 (if (m1.1 53 (x1).toNatClampNeg) = (0 : Int32) then some (some (.int (-2 : Int32)), m1) else ga x1 2 (bV (fX4_copyFrom 0 (rf 52 (x1).toNatClampNeg) m1) (fun m5 => some (some (.int (m5.1 0 4)), m5)))))
set_option maxRecDepth 100000 in
theorem bsX7_back (l : Launch) (x1 : Int32) (m : mMem)  : BS l qX7_back [.ref 48, .int x1] m (fX7_back x1 m) := BS_of (by decide) (Nat.le_of_ble_eq_true rfl) (fun X _ => by
    show T qX7_back X (fX7_back x1 m) 0 [(0, .ref 48), (1, .int x1)] [] m
    unfold fX7_back
    refine T_iload_n 1 rfl rfl dX7_back_0 ?_
    refine T_iconst (0 : Int32) (by decide) dX7_back_1 ?_
    refine T_iconst (1 : Int32) (by decide) dX7_back_2 ?_
    refine T_cSI [.int x1, .int (0 : Int32), .int (1 : Int32)] [] mkX7_within lmX7_73 rfl (by decide) (Nat.le_of_ble_eq_true rfl) dX7_back_3 (bsX7_within _ x1 (0 : Int32) (1 : Int32) m) (fun z2 m1 => ?_)
    refine T_if_ne 11 dX7_back_6 (by decide) (fun _ => ?_) (fun _ => ?_)
    · refine T_iconst (-1 : Int32) (by decide) dX7_back_9 ?_
      exact T_iret rfl dX7_back_10
    · refine T_aload_n 0 rfl rfl dX7_back_11 ?_
      refine gRX7_30 rfl kd_48 53 rfl dX7_back_12 ?_
      refine T_iload_n 1 rfl rfl dX7_back_15 ?_
      refine T_zald kd_53 dX7_back_16 ?_
      refine T_if_ne 23 dX7_back_17 (by decide) (fun _ => ?_) (fun _ => ?_)
      · refine T_bipush (-2 : Int32) (by decide) dX7_back_20 ?_
        exact T_iret rfl dX7_back_22
      · refine T_aload_n 0 rfl rfl dX7_back_23 ?_
        refine gRX7_19 rfl kd_48 0 rfl dX7_back_24 ?_
        refine T_aload_n 0 rfl rfl dX7_back_27 ?_
        refine gRX7_26 rfl kd_48 52 rfl dX7_back_28 ?_
        refine T_iload_n 1 rfl rfl dX7_back_31 ?_
        refine T_aaldH kd_52 dX7_back_32 (fun hv4 => ?_)
        refine T_cVV (c := 4) [.ref (rf 52 (x1).toNatClampNeg)] [] mkX4_copyFrom lmX7_91 rfl rfl (by decide) (Nat.le_of_ble_eq_true rfl) kd_0 dX7_back_33 (bsX4_copyFrom _ 0 (rf 52 (x1).toNatClampNeg) m1 kd_0 (kdA52 hv4)) (fun m5 => ?_)
        refine T_aload_n 0 rfl rfl dX7_back_36 ?_
        refine gRX7_19 rfl kd_48 0 rfl dX7_back_37 ?_
        refine gIX7_113 rfl kd_0 dX7_back_40 ?_
        exact T_iret rfl dX7_back_43)
theorem lmX7_252 : Cond.methodLink RX7 252 yX7_isSheet ∈ gdL := gd_mem 825 (by decide +kernel) (by decide +kernel)
theorem lmX7_255 : Cond.methodLink RX7 255 yX7_isLane ∈ gdL := gd_mem 828 (by decide +kernel) (by decide +kernel)
theorem lmX7_258 : Cond.methodLink RX7 258 yX5_renew ∈ gdL := gd_mem 831 (by decide +kernel) (by decide +kernel)
theorem lfX7_64 : Cond.fieldLink RX7 64 "RankStairs" "sheets" "[LRankStairs$Sheet;" ∈ gdL := gd_mem 309 (by decide +kernel) (by decide +kernel)
theorem gRX7_64 {q : mMI} {X : mCx} {tgt : mR} {pc : Nat} {lv : List (Nat × Value)} {st : List Value} {μ : mMem} {b : Nat} (hq : q.1.cls = RX7) (hb : kd b = (7, 0)) (z : Nat) (hz : rf b 9 = z) (hd : decode q.2.1 pc = .ok (.getfield 64, 3)) (h : T q X tgt (pc + 3) lv (.ref z :: st) μ) : T q X tgt pc lv (.ref b :: st) μ := T_getR (c := 7) rfl (by decide) rfl (by decide) (by rw [hq]; exact lfX7_64) hb z hz hd h
def fX7_sheet (x1 : Int32) (x2 : Int32) (x3 : Int32) (m : mMem) : mR := bI (fX7_isSheet x1 m) (fun z2 m1 => if z2 = (0 : Int32) then some (some (.int (-1 : Int32)), m1) else bI (fX7_isLane x2 m1) (fun z5 m4 => if z5 = (0 : Int32) then some (some (.int (-1 : Int32)), m4) else if x3 ≤ (40 : Int32) then if (0 : Int32) ≤ x3 then ga x1 4 (bV (fX5_renew (rf 80 (x1).toNatClampNeg) x2 x3 m4) (fun m8 => some (some (.int (1 : Int32)), m8))) else some (some (.int (-14 : Int32)), m4) else some (some (.int (-1 : Int32)), m4)))
set_option maxRecDepth 100000 in
theorem bsX7_sheet (l : Launch) (x1 : Int32) (x2 : Int32) (x3 : Int32) (m : mMem)  : BS l qX7_sheet [.ref 48, .int x1, .int x2, .int x3] m (fX7_sheet x1 x2 x3 m) := BS_of (by decide) (Nat.le_of_ble_eq_true rfl) (fun X _ => by
    show T qX7_sheet X (fX7_sheet x1 x2 x3 m) 0 [(0, .ref 48), (1, .int x1), (2, .int x2), (3, .int x3)] [] m
    unfold fX7_sheet
    refine T_iload_n 1 rfl rfl dX7_sheet_0 ?_
    refine T_cSI [.int x1] [] mkX7_isSheet lmX7_252 rfl (by decide) (Nat.le_of_ble_eq_true rfl) dX7_sheet_1 (bsX7_isSheet _ x1 m) (fun z2 m1 => ?_)
    refine T_if_eq 20 dX7_sheet_4 (by decide) (fun _ => ?_) (fun _ => ?_)
    · refine T_iconst (-1 : Int32) (by decide) dX7_sheet_20 ?_
      exact T_iret rfl dX7_sheet_21
    · refine T_iload_n 2 rfl rfl dX7_sheet_7 ?_
      refine T_cSI [.int x2] [] mkX7_isLane lmX7_255 rfl (by decide) (Nat.le_of_ble_eq_true rfl) dX7_sheet_8 (bsX7_isLane _ x2 m1) (fun z5 m4 => ?_)
      refine T_if_eq 20 dX7_sheet_11 (by decide) (fun _ => ?_) (fun _ => ?_)
      · refine T_iconst (-1 : Int32) (by decide) dX7_sheet_20 ?_
        exact T_iret rfl dX7_sheet_21
      · refine T_iload_n 3 rfl rfl dX7_sheet_14 ?_
        refine T_bipush (40 : Int32) (by decide) dX7_sheet_15 ?_
        refine T_icmp_le 22 dX7_sheet_17 (by decide) (fun _ => ?_) (fun _ => ?_)
        · refine T_iload_n 3 rfl rfl dX7_sheet_22 ?_
          refine T_if_ge 29 dX7_sheet_23 (by decide) (fun _ => ?_) (fun _ => ?_)
          · refine T_aload_n 0 rfl rfl dX7_sheet_29 ?_
            refine gRX7_64 rfl kd_48 80 rfl dX7_sheet_30 ?_
            refine T_iload_n 1 rfl rfl dX7_sheet_33 ?_
            refine T_aaldS kd_80 dX7_sheet_34 (fun hv7 => ?_)
            refine T_iload_n 2 rfl rfl dX7_sheet_35 ?_
            refine T_iload_n 3 rfl rfl dX7_sheet_36 ?_
            refine T_cVV (c := 5) [.int x2, .int x3] [] mkX5_renew lmX7_258 rfl rfl (by decide) (Nat.le_of_ble_eq_true rfl) (kdA80 hv7) dX7_sheet_37 (bsX5_renew _ (rf 80 (x1).toNatClampNeg) x2 x3 m4 (kdA80 hv7)) (fun m8 => ?_)
            refine T_iconst (1 : Int32) (by decide) dX7_sheet_40 ?_
            exact T_iret rfl dX7_sheet_41
          · refine T_bipush (-14 : Int32) (by decide) dX7_sheet_26 ?_
            exact T_iret rfl dX7_sheet_28
        · refine T_iconst (-1 : Int32) (by decide) dX7_sheet_20 ?_
          exact T_iret rfl dX7_sheet_21)
theorem lmX7_261 : Cond.methodLink RX7 261 yX5_faultAt ∈ gdL := gd_mem 840 (by decide +kernel) (by decide +kernel)
theorem lmX7_264 : Cond.methodLink RX7 264 yX5_put ∈ gdL := gd_mem 848 (by decide +kernel) (by decide +kernel)
def fX7_lay (x1 : Int32) (x2 : Int32) (x3 : Int32) (m : mMem) : mR := bI (fX7_isSheet x1 m) (fun z2 m1 => if z2 = (0 : Int32) then some (some (.int (-1 : Int32)), m1) else ga x1 4 (bI (fX5_faultAt (rf 80 (x1).toNatClampNeg) x2 m1) (fun z6 m5 => if z6 = (0 : Int32) then ga x1 4 (bV (fX5_put (rf 80 (x1).toNatClampNeg) x2 x3 m5) (fun m9 => some (some (.int (1 : Int32)), m9))) else some (some (.int ((-10 : Int32) - z6)), m5))))
set_option maxRecDepth 100000 in
theorem bsX7_lay (l : Launch) (x1 : Int32) (x2 : Int32) (x3 : Int32) (m : mMem)  : BS l qX7_lay [.ref 48, .int x1, .int x2, .int x3] m (fX7_lay x1 x2 x3 m) := BS_of (by decide) (Nat.le_of_ble_eq_true rfl) (fun X _ => by
    show T qX7_lay X (fX7_lay x1 x2 x3 m) 0 [(0, .ref 48), (1, .int x1), (2, .int x2), (3, .int x3)] [] m
    unfold fX7_lay
    refine T_iload_n 1 rfl rfl dX7_lay_0 ?_
    refine T_cSI [.int x1] [] mkX7_isSheet lmX7_252 rfl (by decide) (Nat.le_of_ble_eq_true rfl) dX7_lay_1 (bsX7_isSheet _ x1 m) (fun z2 m1 => ?_)
    refine T_if_ne 9 dX7_lay_4 (by decide) (fun _ => ?_) (fun _ => ?_)
    · refine T_iconst (-1 : Int32) (by decide) dX7_lay_7 ?_
      exact T_iret rfl dX7_lay_8
    · refine T_aload_n 0 rfl rfl dX7_lay_9 ?_
      refine gRX7_64 rfl kd_48 80 rfl dX7_lay_10 ?_
      refine T_iload_n 1 rfl rfl dX7_lay_13 ?_
      refine T_aaldS kd_80 dX7_lay_14 (fun hv4 => ?_)
      refine T_iload_n 2 rfl rfl dX7_lay_15 ?_
      refine T_cVI (c := 5) [.int x2] [] mkX5_faultAt lmX7_261 rfl rfl (by decide) (Nat.le_of_ble_eq_true rfl) (kdA80 hv4) dX7_lay_16 (bsX5_faultAt _ (rf 80 (x1).toNatClampNeg) x2 m1 (kdA80 hv4)) (fun z6 m5 => ?_)
      refine T_istore (lv' := [(4, .int z6), (0, .ref 48), (1, .int x1), (2, .int x2), (3, .int x3)]) (Nat.le_of_ble_eq_true rfl) rfl dX7_lay_19 ?_
      refine T_iload 0 rfl dX7_lay_21 ?_
      refine T_if_eq 32 dX7_lay_23 (by decide) (fun _ => ?_) (fun _ => ?_)
      · refine T_aload_n 1 rfl rfl dX7_lay_32 ?_
        refine gRX7_64 rfl kd_48 80 rfl dX7_lay_33 ?_
        refine T_iload_n 2 rfl rfl dX7_lay_36 ?_
        refine T_aaldS kd_80 dX7_lay_37 (fun hv8 => ?_)
        refine T_iload_n 3 rfl rfl dX7_lay_38 ?_
        refine T_iload_n 4 rfl rfl dX7_lay_39 ?_
        refine T_cVV (c := 5) [.int x2, .int x3] [] mkX5_put lmX7_264 rfl rfl (by decide) (Nat.le_of_ble_eq_true rfl) (kdA80 hv8) dX7_lay_40 (bsX5_put _ (rf 80 (x1).toNatClampNeg) x2 x3 m5 (kdA80 hv8)) (fun m9 => ?_)
        refine T_iconst (1 : Int32) (by decide) dX7_lay_43 ?_
        exact T_iret rfl dX7_lay_44
      · refine T_bipush (-10 : Int32) (by decide) dX7_lay_26 ?_
        refine T_iload 0 rfl dX7_lay_28 ?_
        refine T_isub dX7_lay_30 ?_
        exact T_iret rfl dX7_lay_31)
theorem lmX7_151 : Cond.methodLink RX7 151 yX4_reachOf ∈ gdL := gd_mem 521 (by decide +kernel) (by decide +kernel)
theorem lmX7_154 : Cond.methodLink RX7 154 yX4_treadBits ∈ gdL := gd_mem 532 (by decide +kernel) (by decide +kernel)
theorem lfX7_139 : Cond.fieldLink RX7 139 "RankStairs$House" "legsOf" "[I" ∈ gdL := gd_mem 154 (by decide +kernel) (by decide +kernel)
theorem gRX7_139 {q : mMI} {X : mCx} {tgt : mR} {pc : Nat} {lv : List (Nat × Value)} {st : List Value} {μ : mMem} {b : Nat} (hq : q.1.cls = RX7) (hb : kd b = (4, 0)) (z : Nat) (hz : rf b 8 = z) (hd : decode q.2.1 pc = .ok (.getfield 139, 3)) (h : T q X tgt (pc + 3) lv (.ref z :: st) μ) : T q X tgt pc lv (.ref b :: st) μ := T_getR (c := 4) rfl (by decide) rfl (by decide) (by rw [hq]; exact lfX7_139) hb z hz hd h
def fX7_lodger (x1 : Int32) (x2 : Int32) (m : mMem) : mR := bI (fX7_isLodger x1 m) (fun z2 m1 => if z2 = (0 : Int32) then some (some (.int (-1 : Int32)), m1) else if x2 = (0 : Int32) then ga x1 4 (some (some (.int (m1.1 4 (x1).toNatClampNeg)), m1)) else if x2 = (1 : Int32) then ga x1 4 (some (some (.int (m1.1 5 (x1).toNatClampNeg)), m1)) else if x2 = (2 : Int32) then ga x1 4 (some (some (.int (m1.1 6 (x1).toNatClampNeg)), m1)) else if x2 = (3 : Int32) then ga x1 4 (some (some (.int (m1.1 7 (x1).toNatClampNeg)), m1)) else if x2 = (4 : Int32) then bI (fX4_reachOf 0 x1 m1) (fun z5 m4 => some (some (.int z5), m4)) else if x2 = (5 : Int32) then bI (fX4_treadBits 0 x1 m1) (fun z8 m7 => some (some (.int z8), m7)) else some (some (.int (-1 : Int32)), m1))
set_option maxRecDepth 100000 in
theorem bsX7_lodger (l : Launch) (x1 : Int32) (x2 : Int32) (m : mMem)  : BS l qX7_lodger [.ref 48, .int x1, .int x2] m (fX7_lodger x1 x2 m) := BS_of (by decide) (Nat.le_of_ble_eq_true rfl) (fun X _ => by
    show T qX7_lodger X (fX7_lodger x1 x2 m) 0 [(0, .ref 48), (1, .int x1), (2, .int x2)] [] m
    unfold fX7_lodger
    refine T_aload_n 0 rfl rfl dX7_lodger_0 ?_
    refine T_iload_n 1 rfl rfl dX7_lodger_1 ?_
    refine T_cVI (c := 7) [.int x1] [] mkX7_isLodger lmX7_136 rfl rfl (by decide) (Nat.le_of_ble_eq_true rfl) kd_48 dX7_lodger_2 (bsX7_isLodger _ x1 m) (fun z2 m1 => ?_)
    refine T_if_ne 10 dX7_lodger_5 (by decide) (fun _ => ?_) (fun _ => ?_)
    · refine T_iconst (-1 : Int32) (by decide) dX7_lodger_8 ?_
      exact T_iret rfl dX7_lodger_9
    · refine T_iload_n 2 rfl rfl dX7_lodger_10 ?_
      refine T_ite (fun hc => ?_) (fun hn0 => ?_)
      · refine T_tsIn (0 : Int32) 48 hc dX7_lodger_11 (by decide) (by decide) rfl (by decide) ?_
        refine T_aload_n 0 rfl rfl dX7_lodger_48 ?_
        refine gRX7_19 rfl kd_48 0 rfl dX7_lodger_49 ?_
        refine gRX7_139 rfl kd_0 4 rfl dX7_lodger_52 ?_
        refine T_iload_n 1 rfl rfl dX7_lodger_55 ?_
        refine T_iald kd_4 dX7_lodger_56 ?_
        exact T_iret rfl dX7_lodger_57
      · refine T_ite (fun hc => ?_) (fun hn1 => ?_)
        · refine T_tsIn (1 : Int32) 58 hc dX7_lodger_11 (by decide) (by decide) rfl (by decide) ?_
          refine T_aload_n 0 rfl rfl dX7_lodger_58 ?_
          refine gRX7_19 rfl kd_48 0 rfl dX7_lodger_59 ?_
          refine gRX7_142 rfl kd_0 5 rfl dX7_lodger_62 ?_
          refine T_iload_n 1 rfl rfl dX7_lodger_65 ?_
          refine T_iald kd_5 dX7_lodger_66 ?_
          exact T_iret rfl dX7_lodger_67
        · refine T_ite (fun hc => ?_) (fun hn2 => ?_)
          · refine T_tsIn (2 : Int32) 68 hc dX7_lodger_11 (by decide) (by decide) rfl (by decide) ?_
            refine T_aload_n 0 rfl rfl dX7_lodger_68 ?_
            refine gRX7_19 rfl kd_48 0 rfl dX7_lodger_69 ?_
            refine gRX7_145 rfl kd_0 6 rfl dX7_lodger_72 ?_
            refine T_iload_n 1 rfl rfl dX7_lodger_75 ?_
            refine T_iald kd_6 dX7_lodger_76 ?_
            exact T_iret rfl dX7_lodger_77
          · refine T_ite (fun hc => ?_) (fun hn3 => ?_)
            · refine T_tsIn (3 : Int32) 78 hc dX7_lodger_11 (by decide) (by decide) rfl (by decide) ?_
              refine T_aload_n 0 rfl rfl dX7_lodger_78 ?_
              refine gRX7_19 rfl kd_48 0 rfl dX7_lodger_79 ?_
              refine gRX7_148 rfl kd_0 7 rfl dX7_lodger_82 ?_
              refine T_iload_n 1 rfl rfl dX7_lodger_85 ?_
              refine T_iald kd_7 dX7_lodger_86 ?_
              exact T_iret rfl dX7_lodger_87
            · refine T_ite (fun hc => ?_) (fun hn4 => ?_)
              · refine T_tsIn (4 : Int32) 88 hc dX7_lodger_11 (by decide) (by decide) rfl (by decide) ?_
                refine T_aload_n 0 rfl rfl dX7_lodger_88 ?_
                refine gRX7_19 rfl kd_48 0 rfl dX7_lodger_89 ?_
                refine T_iload_n 1 rfl rfl dX7_lodger_92 ?_
                refine T_cVI (c := 4) [.int x1] [] mkX4_reachOf lmX7_151 rfl rfl (by decide) (Nat.le_of_ble_eq_true rfl) kd_0 dX7_lodger_93 (bsX4_reachOf _ 0 x1 m1 kd_0) (fun z5 m4 => ?_)
                exact T_iret rfl dX7_lodger_96
              · refine T_ite (fun hc => ?_) (fun hn5 => ?_)
                · refine T_tsIn (5 : Int32) 97 hc dX7_lodger_11 (by decide) (by decide) rfl (by decide) ?_
                  refine T_aload_n 0 rfl rfl dX7_lodger_97 ?_
                  refine gRX7_19 rfl kd_48 0 rfl dX7_lodger_98 ?_
                  refine T_iload_n 1 rfl rfl dX7_lodger_101 ?_
                  refine T_cVI (c := 4) [.int x1] [] mkX4_treadBits lmX7_154 rfl rfl (by decide) (Nat.le_of_ble_eq_true rfl) kd_0 dX7_lodger_102 (bsX4_treadBits _ 0 x1 m1 kd_0) (fun z8 m7 => ?_)
                  exact T_iret rfl dX7_lodger_105
                · refine T_tsOut 106 (by have e0 := neT (k := 0) hn0 (by decide); have e1 := neT (k := 1) hn1 (by decide); have e2 := neT (k := 2) hn2 (by decide); have e3 := neT (k := 3) hn3 (by decide); have e4 := neT (k := 4) hn4 (by decide); have e5 := neT (k := 5) hn5 (by decide); omega) dX7_lodger_11 (by decide) ?_
                  refine T_iconst (-1 : Int32) (by decide) dX7_lodger_106 ?_
                  exact T_iret rfl dX7_lodger_107)
theorem lmX7_171 : Cond.methodLink RX7 171 yX1_shortest ∈ gdL := gd_mem 589 (by decide +kernel) (by decide +kernel)
theorem lmX7_175 : Cond.methodLink RX7 175 yJ6_bitCount_0f7a4 ∈ gdL := gd_mem 610 (by decide +kernel) (by decide +kernel)
theorem lmX7_180 : Cond.methodLink RX7 180 yX7_stepOfPath ∈ gdL := gd_mem 611 (by decide +kernel) (by decide +kernel)
theorem lfX7_37 : Cond.fieldLink RX7 37 "RankStairs" "climber" "LRankStairs$Climber;" ∈ gdL := gd_mem 305 (by decide +kernel) (by decide +kernel)
theorem gRX7_37 {q : mMI} {X : mCx} {tgt : mR} {pc : Nat} {lv : List (Nat × Value)} {st : List Value} {μ : mMem} {b : Nat} (hq : q.1.cls = RX7) (hb : kd b = (7, 0)) (z : Nat) (hz : rf b 5 = z) (hd : decode q.2.1 pc = .ok (.getfield 37, 3)) (h : T q X tgt (pc + 3) lv (.ref z :: st) μ) : T q X tgt pc lv (.ref b :: st) μ := T_getR (c := 7) rfl (by decide) rfl (by decide) (by rw [hq]; exact lfX7_37) hb z hz hd h
def jX7_climb_29 (x1 : Int32) (x2 : Int32) (x3 : Int32) (m : mMem) : mR := bI (fX1_shortest 0 x1 m) (fun z6 m5 => if z6 = (0 : Int32) then some (some (.int (-4 : Int32)), m5) else if x2 = (0 : Int32) then bI (fJ6_bitCount_0f7a4 z6 m5) (fun z9 m8 => some (some (.int z9), m8)) else bI (fX7_stepOfPath z6 x3 m5) (fun z12 m11 => some (some (.int z12), m11)))
set_option maxRecDepth 100000 in
theorem uX7_climb_29 (X : mCx) (x1 : Int32) (x2 : Int32) (x3 : Int32) (m : mMem)  : T qX7_climb X (jX7_climb_29 x1 x2 x3 m) 29 [(0, .ref 48), (1, .int x1), (2, .int x2), (3, .int x3)] [] m := by
  unfold jX7_climb_29
  refine T_aload_n 0 rfl rfl dX7_climb_29 ?_
  refine gRX7_37 rfl kd_48 54 rfl dX7_climb_30 ?_
  refine T_aload_n 0 rfl rfl dX7_climb_33 ?_
  refine gRX7_19 rfl kd_48 0 rfl dX7_climb_34 ?_
  refine T_iload_n 1 rfl rfl dX7_climb_37 ?_
  refine T_cVI (c := 1) [.ref 0, .int x1] [] mkX1_shortest lmX7_171 rfl rfl (by decide) (Nat.le_of_ble_eq_true rfl) kd_54 dX7_climb_38 (bsX1_shortest _ 0 x1 m kd_0) (fun z6 m5 => ?_)
  refine T_istore (lv' := [(4, .int z6), (0, .ref 48), (1, .int x1), (2, .int x2), (3, .int x3)]) (Nat.le_of_ble_eq_true rfl) rfl dX7_climb_41 ?_
  refine T_iload 0 rfl dX7_climb_43 ?_
  refine T_if_ne 51 dX7_climb_45 (by decide) (fun _ => ?_) (fun _ => ?_)
  · refine T_bipush (-4 : Int32) (by decide) dX7_climb_48 ?_
    exact T_iret rfl dX7_climb_50
  · refine T_iload_n 3 rfl rfl dX7_climb_51 ?_
    refine T_if_ne 63 dX7_climb_52 (by decide) (fun _ => ?_) (fun _ => ?_)
    · refine T_iload 0 rfl dX7_climb_55 ?_
      refine T_cSI [.int z6] [] mkJ6_bitCount_0f7a4 lmX7_175 rfl (by decide) (Nat.le_of_ble_eq_true rfl) dX7_climb_57 (bsJ6_bitCount_0f7a4 _ z6 m5) (fun z9 m8 => ?_)
      refine T_goto 69 dX7_climb_60 (by decide) ?_
      exact T_iret rfl dX7_climb_69
    · refine T_iload 0 rfl dX7_climb_63 ?_
      refine T_iload_n 4 rfl rfl dX7_climb_65 ?_
      refine T_cSI [.int z6, .int x3] [] mkX7_stepOfPath lmX7_180 rfl (by decide) (Nat.le_of_ble_eq_true rfl) dX7_climb_66 (bsX7_stepOfPath _ z6 x3 m5) (fun z12 m11 => ?_)
      exact T_iret rfl dX7_climb_69
def fX7_climb (x1 : Int32) (x2 : Int32) (m : mMem) : mR := li (x2 - (10 : Int32)) (fun y1 => bI (fX7_isLodger x1 m) (fun z3 m2 => if z3 = (0 : Int32) then some (some (.int (-1 : Int32)), m2) else if x2 = (0 : Int32) then jX7_climb_29 x1 x2 y1 m2 else bI (fX7_within y1 (0 : Int32) (9 : Int32) m2) (fun z15 m14 => if z15 = (0 : Int32) then some (some (.int (-1 : Int32)), m14) else jX7_climb_29 x1 x2 y1 m14)))
set_option maxRecDepth 100000 in
theorem bsX7_climb (l : Launch) (x1 : Int32) (x2 : Int32) (m : mMem)  : BS l qX7_climb [.ref 48, .int x1, .int x2] m (fX7_climb x1 x2 m) := BS_of (by decide) (Nat.le_of_ble_eq_true rfl) (fun X _ => by
    show T qX7_climb X (fX7_climb x1 x2 m) 0 [(0, .ref 48), (1, .int x1), (2, .int x2)] [] m
    unfold fX7_climb
    refine T_iload_n 2 rfl rfl dX7_climb_0 ?_
    refine T_bipush (10 : Int32) (by decide) dX7_climb_1 ?_
    refine T_isub dX7_climb_3 ?_
    refine T_istore_n (lv' := [(3, .int (x2 - (10 : Int32))), (0, .ref 48), (1, .int x1), (2, .int x2)]) rfl (Nat.le_of_ble_eq_true rfl) rfl dX7_climb_4 ?_
    refine T_li (fun y1 => ?_)
    refine T_aload_n 1 rfl rfl dX7_climb_5 ?_
    refine T_iload_n 2 rfl rfl dX7_climb_6 ?_
    refine T_cVI (c := 7) [.int x1] [] mkX7_isLodger lmX7_136 rfl rfl (by decide) (Nat.le_of_ble_eq_true rfl) kd_48 dX7_climb_7 (bsX7_isLodger _ x1 m) (fun z3 m2 => ?_)
    refine T_if_eq 27 dX7_climb_10 (by decide) (fun _ => ?_) (fun _ => ?_)
    · refine T_iconst (-1 : Int32) (by decide) dX7_climb_27 ?_
      exact T_iret rfl dX7_climb_28
    · refine T_iload_n 3 rfl rfl dX7_climb_13 ?_
      refine T_if_eq 29 dX7_climb_14 (by decide) (fun _ => ?_) (fun _ => ?_)
      · exact T_sub [1, 2, 3, 0] rfl (uX7_climb_29 X x1 x2 y1 m2 )
      · refine T_iload_n 0 rfl rfl dX7_climb_17 ?_
        refine T_iconst (0 : Int32) (by decide) dX7_climb_18 ?_
        refine T_bipush (9 : Int32) (by decide) dX7_climb_19 ?_
        refine T_cSI [.int y1, .int (0 : Int32), .int (9 : Int32)] [] mkX7_within lmX7_73 rfl (by decide) (Nat.le_of_ble_eq_true rfl) dX7_climb_21 (bsX7_within _ y1 (0 : Int32) (9 : Int32) m2) (fun z15 m14 => ?_)
        refine T_if_ne 29 dX7_climb_24 (by decide) (fun _ => ?_) (fun _ => ?_)
        · refine T_iconst (-1 : Int32) (by decide) dX7_climb_27 ?_
          exact T_iret rfl dX7_climb_28
        · exact T_sub [1, 2, 3, 0] rfl (uX7_climb_29 X x1 x2 y1 m14 ))
theorem lmX7_183 : Cond.methodLink RX7 183 yX1_countClimbs ∈ gdL := gd_mem 622 (by decide +kernel) (by decide +kernel)
def fX7_ways (x1 : Int32) (m : mMem) : mR := bI (fX7_isLodger x1 m) (fun z2 m1 => if z2 = (0 : Int32) then some (some (.int (-1 : Int32)), m1) else bI (fX1_countClimbs 0 x1 m1) (fun z5 m4 => some (some (.int z5), m4)))
set_option maxRecDepth 100000 in
theorem bsX7_ways (l : Launch) (x1 : Int32) (m : mMem)  : BS l qX7_ways [.ref 48, .int x1] m (fX7_ways x1 m) := BS_of (by decide) (Nat.le_of_ble_eq_true rfl) (fun X _ => by
    show T qX7_ways X (fX7_ways x1 m) 0 [(0, .ref 48), (1, .int x1)] [] m
    unfold fX7_ways
    refine T_aload_n 0 rfl rfl dX7_ways_0 ?_
    refine T_iload_n 1 rfl rfl dX7_ways_1 ?_
    refine T_cVI (c := 7) [.int x1] [] mkX7_isLodger lmX7_136 rfl rfl (by decide) (Nat.le_of_ble_eq_true rfl) kd_48 dX7_ways_2 (bsX7_isLodger _ x1 m) (fun z2 m1 => ?_)
    refine T_if_eq 23 dX7_ways_5 (by decide) (fun _ => ?_) (fun _ => ?_)
    · refine T_iconst (-1 : Int32) (by decide) dX7_ways_23 ?_
      exact T_iret rfl dX7_ways_24
    · refine T_aload_n 0 rfl rfl dX7_ways_8 ?_
      refine gRX7_37 rfl kd_48 54 rfl dX7_ways_9 ?_
      refine T_aload_n 0 rfl rfl dX7_ways_12 ?_
      refine gRX7_19 rfl kd_48 0 rfl dX7_ways_13 ?_
      refine T_iload_n 1 rfl rfl dX7_ways_16 ?_
      refine T_cVI (c := 1) [.ref 0, .int x1] [] mkX1_countClimbs lmX7_183 rfl rfl (by decide) (Nat.le_of_ble_eq_true rfl) kd_54 dX7_ways_17 (bsX1_countClimbs _ 0 x1 m1 kd_0) (fun z5 m4 => ?_)
      refine T_goto 24 dX7_ways_20 (by decide) ?_
      exact T_iret rfl dX7_ways_24)
theorem lmX7_186 : Cond.methodLink RX7 186 yX4_getsHome ∈ gdL := gd_mem 631 (by decide +kernel) (by decide +kernel)
theorem lmX7_189 : Cond.methodLink RX7 189 yX1_leastWorst ∈ gdL := gd_mem 641 (by decide +kernel) (by decide +kernel)
theorem lmX7_192 : Cond.methodLink RX7 192 yX1_fewestWithin ∈ gdL := gd_mem 646 (by decide +kernel) (by decide +kernel)
def fX7_smooth (x1 : Int32) (x2 : Int32) (m : mMem) : mR := bI (fX7_isLodger x1 m) (fun z2 m1 => if z2 = (0 : Int32) then some (some (.int (-1 : Int32)), m1) else bI (fX7_within x2 (0 : Int32) (1 : Int32) m1) (fun z5 m4 => if z5 = (0 : Int32) then some (some (.int (-1 : Int32)), m4) else bI (fX4_getsHome 0 x1 m4) (fun z8 m7 => if z8 = (0 : Int32) then some (some (.int (-4 : Int32)), m7) else bI (fX1_leastWorst 0 x1 m7) (fun z11 m10 => if x2 = (0 : Int32) then some (some (.int z11), m10) else bI (fX1_fewestWithin 0 x1 z11 m10) (fun z14 m13 => some (some (.int z14), m13))))))
set_option maxRecDepth 100000 in
theorem bsX7_smooth (l : Launch) (x1 : Int32) (x2 : Int32) (m : mMem)  : BS l qX7_smooth [.ref 48, .int x1, .int x2] m (fX7_smooth x1 x2 m) := BS_of (by decide) (Nat.le_of_ble_eq_true rfl) (fun X _ => by
    show T qX7_smooth X (fX7_smooth x1 x2 m) 0 [(0, .ref 48), (1, .int x1), (2, .int x2)] [] m
    unfold fX7_smooth
    refine T_aload_n 0 rfl rfl dX7_smooth_0 ?_
    refine T_iload_n 1 rfl rfl dX7_smooth_1 ?_
    refine T_cVI (c := 7) [.int x1] [] mkX7_isLodger lmX7_136 rfl rfl (by decide) (Nat.le_of_ble_eq_true rfl) kd_48 dX7_smooth_2 (bsX7_isLodger _ x1 m) (fun z2 m1 => ?_)
    refine T_if_eq 17 dX7_smooth_5 (by decide) (fun _ => ?_) (fun _ => ?_)
    · refine T_iconst (-1 : Int32) (by decide) dX7_smooth_17 ?_
      exact T_iret rfl dX7_smooth_18
    · refine T_iload_n 2 rfl rfl dX7_smooth_8 ?_
      refine T_iconst (0 : Int32) (by decide) dX7_smooth_9 ?_
      refine T_iconst (1 : Int32) (by decide) dX7_smooth_10 ?_
      refine T_cSI [.int x2, .int (0 : Int32), .int (1 : Int32)] [] mkX7_within lmX7_73 rfl (by decide) (Nat.le_of_ble_eq_true rfl) dX7_smooth_11 (bsX7_within _ x2 (0 : Int32) (1 : Int32) m1) (fun z5 m4 => ?_)
      refine T_if_ne 19 dX7_smooth_14 (by decide) (fun _ => ?_) (fun _ => ?_)
      · refine T_iconst (-1 : Int32) (by decide) dX7_smooth_17 ?_
        exact T_iret rfl dX7_smooth_18
      · refine T_aload_n 0 rfl rfl dX7_smooth_19 ?_
        refine gRX7_19 rfl kd_48 0 rfl dX7_smooth_20 ?_
        refine T_iload_n 1 rfl rfl dX7_smooth_23 ?_
        refine T_cVI (c := 4) [.int x1] [] mkX4_getsHome lmX7_186 rfl rfl (by decide) (Nat.le_of_ble_eq_true rfl) kd_0 dX7_smooth_24 (bsX4_getsHome _ 0 x1 m4 kd_0) (fun z8 m7 => ?_)
        refine T_if_ne 33 dX7_smooth_27 (by decide) (fun _ => ?_) (fun _ => ?_)
        · refine T_bipush (-4 : Int32) (by decide) dX7_smooth_30 ?_
          exact T_iret rfl dX7_smooth_32
        · refine T_aload_n 0 rfl rfl dX7_smooth_33 ?_
          refine gRX7_37 rfl kd_48 54 rfl dX7_smooth_34 ?_
          refine T_aload_n 0 rfl rfl dX7_smooth_37 ?_
          refine gRX7_19 rfl kd_48 0 rfl dX7_smooth_38 ?_
          refine T_iload_n 1 rfl rfl dX7_smooth_41 ?_
          refine T_cVI (c := 1) [.ref 0, .int x1] [] mkX1_leastWorst lmX7_189 rfl rfl (by decide) (Nat.le_of_ble_eq_true rfl) kd_54 dX7_smooth_42 (bsX1_leastWorst _ 0 x1 m7 kd_0) (fun z11 m10 => ?_)
          refine T_istore_n (lv' := [(3, .int z11), (0, .ref 48), (1, .int x1), (2, .int x2)]) rfl (Nat.le_of_ble_eq_true rfl) rfl dX7_smooth_45 ?_
          refine T_iload_n 3 rfl rfl dX7_smooth_46 ?_
          refine T_if_ne 54 dX7_smooth_47 (by decide) (fun _ => ?_) (fun _ => ?_)
          · refine T_iload_n 0 rfl rfl dX7_smooth_50 ?_
            refine T_goto 67 dX7_smooth_51 (by decide) ?_
            exact T_iret rfl dX7_smooth_67
          · refine T_aload_n 1 rfl rfl dX7_smooth_54 ?_
            refine gRX7_37 rfl kd_48 54 rfl dX7_smooth_55 ?_
            refine T_aload_n 1 rfl rfl dX7_smooth_58 ?_
            refine gRX7_19 rfl kd_48 0 rfl dX7_smooth_59 ?_
            refine T_iload_n 2 rfl rfl dX7_smooth_62 ?_
            refine T_iload_n 0 rfl rfl dX7_smooth_63 ?_
            refine T_cVI (c := 1) [.ref 0, .int x1, .int z11] [] mkX1_fewestWithin lmX7_192 rfl rfl (by decide) (Nat.le_of_ble_eq_true rfl) kd_54 dX7_smooth_64 (bsX1_fewestWithin _ 0 x1 z11 m10 kd_0) (fun z14 m13 => ?_)
            exact T_iret rfl dX7_smooth_67)
theorem lmX7_200 : Cond.methodLink RX7 200 yX4_getsHomeBy ∈ gdL := gd_mem 663 (by decide +kernel) (by decide +kernel)
def bX7_must_14 (x1 : Int32) (k14 : Int32 × Int32 × mMem → mR) (s : Int32 × Int32 × mMem) : mR := match s with
  | (x2, x3, m) => if (m.1 0 1) ≤ x3 then some (some (.int x2), m) else bI (fX4_getsHome 0 x3 m) (fun z5 m4 => if z5 = (0 : Int32) then li (x3 + (1 : Int32)) (fun y7 => k14 (x2, y7, m4)) else bI (fX4_treadBits 0 x3 m4) (fun z9 m8 => bI (fX4_getsHomeBy 0 x3 (z9 &&& (((1 : Int32) <<< (x1 &&& 31)) ^^^ (-1 : Int32))) m8) (fun z12 m11 => if z12 = (0 : Int32) then li (x2 ||| ((1 : Int32) <<< (x3 &&& 31))) (fun y14 => li (x3 + (1 : Int32)) (fun y15 => k14 (y14, y15, m11))) else li (x3 + (1 : Int32)) (fun y16 => k14 (x2, y16, m11)))))
set_option maxRecDepth 100000 in
theorem tX7_must_14 (X : mCx) (x1 : Int32)  : ∀ (n : Nat) (s : Int32 × Int32 × mMem), T qX7_must X (lp (bX7_must_14 x1) n s) 14 [(0, .ref 48), (1, .int x1), (2, .int s.1), (3, .int s.2.1)] [] s.2.2 :=
  T_lp (body := bX7_must_14 x1) (lv := fun s => [(0, .ref 48), (1, .int x1), (2, .int s.1), (3, .int s.2.1)]) (st := fun _ => []) (μ := fun s : Int32 × Int32 × mMem => s.2.2) (fun k14 hk14 s => by
    obtain ⟨x2, x3, m⟩ := s
    show T qX7_must X (bX7_must_14 x1 k14 (x2, x3, m)) 14 [(0, .ref 48), (1, .int x1), (2, .int x2), (3, .int x3)] [] m
    unfold bX7_must_14
    dsimp only
    refine T_iload_n 3 rfl rfl dX7_must_14 ?_
    refine T_aload_n 0 rfl rfl dX7_must_15 ?_
    refine gRX7_19 rfl kd_48 0 rfl dX7_must_16 ?_
    refine gIX7_104 rfl kd_0 dX7_must_19 ?_
    refine T_icmp_ge 73 dX7_must_22 (by decide) (fun _ => ?_) (fun _ => ?_)
    · refine T_iload_n 2 rfl rfl dX7_must_73 ?_
      exact T_iret rfl dX7_must_74
    · refine T_aload_n 0 rfl rfl dX7_must_25 ?_
      refine gRX7_19 rfl kd_48 0 rfl dX7_must_26 ?_
      refine T_iload_n 3 rfl rfl dX7_must_29 ?_
      refine T_cVI (c := 4) [.int x3] [] mkX4_getsHome lmX7_186 rfl rfl (by decide) (Nat.le_of_ble_eq_true rfl) kd_0 dX7_must_30 (bsX4_getsHome _ 0 x3 m kd_0) (fun z5 m4 => ?_)
      refine T_if_eq 67 dX7_must_33 (by decide) (fun _ => ?_) (fun _ => ?_)
      · refine T_iinc (lv' := [(3, .int (x3 + (1 : Int32))), (0, .ref 48), (1, .int x1), (2, .int x2)]) 3 (1 : Int32) rfl (by decide) (Nat.le_of_ble_eq_true rfl) rfl dX7_must_67 ?_
        refine T_li (fun y7 => ?_)
        refine T_goto 14 dX7_must_70 (by decide) ?_
        exact T_sub [1, 2, 3, 0] rfl (hk14 (x2, y7, m4))
      · refine T_aload_n 0 rfl rfl dX7_must_36 ?_
        refine gRX7_19 rfl kd_48 0 rfl dX7_must_37 ?_
        refine T_iload_n 3 rfl rfl dX7_must_40 ?_
        refine T_aload_n 0 rfl rfl dX7_must_41 ?_
        refine gRX7_19 rfl kd_48 0 rfl dX7_must_42 ?_
        refine T_iload_n 3 rfl rfl dX7_must_45 ?_
        refine T_cVI (c := 4) [.int x3] [.int x3, .ref 0] mkX4_treadBits lmX7_154 rfl rfl (by decide) (Nat.le_of_ble_eq_true rfl) kd_0 dX7_must_46 (bsX4_treadBits _ 0 x3 m4 kd_0) (fun z9 m8 => ?_)
        refine T_iconst (1 : Int32) (by decide) dX7_must_49 ?_
        refine T_iload_n 1 rfl rfl dX7_must_50 ?_
        refine T_ishl dX7_must_51 ?_
        refine T_iconst (-1 : Int32) (by decide) dX7_must_52 ?_
        refine T_ixor dX7_must_53 ?_
        refine T_iand dX7_must_54 ?_
        refine T_cVI (c := 4) [.int x3, .int (z9 &&& (((1 : Int32) <<< (x1 &&& 31)) ^^^ (-1 : Int32)))] [] mkX4_getsHomeBy lmX7_200 rfl rfl (by decide) (Nat.le_of_ble_eq_true rfl) kd_0 dX7_must_55 (bsX4_getsHomeBy _ 0 x3 (z9 &&& (((1 : Int32) <<< (x1 &&& 31)) ^^^ (-1 : Int32))) m8 kd_0) (fun z12 m11 => ?_)
        refine T_if_ne 67 dX7_must_58 (by decide) (fun _ => ?_) (fun _ => ?_)
        · refine T_iload_n 2 rfl rfl dX7_must_61 ?_
          refine T_iconst (1 : Int32) (by decide) dX7_must_62 ?_
          refine T_iload_n 3 rfl rfl dX7_must_63 ?_
          refine T_ishl dX7_must_64 ?_
          refine T_ior dX7_must_65 ?_
          refine T_istore_n (lv' := [(2, .int (x2 ||| ((1 : Int32) <<< (x3 &&& 31)))), (0, .ref 48), (1, .int x1), (3, .int x3)]) rfl (Nat.le_of_ble_eq_true rfl) rfl dX7_must_66 ?_
          refine T_li (fun y14 => ?_)
          refine T_iinc (lv' := [(3, .int (x3 + (1 : Int32))), (2, .int y14), (0, .ref 48), (1, .int x1)]) 3 (1 : Int32) rfl (by decide) (Nat.le_of_ble_eq_true rfl) rfl dX7_must_67 ?_
          refine T_li (fun y15 => ?_)
          refine T_goto 14 dX7_must_70 (by decide) ?_
          exact T_sub [2, 3, 1, 0] rfl (hk14 (y14, y15, m11))
        · refine T_iinc (lv' := [(3, .int (x3 + (1 : Int32))), (0, .ref 48), (1, .int x1), (2, .int x2)]) 3 (1 : Int32) rfl (by decide) (Nat.le_of_ble_eq_true rfl) rfl dX7_must_67 ?_
          refine T_li (fun y16 => ?_)
          refine T_goto 14 dX7_must_70 (by decide) ?_
          exact T_sub [1, 2, 3, 0] rfl (hk14 (x2, y16, m11)))
def fX7_must (x1 : Int32) (m : mMem) : mR := bI (fX7_isStep x1 m) (fun z2 m1 => if z2 = (0 : Int32) then some (some (.int (-1 : Int32)), m1) else lp (bX7_must_14 x1) FU ((0 : Int32), (0 : Int32), m1))
set_option maxRecDepth 100000 in
theorem bsX7_must (l : Launch) (x1 : Int32) (m : mMem)  : BS l qX7_must [.ref 48, .int x1] m (fX7_must x1 m) := BS_of (by decide) (Nat.le_of_ble_eq_true rfl) (fun X _ => by
    show T qX7_must X (fX7_must x1 m) 0 [(0, .ref 48), (1, .int x1)] [] m
    unfold fX7_must
    refine T_aload_n 0 rfl rfl dX7_must_0 ?_
    refine T_iload_n 1 rfl rfl dX7_must_1 ?_
    refine T_cVI (c := 7) [.int x1] [] mkX7_isStep lmX7_116 rfl rfl (by decide) (Nat.le_of_ble_eq_true rfl) kd_48 dX7_must_2 (bsX7_isStep _ x1 m) (fun z2 m1 => ?_)
    refine T_if_ne 10 dX7_must_5 (by decide) (fun _ => ?_) (fun _ => ?_)
    · refine T_iconst (-1 : Int32) (by decide) dX7_must_8 ?_
      exact T_iret rfl dX7_must_9
    · refine T_iconst (0 : Int32) (by decide) dX7_must_10 ?_
      refine T_istore_n (lv' := [(2, .int (0 : Int32)), (0, .ref 48), (1, .int x1)]) rfl (Nat.le_of_ble_eq_true rfl) rfl dX7_must_11 ?_
      refine T_iconst (0 : Int32) (by decide) dX7_must_12 ?_
      refine T_istore_n (lv' := [(3, .int (0 : Int32)), (2, .int (0 : Int32)), (0, .ref 48), (1, .int x1)]) rfl (Nat.le_of_ble_eq_true rfl) rfl dX7_must_13 ?_
      exact T_sub [2, 3, 1, 0] rfl (tX7_must_14 X x1  FU ((0 : Int32), (0 : Int32), m1)))
theorem lfX7_23 : Cond.fieldLink RX7 23 "RankStairs" "trial" "LRankStairs$House;" ∈ gdL := gd_mem 302 (by decide +kernel) (by decide +kernel)
theorem gRX7_23 {q : mMI} {X : mCx} {tgt : mR} {pc : Nat} {lv : List (Nat × Value)} {st : List Value} {μ : mMem} {b : Nat} (hq : q.1.cls = RX7) (hb : kd b = (7, 0)) (z : Nat) (hz : rf b 2 = z) (hd : decode q.2.1 pc = .ok (.getfield 23, 3)) (h : T q X tgt (pc + 3) lv (.ref z :: st) μ) : T q X tgt pc lv (.ref b :: st) μ := T_getR (c := 7) rfl (by decide) rfl (by decide) (by rw [hq]; exact lfX7_23) hb z hz hd h
def bX7_gap_23 (x1 : Int32) (k23 : Int32 × mMem → mR) (s : Int32 × mMem) : mR := match s with
  | (x2, m) => if (3 : Int32) < x2 then some (some (.int (-4 : Int32)), m) else lt (si m 8 2 x2) (fun m5 => bI (fX4_getsHome 8 x1 m5) (fun z7 m6 => if z7 = (0 : Int32) then li (x2 + (1 : Int32)) (fun y9 => k23 (y9, m6)) else some (some (.int x2), m6)))
set_option maxRecDepth 100000 in
theorem tX7_gap_23 (X : mCx) (x1 : Int32)  : ∀ (n : Nat) (s : Int32 × mMem), T qX7_gap X (lp (bX7_gap_23 x1) n s) 23 [(0, .ref 48), (1, .int x1), (2, .int s.1)] [] s.2 :=
  T_lp (body := bX7_gap_23 x1) (lv := fun s => [(0, .ref 48), (1, .int x1), (2, .int s.1)]) (st := fun _ => []) (μ := fun s : Int32 × mMem => s.2) (fun k23 hk23 s => by
    obtain ⟨x2, m⟩ := s
    show T qX7_gap X (bX7_gap_23 x1 k23 (x2, m)) 23 [(0, .ref 48), (1, .int x1), (2, .int x2)] [] m
    unfold bX7_gap_23
    dsimp only
    refine T_iload_n 2 rfl rfl dX7_gap_23 ?_
    refine T_iconst (3 : Int32) (by decide) dX7_gap_24 ?_
    refine T_icmp_gt 55 dX7_gap_25 (by decide) (fun _ => ?_) (fun _ => ?_)
    · refine T_bipush (-4 : Int32) (by decide) dX7_gap_55 ?_
      exact T_iret rfl dX7_gap_57
    · refine T_aload_n 0 rfl rfl dX7_gap_28 ?_
      refine gRX7_23 rfl kd_48 8 rfl dX7_gap_29 ?_
      refine T_iload_n 2 rfl rfl dX7_gap_32 ?_
      refine pIX7_107 rfl rfl rfl kd_8 dX7_gap_33 ?_
      refine T_lt (fun m5 => ?_)
      refine T_aload_n 0 rfl rfl dX7_gap_36 ?_
      refine gRX7_23 rfl kd_48 8 rfl dX7_gap_37 ?_
      refine T_iload_n 1 rfl rfl dX7_gap_40 ?_
      refine T_cVI (c := 4) [.int x1] [] mkX4_getsHome lmX7_186 rfl rfl (by decide) (Nat.le_of_ble_eq_true rfl) kd_8 dX7_gap_41 (bsX4_getsHome _ 8 x1 m5 kd_8) (fun z7 m6 => ?_)
      refine T_if_eq 49 dX7_gap_44 (by decide) (fun _ => ?_) (fun _ => ?_)
      · refine T_iinc (lv' := [(2, .int (x2 + (1 : Int32))), (0, .ref 48), (1, .int x1)]) 2 (1 : Int32) rfl (by decide) (Nat.le_of_ble_eq_true rfl) rfl dX7_gap_49 ?_
        refine T_li (fun y9 => ?_)
        refine T_goto 23 dX7_gap_52 (by decide) ?_
        exact T_sub [1, 2, 0] rfl (hk23 (y9, m6))
      · refine T_iload_n 2 rfl rfl dX7_gap_47 ?_
        exact T_iret rfl dX7_gap_48)
def fX7_gap (x1 : Int32) (m : mMem) : mR := bI (fX7_isLodger x1 m) (fun z2 m1 => if z2 = (0 : Int32) then some (some (.int (-1 : Int32)), m1) else bV (fX4_copyFrom 8 0 m1) (fun m4 => lp (bX7_gap_23 x1) FU ((0 : Int32), m4)))
set_option maxRecDepth 100000 in
theorem bsX7_gap (l : Launch) (x1 : Int32) (m : mMem)  : BS l qX7_gap [.ref 48, .int x1] m (fX7_gap x1 m) := BS_of (by decide) (Nat.le_of_ble_eq_true rfl) (fun X _ => by
    show T qX7_gap X (fX7_gap x1 m) 0 [(0, .ref 48), (1, .int x1)] [] m
    unfold fX7_gap
    refine T_aload_n 0 rfl rfl dX7_gap_0 ?_
    refine T_iload_n 1 rfl rfl dX7_gap_1 ?_
    refine T_cVI (c := 7) [.int x1] [] mkX7_isLodger lmX7_136 rfl rfl (by decide) (Nat.le_of_ble_eq_true rfl) kd_48 dX7_gap_2 (bsX7_isLodger _ x1 m) (fun z2 m1 => ?_)
    refine T_if_ne 10 dX7_gap_5 (by decide) (fun _ => ?_) (fun _ => ?_)
    · refine T_iconst (-1 : Int32) (by decide) dX7_gap_8 ?_
      exact T_iret rfl dX7_gap_9
    · refine T_aload_n 0 rfl rfl dX7_gap_10 ?_
      refine gRX7_23 rfl kd_48 8 rfl dX7_gap_11 ?_
      refine T_aload_n 0 rfl rfl dX7_gap_14 ?_
      refine gRX7_19 rfl kd_48 0 rfl dX7_gap_15 ?_
      refine T_cVV (c := 4) [.ref 0] [] mkX4_copyFrom lmX7_91 rfl rfl (by decide) (Nat.le_of_ble_eq_true rfl) kd_8 dX7_gap_18 (bsX4_copyFrom _ 8 0 m1 kd_8 kd_0) (fun m4 => ?_)
      refine T_iconst (0 : Int32) (by decide) dX7_gap_21 ?_
      refine T_istore_n (lv' := [(2, .int (0 : Int32)), (0, .ref 48), (1, .int x1)]) rfl (Nat.le_of_ble_eq_true rfl) rfl dX7_gap_22 ?_
      exact T_sub [1, 2, 0] rfl (tX7_gap_23 X x1  FU ((0 : Int32), m4)))
def bX7_legs_23 (x1 : Int32) (k23 : Int32 × mMem → mR) (s : Int32 × mMem) : mR := match s with
  | (x2, m) => if (4 : Int32) < x2 then some (some (.int (-4 : Int32)), m) else ga x1 4 (lt (si m 12 (x1).toNatClampNeg x2) (fun m5 => bI (fX4_getsHome 8 x1 m5) (fun z7 m6 => if z7 = (0 : Int32) then li (x2 + (1 : Int32)) (fun y9 => k23 (y9, m6)) else some (some (.int x2), m6))))
set_option maxRecDepth 100000 in
theorem tX7_legs_23 (X : mCx) (x1 : Int32)  : ∀ (n : Nat) (s : Int32 × mMem), T qX7_legs X (lp (bX7_legs_23 x1) n s) 23 [(0, .ref 48), (1, .int x1), (2, .int s.1)] [] s.2 :=
  T_lp (body := bX7_legs_23 x1) (lv := fun s => [(0, .ref 48), (1, .int x1), (2, .int s.1)]) (st := fun _ => []) (μ := fun s : Int32 × mMem => s.2) (fun k23 hk23 s => by
    obtain ⟨x2, m⟩ := s
    show T qX7_legs X (bX7_legs_23 x1 k23 (x2, m)) 23 [(0, .ref 48), (1, .int x1), (2, .int x2)] [] m
    unfold bX7_legs_23
    dsimp only
    refine T_iload_n 2 rfl rfl dX7_legs_23 ?_
    refine T_iconst (4 : Int32) (by decide) dX7_legs_24 ?_
    refine T_icmp_gt 57 dX7_legs_25 (by decide) (fun _ => ?_) (fun _ => ?_)
    · refine T_bipush (-4 : Int32) (by decide) dX7_legs_57 ?_
      exact T_iret rfl dX7_legs_59
    · refine T_aload_n 0 rfl rfl dX7_legs_28 ?_
      refine gRX7_23 rfl kd_48 8 rfl dX7_legs_29 ?_
      refine gRX7_139 rfl kd_8 12 rfl dX7_legs_32 ?_
      refine T_iload_n 1 rfl rfl dX7_legs_35 ?_
      refine T_iload_n 2 rfl rfl dX7_legs_36 ?_
      refine T_iast _ rfl kd_12 dX7_legs_37 ?_
      refine T_lt (fun m5 => ?_)
      refine T_aload_n 0 rfl rfl dX7_legs_38 ?_
      refine gRX7_23 rfl kd_48 8 rfl dX7_legs_39 ?_
      refine T_iload_n 1 rfl rfl dX7_legs_42 ?_
      refine T_cVI (c := 4) [.int x1] [] mkX4_getsHome lmX7_186 rfl rfl (by decide) (Nat.le_of_ble_eq_true rfl) kd_8 dX7_legs_43 (bsX4_getsHome _ 8 x1 m5 kd_8) (fun z7 m6 => ?_)
      refine T_if_eq 51 dX7_legs_46 (by decide) (fun _ => ?_) (fun _ => ?_)
      · refine T_iinc (lv' := [(2, .int (x2 + (1 : Int32))), (0, .ref 48), (1, .int x1)]) 2 (1 : Int32) rfl (by decide) (Nat.le_of_ble_eq_true rfl) rfl dX7_legs_51 ?_
        refine T_li (fun y9 => ?_)
        refine T_goto 23 dX7_legs_54 (by decide) ?_
        exact T_sub [1, 2, 0] rfl (hk23 (y9, m6))
      · refine T_iload_n 2 rfl rfl dX7_legs_49 ?_
        exact T_iret rfl dX7_legs_50)
def fX7_legs (x1 : Int32) (m : mMem) : mR := bI (fX7_isLodger x1 m) (fun z2 m1 => if z2 = (0 : Int32) then some (some (.int (-1 : Int32)), m1) else bV (fX4_copyFrom 8 0 m1) (fun m4 => lp (bX7_legs_23 x1) FU ((1 : Int32), m4)))
set_option maxRecDepth 100000 in
theorem bsX7_legs (l : Launch) (x1 : Int32) (m : mMem)  : BS l qX7_legs [.ref 48, .int x1] m (fX7_legs x1 m) := BS_of (by decide) (Nat.le_of_ble_eq_true rfl) (fun X _ => by
    show T qX7_legs X (fX7_legs x1 m) 0 [(0, .ref 48), (1, .int x1)] [] m
    unfold fX7_legs
    refine T_aload_n 0 rfl rfl dX7_legs_0 ?_
    refine T_iload_n 1 rfl rfl dX7_legs_1 ?_
    refine T_cVI (c := 7) [.int x1] [] mkX7_isLodger lmX7_136 rfl rfl (by decide) (Nat.le_of_ble_eq_true rfl) kd_48 dX7_legs_2 (bsX7_isLodger _ x1 m) (fun z2 m1 => ?_)
    refine T_if_ne 10 dX7_legs_5 (by decide) (fun _ => ?_) (fun _ => ?_)
    · refine T_iconst (-1 : Int32) (by decide) dX7_legs_8 ?_
      exact T_iret rfl dX7_legs_9
    · refine T_aload_n 0 rfl rfl dX7_legs_10 ?_
      refine gRX7_23 rfl kd_48 8 rfl dX7_legs_11 ?_
      refine T_aload_n 0 rfl rfl dX7_legs_14 ?_
      refine gRX7_19 rfl kd_48 0 rfl dX7_legs_15 ?_
      refine T_cVV (c := 4) [.ref 0] [] mkX4_copyFrom lmX7_91 rfl rfl (by decide) (Nat.le_of_ble_eq_true rfl) kd_8 dX7_legs_18 (bsX4_copyFrom _ 8 0 m1 kd_8 kd_0) (fun m4 => ?_)
      refine T_iconst (1 : Int32) (by decide) dX7_legs_21 ?_
      refine T_istore_n (lv' := [(2, .int (1 : Int32)), (0, .ref 48), (1, .int x1)]) rfl (Nat.le_of_ble_eq_true rfl) rfl dX7_legs_22 ?_
      exact T_sub [1, 2, 0] rfl (tX7_legs_23 X x1  FU ((1 : Int32), m4)))
theorem lmX7_230 : Cond.methodLink RX7 230 yX0_ofHome ∈ gdL := gd_mem 739 (by decide +kernel) (by decide +kernel)
theorem lmX7_234 : Cond.methodLink RX7 234 yX0_lowest ∈ gdL := gd_mem 755 (by decide +kernel) (by decide +kernel)
theorem lfX7_51 : Cond.fieldLink RX7 51 "RankStairs" "chances" "LRankStairs$Chances;" ∈ gdL := gd_mem 307 (by decide +kernel) (by decide +kernel)
theorem gRX7_51 {q : mMI} {X : mCx} {tgt : mR} {pc : Nat} {lv : List (Nat × Value)} {st : List Value} {μ : mMem} {b : Nat} (hq : q.1.cls = RX7) (hb : kd b = (7, 0)) (z : Nat) (hz : rf b 7 = z) (hd : decode q.2.1 pc = .ok (.getfield 51, 3)) (h : T q X tgt (pc + 3) lv (.ref z :: st) μ) : T q X tgt pc lv (.ref b :: st) μ := T_getR (c := 7) rfl (by decide) rfl (by decide) (by rw [hq]; exact lfX7_51) hb z hz hd h
theorem lcX7_228 : Cond.constantLong RX7 228 (-1) ∈ gdL := gd_mem 738 (by decide +kernel) (by decide +kernel)
def fX7_odds (x1 : Int32) (x2 : Int32) (x3 : Int32) (m : mMem) : mR := bI (fX7_within x1 (0 : Int32) (10 : Int32) m) (fun z2 m1 => if z2 = (0 : Int32) then some (some (.long (-1 : Int64)), m1) else bI (fX7_isLodger x2 m1) (fun z5 m4 => if z5 = (0 : Int32) then some (some (.long (-1 : Int64)), m4) else bI (fX7_within x3 (0 : Int32) (1 : Int32) m4) (fun z8 m7 => if z8 = (0 : Int32) then some (some (.long (-1 : Int64)), m7) else bL (fX0_ofHome 0 x2 x1 m7) (fun z11 m10 => bL (fX0_lowest z11 x3 m10) (fun z14 m13 => some (some (.long z14), m13))))))
set_option maxRecDepth 100000 in
theorem bsX7_odds (l : Launch) (x1 : Int32) (x2 : Int32) (x3 : Int32) (m : mMem)  : BS l qX7_odds [.ref 48, .int x1, .int x2, .int x3] m (fX7_odds x1 x2 x3 m) := BS_of (by decide) (Nat.le_of_ble_eq_true rfl) (fun X _ => by
    show T qX7_odds X (fX7_odds x1 x2 x3 m) 0 [(0, .ref 48), (1, .int x1), (2, .int x2), (3, .int x3)] [] m
    unfold fX7_odds
    refine T_iload_n 1 rfl rfl dX7_odds_0 ?_
    refine T_iconst (0 : Int32) (by decide) dX7_odds_1 ?_
    refine T_bipush (10 : Int32) (by decide) dX7_odds_2 ?_
    refine T_cSI [.int x1, .int (0 : Int32), .int (10 : Int32)] [] mkX7_within lmX7_73 rfl (by decide) (Nat.le_of_ble_eq_true rfl) dX7_odds_4 (bsX7_within _ x1 (0 : Int32) (10 : Int32) m) (fun z2 m1 => ?_)
    refine T_if_eq 27 dX7_odds_7 (by decide) (fun _ => ?_) (fun _ => ?_)
    · refine T_ldc2 lcX7_228 dX7_odds_27 ?_
      exact T_lret rfl dX7_odds_30
    · refine T_aload_n 0 rfl rfl dX7_odds_10 ?_
      refine T_iload_n 2 rfl rfl dX7_odds_11 ?_
      refine T_cVI (c := 7) [.int x2] [] mkX7_isLodger lmX7_136 rfl rfl (by decide) (Nat.le_of_ble_eq_true rfl) kd_48 dX7_odds_12 (bsX7_isLodger _ x2 m1) (fun z5 m4 => ?_)
      refine T_if_eq 27 dX7_odds_15 (by decide) (fun _ => ?_) (fun _ => ?_)
      · refine T_ldc2 lcX7_228 dX7_odds_27 ?_
        exact T_lret rfl dX7_odds_30
      · refine T_iload_n 3 rfl rfl dX7_odds_18 ?_
        refine T_iconst (0 : Int32) (by decide) dX7_odds_19 ?_
        refine T_iconst (1 : Int32) (by decide) dX7_odds_20 ?_
        refine T_cSI [.int x3, .int (0 : Int32), .int (1 : Int32)] [] mkX7_within lmX7_73 rfl (by decide) (Nat.le_of_ble_eq_true rfl) dX7_odds_21 (bsX7_within _ x3 (0 : Int32) (1 : Int32) m4) (fun z8 m7 => ?_)
        refine T_if_ne 31 dX7_odds_24 (by decide) (fun _ => ?_) (fun _ => ?_)
        · refine T_ldc2 lcX7_228 dX7_odds_27 ?_
          exact T_lret rfl dX7_odds_30
        · refine T_aload_n 0 rfl rfl dX7_odds_31 ?_
          refine gRX7_51 rfl kd_48 62 rfl dX7_odds_32 ?_
          refine T_aload_n 0 rfl rfl dX7_odds_35 ?_
          refine gRX7_19 rfl kd_48 0 rfl dX7_odds_36 ?_
          refine T_iload_n 2 rfl rfl dX7_odds_39 ?_
          refine T_iload_n 1 rfl rfl dX7_odds_40 ?_
          refine T_cVL (c := 0) [.ref 0, .int x2, .int x1] [] mkX0_ofHome lmX7_230 rfl rfl (by decide) (Nat.le_of_ble_eq_true rfl) kd_62 dX7_odds_41 (bsX0_ofHome _ 0 x2 x1 m7 kd_0) (fun z11 m10 => ?_)
          refine T_iload_n 3 rfl rfl dX7_odds_44 ?_
          refine T_cSL [.long z11, .int x3] [] mkX0_lowest lmX7_234 rfl (by decide) (Nat.le_of_ble_eq_true rfl) dX7_odds_45 (bsX0_lowest _ z11 x3 m10) (fun z14 m13 => ?_)
          exact T_lret rfl dX7_odds_48)
def bX7_mean_28 (x1 : Int32) (x2 : Int32) (k28 : Int64 × Int32 × mMem → mR) (s : Int64 × Int32 × mMem) : mR := match s with
  | (x3, x5, m) => if (m.1 0 1) ≤ x5 then bL (fX0_lowest x3 x2 m) (fun z8 m7 => some (some (.long z8), m7)) else bL (fX0_ofHome 0 x5 x1 m) (fun z11 m10 => ll (x3 + z11) (fun y13 => li (x5 + (1 : Int32)) (fun y14 => k28 (y13, y14, m10))))
set_option maxRecDepth 100000 in
theorem tX7_mean_28 (X : mCx) (x1 : Int32) (x2 : Int32)  : ∀ (n : Nat) (s : Int64 × Int32 × mMem), T qX7_mean X (lp (bX7_mean_28 x1 x2) n s) 28 [(0, .ref 48), (1, .int x1), (2, .int x2), (3, .long s.1), (5, .int s.2.1)] [] s.2.2 :=
  T_lp (body := bX7_mean_28 x1 x2) (lv := fun s => [(0, .ref 48), (1, .int x1), (2, .int x2), (3, .long s.1), (5, .int s.2.1)]) (st := fun _ => []) (μ := fun s : Int64 × Int32 × mMem => s.2.2) (fun k28 hk28 s => by
    obtain ⟨x3, x5, m⟩ := s
    show T qX7_mean X (bX7_mean_28 x1 x2 k28 (x3, x5, m)) 28 [(0, .ref 48), (1, .int x1), (2, .int x2), (3, .long x3), (5, .int x5)] [] m
    unfold bX7_mean_28
    dsimp only
    refine T_iload 4 rfl dX7_mean_28 ?_
    refine T_aload_n 0 rfl rfl dX7_mean_30 ?_
    refine gRX7_19 rfl kd_48 0 rfl dX7_mean_31 ?_
    refine gIX7_104 rfl kd_0 dX7_mean_34 ?_
    refine T_icmp_ge 63 dX7_mean_37 (by decide) (fun _ => ?_) (fun _ => ?_)
    · refine T_lload_n 3 rfl rfl dX7_mean_63 ?_
      refine T_iload_n 2 rfl rfl dX7_mean_64 ?_
      refine T_cSL [.long x3, .int x2] [] mkX0_lowest lmX7_234 rfl (by decide) (Nat.le_of_ble_eq_true rfl) dX7_mean_65 (bsX0_lowest _ x3 x2 m) (fun z8 m7 => ?_)
      exact T_lret rfl dX7_mean_68
    · refine T_lload_n 3 rfl rfl dX7_mean_40 ?_
      refine T_aload_n 0 rfl rfl dX7_mean_41 ?_
      refine gRX7_51 rfl kd_48 62 rfl dX7_mean_42 ?_
      refine T_aload_n 0 rfl rfl dX7_mean_45 ?_
      refine gRX7_19 rfl kd_48 0 rfl dX7_mean_46 ?_
      refine T_iload 4 rfl dX7_mean_49 ?_
      refine T_iload_n 1 rfl rfl dX7_mean_51 ?_
      refine T_cVL (c := 0) [.ref 0, .int x5, .int x1] [.long x3] mkX0_ofHome lmX7_230 rfl rfl (by decide) (Nat.le_of_ble_eq_true rfl) kd_62 dX7_mean_52 (bsX0_ofHome _ 0 x5 x1 m kd_0) (fun z11 m10 => ?_)
      refine T_ladd dX7_mean_55 ?_
      refine T_lstore_n (lv' := [(3, .long (x3 + z11)), (0, .ref 48), (1, .int x1), (2, .int x2), (5, .int x5)]) rfl (Nat.le_of_ble_eq_true rfl) rfl dX7_mean_56 ?_
      refine T_ll (fun y13 => ?_)
      refine T_iinc (lv' := [(5, .int (x5 + (1 : Int32))), (3, .long y13), (0, .ref 48), (1, .int x1), (2, .int x2)]) 4 (1 : Int32) rfl (by decide) (Nat.le_of_ble_eq_true rfl) rfl dX7_mean_57 ?_
      refine T_li (fun y14 => ?_)
      refine T_goto 28 dX7_mean_60 (by decide) ?_
      exact T_sub [2, 3, 4, 1, 0] rfl (hk28 (y13, y14, m10)))
def fX7_mean (x1 : Int32) (x2 : Int32) (m : mMem) : mR := bI (fX7_within x1 (0 : Int32) (10 : Int32) m) (fun z2 m1 => if z2 = (0 : Int32) then some (some (.long (-1 : Int64)), m1) else bI (fX7_within x2 (0 : Int32) (1 : Int32) m1) (fun z5 m4 => if z5 = (0 : Int32) then some (some (.long (-1 : Int64)), m4) else lp (bX7_mean_28 x1 x2) FU ((0 : Int64), (0 : Int32), m4)))
set_option maxRecDepth 100000 in
theorem bsX7_mean (l : Launch) (x1 : Int32) (x2 : Int32) (m : mMem)  : BS l qX7_mean [.ref 48, .int x1, .int x2] m (fX7_mean x1 x2 m) := BS_of (by decide) (Nat.le_of_ble_eq_true rfl) (fun X _ => by
    show T qX7_mean X (fX7_mean x1 x2 m) 0 [(0, .ref 48), (1, .int x1), (2, .int x2)] [] m
    unfold fX7_mean
    refine T_iload_n 1 rfl rfl dX7_mean_0 ?_
    refine T_iconst (0 : Int32) (by decide) dX7_mean_1 ?_
    refine T_bipush (10 : Int32) (by decide) dX7_mean_2 ?_
    refine T_cSI [.int x1, .int (0 : Int32), .int (10 : Int32)] [] mkX7_within lmX7_73 rfl (by decide) (Nat.le_of_ble_eq_true rfl) dX7_mean_4 (bsX7_within _ x1 (0 : Int32) (10 : Int32) m) (fun z2 m1 => ?_)
    refine T_if_eq 19 dX7_mean_7 (by decide) (fun _ => ?_) (fun _ => ?_)
    · refine T_ldc2 lcX7_228 dX7_mean_19 ?_
      exact T_lret rfl dX7_mean_22
    · refine T_iload_n 2 rfl rfl dX7_mean_10 ?_
      refine T_iconst (0 : Int32) (by decide) dX7_mean_11 ?_
      refine T_iconst (1 : Int32) (by decide) dX7_mean_12 ?_
      refine T_cSI [.int x2, .int (0 : Int32), .int (1 : Int32)] [] mkX7_within lmX7_73 rfl (by decide) (Nat.le_of_ble_eq_true rfl) dX7_mean_13 (bsX7_within _ x2 (0 : Int32) (1 : Int32) m1) (fun z5 m4 => ?_)
      refine T_if_ne 23 dX7_mean_16 (by decide) (fun _ => ?_) (fun _ => ?_)
      · refine T_ldc2 lcX7_228 dX7_mean_19 ?_
        exact T_lret rfl dX7_mean_22
      · refine T_lconst (0 : Int64) (by decide) dX7_mean_23 ?_
        refine T_lstore_n (lv' := [(3, .long (0 : Int64)), (0, .ref 48), (1, .int x1), (2, .int x2)]) rfl (Nat.le_of_ble_eq_true rfl) rfl dX7_mean_24 ?_
        refine T_iconst (0 : Int32) (by decide) dX7_mean_25 ?_
        refine T_istore (lv' := [(5, .int (0 : Int32)), (3, .long (0 : Int64)), (0, .ref 48), (1, .int x1), (2, .int x2)]) (Nat.le_of_ble_eq_true rfl) rfl dX7_mean_26 ?_
        exact T_sub [2, 3, 4, 1, 0] rfl (tX7_mean_28 X x1 x2  FU ((0 : Int64), (0 : Int32), m4)))
theorem lmX7_196 : Cond.methodLink RX7 196 yX4_homeBits ∈ gdL := gd_mem 654 (by decide +kernel) (by decide +kernel)
def fX7_homes  (m : mMem) : mR := bI (fX4_homeBits 0 m) (fun z2 m1 => some (some (.int z2), m1))
set_option maxRecDepth 100000 in
theorem bsX7_homes (l : Launch)  (m : mMem)  : BS l qX7_homes [.ref 48] m (fX7_homes  m) := BS_of (by decide) (Nat.le_of_ble_eq_true rfl) (fun X _ => by
    show T qX7_homes X (fX7_homes  m) 0 [(0, .ref 48)] [] m
    unfold fX7_homes
    refine T_aload_n 0 rfl rfl dX7_homes_0 ?_
    refine gRX7_19 rfl kd_48 0 rfl dX7_homes_1 ?_
    refine T_cVI (c := 4) [] [] mkX4_homeBits lmX7_196 rfl rfl (by decide) (Nat.le_of_ble_eq_true rfl) kd_0 dX7_homes_4 (bsX4_homeBits _ 0 m kd_0) (fun z2 m1 => ?_)
    exact T_iret rfl dX7_homes_7)
def bX7_best_28 (x1 : Int32) (k28 : Int32 × Int32 × Int32 × mMem → mR) (s : Int32 × Int32 × Int32 × mMem) : mR := match s with
  | (x2, x3, x4, m) => if (m.1 0 0) ≤ x4 then if x3 = (-4 : Int32) then some (some (.int x3), m) else if x1 = (0 : Int32) then some (some (.int x3), m) else some (some (.int x2), m) else bV (fX4_copyFrom 8 0 m) (fun m10 => bV (fX4_renew 8 x4 m10) (fun m11 => bI (fX4_homeBits 8 m11) (fun z13 m12 => bI (fJ6_bitCount_0f7a4 z13 m12) (fun z16 m15 => if z16 ≤ x2 then li (x4 + (1 : Int32)) (fun y18 => k28 (x2, x3, y18, m15)) else li (x4 + (1 : Int32)) (fun y19 => k28 (z16, x4, y19, m15))))))
set_option maxRecDepth 100000 in
theorem tX7_best_28 (X : mCx) (x1 : Int32)  : ∀ (n : Nat) (s : Int32 × Int32 × Int32 × mMem), T qX7_best X (lp (bX7_best_28 x1) n s) 28 [(0, .ref 48), (1, .int x1), (2, .int s.1), (3, .int s.2.1), (4, .int s.2.2.1)] [] s.2.2.2 :=
  T_lp (body := bX7_best_28 x1) (lv := fun s => [(0, .ref 48), (1, .int x1), (2, .int s.1), (3, .int s.2.1), (4, .int s.2.2.1)]) (st := fun _ => []) (μ := fun s : Int32 × Int32 × Int32 × mMem => s.2.2.2) (fun k28 hk28 s => by
    obtain ⟨x2, x3, x4, m⟩ := s
    show T qX7_best X (bX7_best_28 x1 k28 (x2, x3, x4, m)) 28 [(0, .ref 48), (1, .int x1), (2, .int x2), (3, .int x3), (4, .int x4)] [] m
    unfold bX7_best_28
    dsimp only
    refine T_iload 4 rfl dX7_best_28 ?_
    refine T_aload_n 0 rfl rfl dX7_best_30 ?_
    refine gRX7_19 rfl kd_48 0 rfl dX7_best_31 ?_
    refine gIX7_101 rfl kd_0 dX7_best_34 ?_
    refine T_icmp_ge 90 dX7_best_37 (by decide) (fun _ => ?_) (fun _ => ?_)
    · refine T_iload_n 3 rfl rfl dX7_best_90 ?_
      refine T_bipush (-4 : Int32) (by decide) dX7_best_91 ?_
      refine T_icmp_eq 100 dX7_best_93 (by decide) (fun _ => ?_) (fun _ => ?_)
      · refine T_iload_n 3 rfl rfl dX7_best_100 ?_
        refine T_goto 105 dX7_best_101 (by decide) ?_
        exact T_iret rfl dX7_best_105
      · refine T_iload_n 1 rfl rfl dX7_best_96 ?_
        refine T_if_ne 104 dX7_best_97 (by decide) (fun _ => ?_) (fun _ => ?_)
        · refine T_iload_n 3 rfl rfl dX7_best_100 ?_
          refine T_goto 105 dX7_best_101 (by decide) ?_
          exact T_iret rfl dX7_best_105
        · refine T_iload_n 2 rfl rfl dX7_best_104 ?_
          exact T_iret rfl dX7_best_105
    · refine T_aload_n 0 rfl rfl dX7_best_40 ?_
      refine gRX7_23 rfl kd_48 8 rfl dX7_best_41 ?_
      refine T_aload_n 0 rfl rfl dX7_best_44 ?_
      refine gRX7_19 rfl kd_48 0 rfl dX7_best_45 ?_
      refine T_cVV (c := 4) [.ref 0] [] mkX4_copyFrom lmX7_91 rfl rfl (by decide) (Nat.le_of_ble_eq_true rfl) kd_8 dX7_best_48 (bsX4_copyFrom _ 8 0 m kd_8 kd_0) (fun m10 => ?_)
      refine T_aload_n 0 rfl rfl dX7_best_51 ?_
      refine gRX7_23 rfl kd_48 8 rfl dX7_best_52 ?_
      refine T_iload 4 rfl dX7_best_55 ?_
      refine T_cVV (c := 4) [.int x4] [] mkX4_renew lmX7_161 rfl rfl (by decide) (Nat.le_of_ble_eq_true rfl) kd_8 dX7_best_57 (bsX4_renew _ 8 x4 m10 kd_8) (fun m11 => ?_)
      refine T_aload_n 0 rfl rfl dX7_best_60 ?_
      refine gRX7_23 rfl kd_48 8 rfl dX7_best_61 ?_
      refine T_cVI (c := 4) [] [] mkX4_homeBits lmX7_196 rfl rfl (by decide) (Nat.le_of_ble_eq_true rfl) kd_8 dX7_best_64 (bsX4_homeBits _ 8 m11 kd_8) (fun z13 m12 => ?_)
      refine T_cSI [.int z13] [] mkJ6_bitCount_0f7a4 lmX7_175 rfl (by decide) (Nat.le_of_ble_eq_true rfl) dX7_best_67 (bsJ6_bitCount_0f7a4 _ z13 m12) (fun z16 m15 => ?_)
      refine T_istore (lv' := [(5, .int z16), (0, .ref 48), (1, .int x1), (2, .int x2), (3, .int x3), (4, .int x4)]) (Nat.le_of_ble_eq_true rfl) rfl dX7_best_70 ?_
      refine T_iload 0 rfl dX7_best_72 ?_
      refine T_iload_n 3 rfl rfl dX7_best_74 ?_
      refine T_icmp_le 84 dX7_best_75 (by decide) (fun _ => ?_) (fun _ => ?_)
      · refine T_iinc (lv' := [(4, .int (x4 + (1 : Int32))), (5, .int z16), (0, .ref 48), (1, .int x1), (2, .int x2), (3, .int x3)]) 5 (1 : Int32) rfl (by decide) (Nat.le_of_ble_eq_true rfl) rfl dX7_best_84 ?_
        refine T_li (fun y18 => ?_)
        refine T_goto 28 dX7_best_87 (by decide) ?_
        exact T_sub [2, 3, 4, 5, 0] rfl (hk28 (x2, x3, y18, m15))
      · refine T_iload 0 rfl dX7_best_78 ?_
        refine T_istore_n (lv' := [(2, .int z16), (5, .int z16), (0, .ref 48), (1, .int x1), (3, .int x3), (4, .int x4)]) rfl (Nat.le_of_ble_eq_true rfl) rfl dX7_best_80 ?_
        refine T_iload 5 rfl dX7_best_81 ?_
        refine T_istore_n (lv' := [(3, .int x4), (2, .int z16), (5, .int z16), (0, .ref 48), (1, .int x1), (4, .int x4)]) rfl (Nat.le_of_ble_eq_true rfl) rfl dX7_best_83 ?_
        refine T_iinc (lv' := [(4, .int (x4 + (1 : Int32))), (3, .int x4), (2, .int z16), (5, .int z16), (0, .ref 48), (1, .int x1)]) 5 (1 : Int32) rfl (by decide) (Nat.le_of_ble_eq_true rfl) rfl dX7_best_84 ?_
        refine T_li (fun y19 => ?_)
        refine T_goto 28 dX7_best_87 (by decide) ?_
        exact T_sub [4, 5, 2, 1, 0] rfl (hk28 (z16, x4, y19, m15)))
def fX7_best (x1 : Int32) (m : mMem) : mR := bI (fX7_within x1 (0 : Int32) (1 : Int32) m) (fun z2 m1 => if z2 = (0 : Int32) then some (some (.int (-1 : Int32)), m1) else bI (fX4_homeBits 0 m1) (fun z5 m4 => bI (fJ6_bitCount_0f7a4 z5 m4) (fun z8 m7 => lp (bX7_best_28 x1) FU (z8, (-4 : Int32), (0 : Int32), m7))))
set_option maxRecDepth 100000 in
theorem bsX7_best (l : Launch) (x1 : Int32) (m : mMem)  : BS l qX7_best [.ref 48, .int x1] m (fX7_best x1 m) := BS_of (by decide) (Nat.le_of_ble_eq_true rfl) (fun X _ => by
    show T qX7_best X (fX7_best x1 m) 0 [(0, .ref 48), (1, .int x1)] [] m
    unfold fX7_best
    refine T_iload_n 1 rfl rfl dX7_best_0 ?_
    refine T_iconst (0 : Int32) (by decide) dX7_best_1 ?_
    refine T_iconst (1 : Int32) (by decide) dX7_best_2 ?_
    refine T_cSI [.int x1, .int (0 : Int32), .int (1 : Int32)] [] mkX7_within lmX7_73 rfl (by decide) (Nat.le_of_ble_eq_true rfl) dX7_best_3 (bsX7_within _ x1 (0 : Int32) (1 : Int32) m) (fun z2 m1 => ?_)
    refine T_if_ne 11 dX7_best_6 (by decide) (fun _ => ?_) (fun _ => ?_)
    · refine T_iconst (-1 : Int32) (by decide) dX7_best_9 ?_
      exact T_iret rfl dX7_best_10
    · refine T_aload_n 0 rfl rfl dX7_best_11 ?_
      refine gRX7_19 rfl kd_48 0 rfl dX7_best_12 ?_
      refine T_cVI (c := 4) [] [] mkX4_homeBits lmX7_196 rfl rfl (by decide) (Nat.le_of_ble_eq_true rfl) kd_0 dX7_best_15 (bsX4_homeBits _ 0 m1 kd_0) (fun z5 m4 => ?_)
      refine T_cSI [.int z5] [] mkJ6_bitCount_0f7a4 lmX7_175 rfl (by decide) (Nat.le_of_ble_eq_true rfl) dX7_best_18 (bsJ6_bitCount_0f7a4 _ z5 m4) (fun z8 m7 => ?_)
      refine T_istore_n (lv' := [(2, .int z8), (0, .ref 48), (1, .int x1)]) rfl (Nat.le_of_ble_eq_true rfl) rfl dX7_best_21 ?_
      refine T_bipush (-4 : Int32) (by decide) dX7_best_22 ?_
      refine T_istore_n (lv' := [(3, .int (-4 : Int32)), (2, .int z8), (0, .ref 48), (1, .int x1)]) rfl (Nat.le_of_ble_eq_true rfl) rfl dX7_best_24 ?_
      refine T_iconst (0 : Int32) (by decide) dX7_best_25 ?_
      refine T_istore (lv' := [(4, .int (0 : Int32)), (3, .int (-4 : Int32)), (2, .int z8), (0, .ref 48), (1, .int x1)]) (Nat.le_of_ble_eq_true rfl) rfl dX7_best_26 ?_
      exact T_sub [3, 4, 2, 1, 0] rfl (tX7_best_28 X x1  FU (z8, (-4 : Int32), (0 : Int32), m7)))
theorem lmX7_207 : Cond.methodLink RX7 207 yX4_brokenBits ∈ gdL := gd_mem 685 (by decide +kernel) (by decide +kernel)
theorem lmX7_248 : Cond.methodLink RX7 248 yX1_goes ∈ gdL := gd_mem 812 (by decide +kernel) (by decide +kernel)
theorem lcX7_247 : Cond.constant RX7 247 (1103515245) ∈ gdL := gd_mem 811 (by decide +kernel) (by decide +kernel)
def bX7_drift_54 (x2 : Int32) (x3 : Int32) (k54 : Int32 × Int32 × Int32 × mMem → mR) (s : Int32 × Int32 × Int32 × mMem) : mR := match s with
  | (x4, x5, x6, m) => if x2 ≤ x6 then if x3 = (0 : Int32) then some (some (.int x4), m) else bI (fX4_brokenBits 8 m) (fun z9 m8 => some (some (.int z9), m8)) else li ((x5 * (1103515245 : Int32)) + (12345 : Int32)) (fun y11 => g0i (m.1 0 1) (bI (fX1_goes 8 ((((y11.toUInt32 >>> ((16 : Int32).toUInt32 &&& Int32.toUInt32 31)).toInt32) &&& (32767 : Int32)) - (((y11.toUInt32 >>> ((16 : Int32).toUInt32 &&& Int32.toUInt32 31)).toInt32) &&& (32767 : Int32)) / (m.1 0 1) * (m.1 0 1)) m) (fun z13 m12 => if z13 = (0 : Int32) then li (x6 + (1 : Int32)) (fun y15 => k54 (x4, y11, y15, m12)) else li (x4 + (1 : Int32)) (fun y16 => li (x6 + (1 : Int32)) (fun y17 => k54 (y16, y11, y17, m12))))))
set_option maxRecDepth 100000 in
theorem tX7_drift_54 (X : mCx) (x2 : Int32) (x3 : Int32)  : ∀ (n : Nat) (s : Int32 × Int32 × Int32 × mMem), T qX7_drift X (lp (bX7_drift_54 x2 x3) n s) 54 [(0, .ref 48), (2, .int x2), (3, .int x3), (4, .int s.1), (5, .int s.2.1), (6, .int s.2.2.1)] [] s.2.2.2 :=
  T_lp (body := bX7_drift_54 x2 x3) (lv := fun s => [(0, .ref 48), (2, .int x2), (3, .int x3), (4, .int s.1), (5, .int s.2.1), (6, .int s.2.2.1)]) (st := fun _ => []) (μ := fun s : Int32 × Int32 × Int32 × mMem => s.2.2.2) (fun k54 hk54 s => by
    obtain ⟨x4, x5, x6, m⟩ := s
    show T qX7_drift X (bX7_drift_54 x2 x3 k54 (x4, x5, x6, m)) 54 [(0, .ref 48), (2, .int x2), (3, .int x3), (4, .int x4), (5, .int x5), (6, .int x6)] [] m
    unfold bX7_drift_54
    dsimp only
    refine T_iload 5 rfl dX7_drift_54 ?_
    refine T_iload_n 1 rfl rfl dX7_drift_56 ?_
    refine T_icmp_ge 111 dX7_drift_57 (by decide) (fun _ => ?_) (fun _ => ?_)
    · refine T_iload_n 2 rfl rfl dX7_drift_111 ?_
      refine T_if_ne 120 dX7_drift_112 (by decide) (fun _ => ?_) (fun _ => ?_)
      · refine T_iload 3 rfl dX7_drift_115 ?_
        refine T_goto 127 dX7_drift_117 (by decide) ?_
        exact T_iret rfl dX7_drift_127
      · refine T_aload_n 0 rfl rfl dX7_drift_120 ?_
        refine gRX7_23 rfl kd_48 8 rfl dX7_drift_121 ?_
        refine T_cVI (c := 4) [] [] mkX4_brokenBits lmX7_207 rfl rfl (by decide) (Nat.le_of_ble_eq_true rfl) kd_8 dX7_drift_124 (bsX4_brokenBits _ 8 m kd_8) (fun z9 m8 => ?_)
        exact T_iret rfl dX7_drift_127
    · refine T_iload 4 rfl dX7_drift_60 ?_
      refine T_ldc lcX7_247 dX7_drift_62 ?_
      refine T_imul dX7_drift_64 ?_
      refine T_sipush (12345 : Int32) (by decide) dX7_drift_65 ?_
      refine T_iadd dX7_drift_68 ?_
      refine T_istore (lv' := [(5, .int ((x5 * (1103515245 : Int32)) + (12345 : Int32))), (0, .ref 48), (2, .int x2), (3, .int x3), (4, .int x4), (6, .int x6)]) (Nat.le_of_ble_eq_true rfl) rfl dX7_drift_69 ?_
      refine T_li (fun y11 => ?_)
      refine T_aload_n 1 rfl rfl dX7_drift_71 ?_
      refine gRX7_37 rfl kd_48 54 rfl dX7_drift_72 ?_
      refine T_aload_n 1 rfl rfl dX7_drift_75 ?_
      refine gRX7_23 rfl kd_48 8 rfl dX7_drift_76 ?_
      refine T_iload 0 rfl dX7_drift_79 ?_
      refine T_bipush (16 : Int32) (by decide) dX7_drift_81 ?_
      refine T_iushr dX7_drift_83 ?_
      refine T_sipush (32767 : Int32) (by decide) dX7_drift_84 ?_
      refine T_iand dX7_drift_87 ?_
      refine T_aload_n 1 rfl rfl dX7_drift_88 ?_
      refine gRX7_19 rfl kd_48 0 rfl dX7_drift_89 ?_
      refine gIX7_104 rfl kd_0 dX7_drift_92 ?_
      refine T_irem (x := (((y11.toUInt32 >>> ((16 : Int32).toUInt32 &&& Int32.toUInt32 31)).toInt32) &&& (32767 : Int32))) (y := (m.1 0 1)) dX7_drift_95 ?_
      refine T_cVI (c := 1) [.ref 8, .int ((((y11.toUInt32 >>> ((16 : Int32).toUInt32 &&& Int32.toUInt32 31)).toInt32) &&& (32767 : Int32)) - (((y11.toUInt32 >>> ((16 : Int32).toUInt32 &&& Int32.toUInt32 31)).toInt32) &&& (32767 : Int32)) / (m.1 0 1) * (m.1 0 1))] [] mkX1_goes lmX7_248 rfl rfl (by decide) (Nat.le_of_ble_eq_true rfl) kd_54 dX7_drift_96 (bsX1_goes _ 8 ((((y11.toUInt32 >>> ((16 : Int32).toUInt32 &&& Int32.toUInt32 31)).toInt32) &&& (32767 : Int32)) - (((y11.toUInt32 >>> ((16 : Int32).toUInt32 &&& Int32.toUInt32 31)).toInt32) &&& (32767 : Int32)) / (m.1 0 1) * (m.1 0 1)) m kd_8) (fun z13 m12 => ?_)
      refine T_if_eq 105 dX7_drift_99 (by decide) (fun _ => ?_) (fun _ => ?_)
      · refine T_iinc (lv' := [(6, .int (x6 + (1 : Int32))), (5, .int y11), (0, .ref 48), (2, .int x2), (3, .int x3), (4, .int x4)]) 5 (1 : Int32) rfl (by decide) (Nat.le_of_ble_eq_true rfl) rfl dX7_drift_105 ?_
        refine T_li (fun y15 => ?_)
        refine T_goto 54 dX7_drift_108 (by decide) ?_
        exact T_sub [2, 3, 4, 5, 1, 0] rfl (hk54 (x4, y11, y15, m12))
      · refine T_iinc (lv' := [(4, .int (x4 + (1 : Int32))), (5, .int y11), (0, .ref 48), (2, .int x2), (3, .int x3), (6, .int x6)]) 4 (1 : Int32) rfl (by decide) (Nat.le_of_ble_eq_true rfl) rfl dX7_drift_102 ?_
        refine T_li (fun y16 => ?_)
        refine T_iinc (lv' := [(6, .int (x6 + (1 : Int32))), (4, .int y16), (5, .int y11), (0, .ref 48), (2, .int x2), (3, .int x3)]) 5 (1 : Int32) rfl (by decide) (Nat.le_of_ble_eq_true rfl) rfl dX7_drift_105 ?_
        refine T_li (fun y17 => ?_)
        refine T_goto 54 dX7_drift_108 (by decide) ?_
        exact T_sub [3, 4, 5, 1, 2, 0] rfl (hk54 (y16, y11, y17, m12)))
def fX7_drift (x1 : Int32) (x2 : Int32) (x3 : Int32) (m : mMem) : mR := bI (fX7_within x2 (1 : Int32) (60 : Int32) m) (fun z2 m1 => if z2 = (0 : Int32) then some (some (.int (-1 : Int32)), m1) else bI (fX7_within x3 (0 : Int32) (1 : Int32) m1) (fun z5 m4 => if z5 = (0 : Int32) then some (some (.int (-1 : Int32)), m4) else if (m4.1 0 1) = (0 : Int32) then some (some (.int (-2 : Int32)), m4) else bV (fX4_copyFrom 8 0 m4) (fun m7 => lp (bX7_drift_54 x2 x3) FU ((0 : Int32), x1, (0 : Int32), m7))))
set_option maxRecDepth 100000 in
theorem bsX7_drift (l : Launch) (x1 : Int32) (x2 : Int32) (x3 : Int32) (m : mMem)  : BS l qX7_drift [.ref 48, .int x1, .int x2, .int x3] m (fX7_drift x1 x2 x3 m) := BS_of (by decide) (Nat.le_of_ble_eq_true rfl) (fun X _ => by
    show T qX7_drift X (fX7_drift x1 x2 x3 m) 0 [(0, .ref 48), (1, .int x1), (2, .int x2), (3, .int x3)] [] m
    unfold fX7_drift
    refine T_iload_n 2 rfl rfl dX7_drift_0 ?_
    refine T_iconst (1 : Int32) (by decide) dX7_drift_1 ?_
    refine T_bipush (60 : Int32) (by decide) dX7_drift_2 ?_
    refine T_cSI [.int x2, .int (1 : Int32), .int (60 : Int32)] [] mkX7_within lmX7_73 rfl (by decide) (Nat.le_of_ble_eq_true rfl) dX7_drift_4 (bsX7_within _ x2 (1 : Int32) (60 : Int32) m) (fun z2 m1 => ?_)
    refine T_if_eq 19 dX7_drift_7 (by decide) (fun _ => ?_) (fun _ => ?_)
    · refine T_iconst (-1 : Int32) (by decide) dX7_drift_19 ?_
      exact T_iret rfl dX7_drift_20
    · refine T_iload_n 3 rfl rfl dX7_drift_10 ?_
      refine T_iconst (0 : Int32) (by decide) dX7_drift_11 ?_
      refine T_iconst (1 : Int32) (by decide) dX7_drift_12 ?_
      refine T_cSI [.int x3, .int (0 : Int32), .int (1 : Int32)] [] mkX7_within lmX7_73 rfl (by decide) (Nat.le_of_ble_eq_true rfl) dX7_drift_13 (bsX7_within _ x3 (0 : Int32) (1 : Int32) m1) (fun z5 m4 => ?_)
      refine T_if_ne 21 dX7_drift_16 (by decide) (fun _ => ?_) (fun _ => ?_)
      · refine T_iconst (-1 : Int32) (by decide) dX7_drift_19 ?_
        exact T_iret rfl dX7_drift_20
      · refine T_aload_n 0 rfl rfl dX7_drift_21 ?_
        refine gRX7_19 rfl kd_48 0 rfl dX7_drift_22 ?_
        refine gIX7_104 rfl kd_0 dX7_drift_25 ?_
        refine T_if_ne 34 dX7_drift_28 (by decide) (fun _ => ?_) (fun _ => ?_)
        · refine T_bipush (-2 : Int32) (by decide) dX7_drift_31 ?_
          exact T_iret rfl dX7_drift_33
        · refine T_aload_n 0 rfl rfl dX7_drift_34 ?_
          refine gRX7_23 rfl kd_48 8 rfl dX7_drift_35 ?_
          refine T_aload_n 0 rfl rfl dX7_drift_38 ?_
          refine gRX7_19 rfl kd_48 0 rfl dX7_drift_39 ?_
          refine T_cVV (c := 4) [.ref 0] [] mkX4_copyFrom lmX7_91 rfl rfl (by decide) (Nat.le_of_ble_eq_true rfl) kd_8 dX7_drift_42 (bsX4_copyFrom _ 8 0 m4 kd_8 kd_0) (fun m7 => ?_)
          refine T_iconst (0 : Int32) (by decide) dX7_drift_45 ?_
          refine T_istore (lv' := [(4, .int (0 : Int32)), (0, .ref 48), (1, .int x1), (2, .int x2), (3, .int x3)]) (Nat.le_of_ble_eq_true rfl) rfl dX7_drift_46 ?_
          refine T_iload_n 2 rfl rfl dX7_drift_48 ?_
          refine T_istore (lv' := [(5, .int x1), (4, .int (0 : Int32)), (0, .ref 48), (1, .int x1), (2, .int x2), (3, .int x3)]) (Nat.le_of_ble_eq_true rfl) rfl dX7_drift_49 ?_
          refine T_iconst (0 : Int32) (by decide) dX7_drift_51 ?_
          refine T_istore (lv' := [(6, .int (0 : Int32)), (5, .int x1), (4, .int (0 : Int32)), (0, .ref 48), (1, .int x1), (2, .int x2), (3, .int x3)]) (Nat.le_of_ble_eq_true rfl) rfl dX7_drift_52 ?_
          exact T_sub [3, 5, 6, 2, 1, 0] rfl (tX7_drift_54 X x2 x3  FU ((0 : Int32), x1, (0 : Int32), m7)))
theorem lmX7_266 : Cond.methodLink RX7 266 yX5_faultAs ∈ gdL := gd_mem 856 (by decide +kernel) (by decide +kernel)
theorem lfX7_269 : Cond.fieldLink RX7 269 "RankStairs$Sheet" "cells" "[I" ∈ gdL := gd_mem 291 (by decide +kernel) (by decide +kernel)
theorem gRX7_269 {q : mMI} {X : mCx} {tgt : mR} {pc : Nat} {lv : List (Nat × Value)} {st : List Value} {μ : mMem} {b : Nat} (hq : q.1.cls = RX7) (hb : kd b = (5, 0)) (z : Nat) (hz : rf b 1 = z) (hd : decode q.2.1 pc = .ok (.getfield 269, 3)) (h : T q X tgt (pc + 3) lv (.ref z :: st) μ) : T q X tgt pc lv (.ref b :: st) μ := T_getR (c := 5) rfl (by decide) rfl (by decide) (by rw [hq]; exact lfX7_269) hb z hz hd h
def jX7_read_136 (x6 : Int32) (x7 : Int32) (m : mMem) : mR := bV (fX4_copyFrom 0 8 m) (fun m12 => lt (si m12 48 10 x6) (fun m13 => some (some (.int x7), m13)))
set_option maxRecDepth 100000 in
theorem uX7_read_136 (X : mCx) (x6 : Int32) (x7 : Int32) (m : mMem)  : T qX7_read X (jX7_read_136 x6 x7 m) 136 [(0, .ref 48), (6, .int x6), (7, .int x7)] [] m := by
  unfold jX7_read_136
  refine T_aload_n 0 rfl rfl dX7_read_136 ?_
  refine gRX7_19 rfl kd_48 0 rfl dX7_read_137 ?_
  refine T_aload_n 0 rfl rfl dX7_read_140 ?_
  refine gRX7_23 rfl kd_48 8 rfl dX7_read_141 ?_
  refine T_cVV (c := 4) [.ref 8] [] mkX4_copyFrom lmX7_91 rfl rfl (by decide) (Nat.le_of_ble_eq_true rfl) kd_0 dX7_read_144 (bsX4_copyFrom _ 0 8 m kd_0 kd_8) (fun m12 => ?_)
  refine T_aload_n 0 rfl rfl dX7_read_147 ?_
  refine T_iload 1 rfl dX7_read_148 ?_
  refine pIX7_68 rfl rfl rfl kd_48 dX7_read_150 ?_
  refine T_lt (fun m13 => ?_)
  refine T_iload 2 rfl dX7_read_153 ?_
  exact T_iret rfl dX7_read_155
def bX7_read_55 (x2 : Int32) (x3 : Int32) (x4 : Int32) (r5 : Nat) (k55 : Int32 × Int32 × Int32 × mMem → mR) (s : Int32 × Int32 × Int32 × mMem) : mR := match s with
  | (x6, x7, x8, m) => if x4 ≤ x8 then jX7_read_136 x6 x7 m else if x6 = (0 : Int32) then bI (fX5_faultAs r5 x2 (x3 + x8) m) (fun z15 m14 => if z15 = (0 : Int32) then ga (x3 + x8) 40 (li (m14.1 (r5 + 1) ((x3 + x8)).toNatClampNeg) (fun y17 => bI (fX7_isLodger y17 m14) (fun z19 m18 => if z19 = (0 : Int32) then some (some (.int ((-20 : Int32) - x8)), m18) else bI (fX1_goes 8 y17 m18) (fun z22 m21 => if z22 = (0 : Int32) then some (some (.int ((-20 : Int32) - x8)), m21) else li (x7 + (1 : Int32)) (fun y24 => li (x8 + (1 : Int32)) (fun y25 => k55 (z15, y24, y25, m21))))))) else li (x8 + (1 : Int32)) (fun y26 => k55 (z15, x7, y26, m14))) else jX7_read_136 x6 x7 m
set_option maxRecDepth 100000 in
theorem tX7_read_55 (X : mCx) (x2 : Int32) (x3 : Int32) (x4 : Int32) (r5 : Nat) (h5 : kd r5 = (5, 0)) : ∀ (n : Nat) (s : Int32 × Int32 × Int32 × mMem), T qX7_read X (lp (bX7_read_55 x2 x3 x4 r5) n s) 55 [(0, .ref 48), (2, .int x2), (3, .int x3), (4, .int x4), (5, .ref r5), (6, .int s.1), (7, .int s.2.1), (8, .int s.2.2.1)] [] s.2.2.2 :=
  T_lp (body := bX7_read_55 x2 x3 x4 r5) (lv := fun s => [(0, .ref 48), (2, .int x2), (3, .int x3), (4, .int x4), (5, .ref r5), (6, .int s.1), (7, .int s.2.1), (8, .int s.2.2.1)]) (st := fun _ => []) (μ := fun s : Int32 × Int32 × Int32 × mMem => s.2.2.2) (fun k55 hk55 s => by
    obtain ⟨x6, x7, x8, m⟩ := s
    show T qX7_read X (bX7_read_55 x2 x3 x4 r5 k55 (x6, x7, x8, m)) 55 [(0, .ref 48), (2, .int x2), (3, .int x3), (4, .int x4), (5, .ref r5), (6, .int x6), (7, .int x7), (8, .int x8)] [] m
    unfold bX7_read_55
    dsimp only
    refine T_iload 7 rfl dX7_read_55 ?_
    refine T_iload 3 rfl dX7_read_57 ?_
    refine T_icmp_ge 136 dX7_read_59 (by decide) (fun _ => ?_) (fun _ => ?_)
    · exact T_sub [0, 5, 6] rfl (uX7_read_136 X x6 x7 m )
    · refine T_iload 5 rfl dX7_read_62 ?_
      refine T_if_ne 136 dX7_read_64 (by decide) (fun _ => ?_) (fun _ => ?_)
      · refine T_aload 4 rfl dX7_read_67 ?_
        refine T_iload_n 1 rfl rfl dX7_read_69 ?_
        refine T_iload_n 2 rfl rfl dX7_read_70 ?_
        refine T_iload 7 rfl dX7_read_71 ?_
        refine T_iadd dX7_read_73 ?_
        refine T_cVI (c := 5) [.int x2, .int (x3 + x8)] [] mkX5_faultAs lmX7_266 rfl rfl (by decide) (Nat.le_of_ble_eq_true rfl) h5 dX7_read_74 (bsX5_faultAs _ r5 x2 (x3 + x8) m h5) (fun z15 m14 => ?_)
        refine T_istore (lv' := [(6, .int z15), (0, .ref 48), (2, .int x2), (3, .int x3), (4, .int x4), (5, .ref r5), (7, .int x7), (8, .int x8)]) (Nat.le_of_ble_eq_true rfl) rfl dX7_read_77 ?_
        refine T_iload 0 rfl dX7_read_79 ?_
        refine T_if_ne 130 dX7_read_81 (by decide) (fun _ => ?_) (fun _ => ?_)
        · refine T_aload 5 rfl dX7_read_84 ?_
          refine gRX7_269 rfl h5 (r5 + 1) (rfS1 h5) dX7_read_86 ?_
          refine T_iload_n 3 rfl rfl dX7_read_89 ?_
          refine T_iload 7 rfl dX7_read_90 ?_
          refine T_iadd dX7_read_92 ?_
          refine T_iald (kdS1 h5) dX7_read_93 ?_
          refine T_istore (lv' := [(9, .int (m14.1 (r5 + 1) ((x3 + x8)).toNatClampNeg)), (6, .int z15), (0, .ref 48), (2, .int x2), (3, .int x3), (4, .int x4), (5, .ref r5), (7, .int x7), (8, .int x8)]) (Nat.le_of_ble_eq_true rfl) rfl dX7_read_94 ?_
          refine T_li (fun y17 => ?_)
          refine T_aload_n 2 rfl rfl dX7_read_96 ?_
          refine T_iload 0 rfl dX7_read_97 ?_
          refine T_cVI (c := 7) [.int y17] [] mkX7_isLodger lmX7_136 rfl rfl (by decide) (Nat.le_of_ble_eq_true rfl) kd_48 dX7_read_99 (bsX7_isLodger _ y17 m14) (fun z19 m18 => ?_)
          refine T_if_eq 121 dX7_read_102 (by decide) (fun _ => ?_) (fun _ => ?_)
          · refine T_bipush (-20 : Int32) (by decide) dX7_read_121 ?_
            refine T_iload 8 rfl dX7_read_123 ?_
            refine T_isub dX7_read_125 ?_
            exact T_iret rfl dX7_read_126
          · refine T_aload_n 2 rfl rfl dX7_read_105 ?_
            refine gRX7_37 rfl kd_48 54 rfl dX7_read_106 ?_
            refine T_aload_n 2 rfl rfl dX7_read_109 ?_
            refine gRX7_23 rfl kd_48 8 rfl dX7_read_110 ?_
            refine T_iload 0 rfl dX7_read_113 ?_
            refine T_cVI (c := 1) [.ref 8, .int y17] [] mkX1_goes lmX7_248 rfl rfl (by decide) (Nat.le_of_ble_eq_true rfl) kd_54 dX7_read_115 (bsX1_goes _ 8 y17 m18 kd_8) (fun z22 m21 => ?_)
            refine T_if_ne 127 dX7_read_118 (by decide) (fun _ => ?_) (fun _ => ?_)
            · refine T_bipush (-20 : Int32) (by decide) dX7_read_121 ?_
              refine T_iload 8 rfl dX7_read_123 ?_
              refine T_isub dX7_read_125 ?_
              exact T_iret rfl dX7_read_126
            · refine T_iinc (lv' := [(7, .int (x7 + (1 : Int32))), (9, .int y17), (6, .int z15), (0, .ref 48), (2, .int x2), (3, .int x3), (4, .int x4), (5, .ref r5), (8, .int x8)]) 7 (1 : Int32) rfl (by decide) (Nat.le_of_ble_eq_true rfl) rfl dX7_read_127 ?_
              refine T_li (fun y24 => ?_)
              refine T_iinc (lv' := [(8, .int (x8 + (1 : Int32))), (7, .int y24), (9, .int y17), (6, .int z15), (0, .ref 48), (2, .int x2), (3, .int x3), (4, .int x4), (5, .ref r5)]) 8 (1 : Int32) rfl (by decide) (Nat.le_of_ble_eq_true rfl) rfl dX7_read_130 ?_
              refine T_li (fun y25 => ?_)
              refine T_goto 55 dX7_read_133 (by decide) ?_
              exact T_sub [4, 5, 6, 7, 8, 3, 1, 0] rfl (hk55 (z15, y24, y25, m21))
        · refine T_iinc (lv' := [(8, .int (x8 + (1 : Int32))), (6, .int z15), (0, .ref 48), (2, .int x2), (3, .int x3), (4, .int x4), (5, .ref r5), (7, .int x7)]) 7 (1 : Int32) rfl (by decide) (Nat.le_of_ble_eq_true rfl) rfl dX7_read_130 ?_
          refine T_li (fun y26 => ?_)
          refine T_goto 55 dX7_read_133 (by decide) ?_
          exact T_sub [2, 3, 4, 5, 6, 1, 7, 0] rfl (hk55 (z15, x7, y26, m14))
      · exact T_sub [0, 5, 6] rfl (uX7_read_136 X x6 x7 m ))
def fX7_read (x1 : Int32) (x2 : Int32) (x3 : Int32) (x4 : Int32) (m : mMem) : mR := bI (fX7_isSheet x1 m) (fun z2 m1 => if z2 = (0 : Int32) then some (some (.int (-1 : Int32)), m1) else bI (fX7_isLane x2 m1) (fun z5 m4 => if z5 = (0 : Int32) then some (some (.int (-1 : Int32)), m4) else bI (fX7_within x4 (0 : Int32) (20 : Int32) m4) (fun z8 m7 => if z8 = (0 : Int32) then some (some (.int (-1 : Int32)), m7) else ga x1 4 (bV (fX4_copyFrom 8 0 m7) (fun m11 => lp (bX7_read_55 x2 x3 x4 (rf 80 (x1).toNatClampNeg)) FU ((0 : Int32), (0 : Int32), (0 : Int32), m11))))))
set_option maxRecDepth 100000 in
theorem bsX7_read (l : Launch) (x1 : Int32) (x2 : Int32) (x3 : Int32) (x4 : Int32) (m : mMem)  : BS l qX7_read [.ref 48, .int x1, .int x2, .int x3, .int x4] m (fX7_read x1 x2 x3 x4 m) := BS_of (by decide) (Nat.le_of_ble_eq_true rfl) (fun X _ => by
    show T qX7_read X (fX7_read x1 x2 x3 x4 m) 0 [(0, .ref 48), (1, .int x1), (2, .int x2), (3, .int x3), (4, .int x4)] [] m
    unfold fX7_read
    refine T_iload_n 1 rfl rfl dX7_read_0 ?_
    refine T_cSI [.int x1] [] mkX7_isSheet lmX7_252 rfl (by decide) (Nat.le_of_ble_eq_true rfl) dX7_read_1 (bsX7_isSheet _ x1 m) (fun z2 m1 => ?_)
    refine T_if_eq 25 dX7_read_4 (by decide) (fun _ => ?_) (fun _ => ?_)
    · refine T_iconst (-1 : Int32) (by decide) dX7_read_25 ?_
      exact T_iret rfl dX7_read_26
    · refine T_iload_n 2 rfl rfl dX7_read_7 ?_
      refine T_cSI [.int x2] [] mkX7_isLane lmX7_255 rfl (by decide) (Nat.le_of_ble_eq_true rfl) dX7_read_8 (bsX7_isLane _ x2 m1) (fun z5 m4 => ?_)
      refine T_if_eq 25 dX7_read_11 (by decide) (fun _ => ?_) (fun _ => ?_)
      · refine T_iconst (-1 : Int32) (by decide) dX7_read_25 ?_
        exact T_iret rfl dX7_read_26
      · refine T_iload 4 rfl dX7_read_14 ?_
        refine T_iconst (0 : Int32) (by decide) dX7_read_16 ?_
        refine T_bipush (20 : Int32) (by decide) dX7_read_17 ?_
        refine T_cSI [.int x4, .int (0 : Int32), .int (20 : Int32)] [] mkX7_within lmX7_73 rfl (by decide) (Nat.le_of_ble_eq_true rfl) dX7_read_19 (bsX7_within _ x4 (0 : Int32) (20 : Int32) m4) (fun z8 m7 => ?_)
        refine T_if_ne 27 dX7_read_22 (by decide) (fun _ => ?_) (fun _ => ?_)
        · refine T_iconst (-1 : Int32) (by decide) dX7_read_25 ?_
          exact T_iret rfl dX7_read_26
        · refine T_aload_n 0 rfl rfl dX7_read_27 ?_
          refine gRX7_64 rfl kd_48 80 rfl dX7_read_28 ?_
          refine T_iload_n 1 rfl rfl dX7_read_31 ?_
          refine T_aaldS kd_80 dX7_read_32 (fun hv10 => ?_)
          refine T_astore (lv' := [(5, .ref (rf 80 (x1).toNatClampNeg)), (0, .ref 48), (1, .int x1), (2, .int x2), (3, .int x3), (4, .int x4)]) (Nat.le_of_ble_eq_true rfl) rfl dX7_read_33 ?_
          refine T_aload_n 1 rfl rfl dX7_read_35 ?_
          refine gRX7_23 rfl kd_48 8 rfl dX7_read_36 ?_
          refine T_aload_n 1 rfl rfl dX7_read_39 ?_
          refine gRX7_19 rfl kd_48 0 rfl dX7_read_40 ?_
          refine T_cVV (c := 4) [.ref 0] [] mkX4_copyFrom lmX7_91 rfl rfl (by decide) (Nat.le_of_ble_eq_true rfl) kd_8 dX7_read_43 (bsX4_copyFrom _ 8 0 m7 kd_8 kd_0) (fun m11 => ?_)
          refine T_iconst (0 : Int32) (by decide) dX7_read_46 ?_
          refine T_istore (lv' := [(6, .int (0 : Int32)), (5, .ref (rf 80 (x1).toNatClampNeg)), (0, .ref 48), (1, .int x1), (2, .int x2), (3, .int x3), (4, .int x4)]) (Nat.le_of_ble_eq_true rfl) rfl dX7_read_47 ?_
          refine T_iconst (0 : Int32) (by decide) dX7_read_49 ?_
          refine T_istore (lv' := [(7, .int (0 : Int32)), (6, .int (0 : Int32)), (5, .ref (rf 80 (x1).toNatClampNeg)), (0, .ref 48), (1, .int x1), (2, .int x2), (3, .int x3), (4, .int x4)]) (Nat.le_of_ble_eq_true rfl) rfl dX7_read_50 ?_
          refine T_iconst (0 : Int32) (by decide) dX7_read_52 ?_
          refine T_istore (lv' := [(8, .int (0 : Int32)), (7, .int (0 : Int32)), (6, .int (0 : Int32)), (5, .ref (rf 80 (x1).toNatClampNeg)), (0, .ref 48), (1, .int x1), (2, .int x2), (3, .int x3), (4, .int x4)]) (Nat.le_of_ble_eq_true rfl) rfl dX7_read_53 ?_
          exact T_sub [4, 6, 7, 8, 3, 2, 1, 0] rfl (tX7_read_55 X x2 x3 x4 (rf 80 (x1).toNatClampNeg) (kdA80 hv10) FU ((0 : Int32), (0 : Int32), (0 : Int32), m11)))
theorem lmX7_272 : Cond.methodLink RX7 272 yX7_countImages ∈ gdL := gd_mem 869 (by decide +kernel) (by decide +kernel)
theorem lmX7_275 : Cond.methodLink RX7 275 yX5_isNothing ∈ gdL := gd_mem 873 (by decide +kernel) (by decide +kernel)
theorem lmX7_282 : Cond.methodLink RX7 282 yX4_allWear ∈ gdL := gd_mem 874 (by decide +kernel) (by decide +kernel)
theorem lfX7_279 : Cond.fieldLink RX7 279 "RankStairs$Sheet" "size" "I" ∈ gdL := gd_mem 289 (by decide +kernel) (by decide +kernel)
theorem gIX7_279 {q : mMI} {X : mCx} {tgt : mR} {pc : Nat} {lv : List (Nat × Value)} {st : List Value} {μ : mMem} {b : Nat} (hq : q.1.cls = RX7) (hb : kd b = (5, 0)) (hd : decode q.2.1 pc = .ok (.getfield 279, 3)) (h : T q X tgt (pc + 3) lv (.int (μ.1 b 0) :: st) μ) : T q X tgt pc lv (.ref b :: st) μ := T_getI (c := 5) rfl (by decide) rfl (by decide) (by rw [hq]; exact lfX7_279) hb hd h
theorem pIX7_279 {q : mMI} {X : mCx} {tgt : mR} {pc : Nat} {lv : List (Nat × Value)} {st : List Value} {μ : mMem} {b : Nat} {x : Int32} (hq : q.1.cls = RX7) (hn : narrow .int (.int x) = .int x) (hfit : fits .int (.int x) = true) (hb : kd b = (5, 0)) (hd : decode q.2.1 pc = .ok (.putfield 279, 3)) (h : T q X tgt (pc + 3) lv st (si μ b 0 x)) : T q X tgt pc lv (.int x :: .ref b :: st) μ := T_put (c := 5) rfl (by decide) rfl (by decide) (by rw [hq]; exact lfX7_279) (by decide) hn hfit hb hd h
def fX7_count (x1 : Int32) (m : mMem) : mR := if x1 = (0 : Int32) then some (some (.int (m.1 65 0)), m) else if x1 = (1 : Int32) then bI (fX7_countImages m) (fun z2 m1 => some (some (.int z2), m1)) else if x1 = (2 : Int32) then some (some (.int (m.1 49 0)), m) else if x1 = (3 : Int32) then ga (0 : Int32) 4 (bI (fX5_isNothing (rf 80 ((0 : Int32)).toNatClampNeg) m) (fun z6 m5 => if z6 = (0 : Int32) then ga (0 : Int32) 4 (some (some (.int (m5.1 (rf 80 ((0 : Int32)).toNatClampNeg) 0)), m5)) else some (some (.int (-4 : Int32)), m5))) else if x1 = (4 : Int32) then bI (fX4_brokenBits 0 m) (fun z10 m9 => bI (fJ6_bitCount_0f7a4 z10 m9) (fun z13 m12 => some (some (.int z13), m12))) else if x1 = (5 : Int32) then bI (fX4_allWear 0 m) (fun z16 m15 => some (some (.int z16), m15)) else if x1 = (6 : Int32) then bI (fX4_homeBits 0 m) (fun z19 m18 => bI (fJ6_bitCount_0f7a4 z19 m18) (fun z22 m21 => some (some (.int z22), m21))) else some (some (.int (-1 : Int32)), m)
set_option maxRecDepth 100000 in
theorem bsX7_count (l : Launch) (x1 : Int32) (m : mMem)  : BS l qX7_count [.ref 48, .int x1] m (fX7_count x1 m) := BS_of (by decide) (Nat.le_of_ble_eq_true rfl) (fun X _ => by
    show T qX7_count X (fX7_count x1 m) 0 [(0, .ref 48), (1, .int x1)] [] m
    unfold fX7_count
    refine T_iload_n 1 rfl rfl dX7_count_0 ?_
    refine T_ite (fun hc => ?_) (fun hn0 => ?_)
    · refine T_tsIn (0 : Int32) 44 hc dX7_count_1 (by decide) (by decide) rfl (by decide) ?_
      refine T_aload_n 0 rfl rfl dX7_count_44 ?_
      refine gRX7_58 rfl kd_48 65 rfl dX7_count_45 ?_
      refine gIX7_95 rfl kd_65 dX7_count_48 ?_
      exact T_iret rfl dX7_count_51
    · refine T_ite (fun hc => ?_) (fun hn1 => ?_)
      · refine T_tsIn (1 : Int32) 52 hc dX7_count_1 (by decide) (by decide) rfl (by decide) ?_
        refine T_aload_n 0 rfl rfl dX7_count_52 ?_
        refine T_cVI (c := 7) [] [] mkX7_countImages lmX7_272 rfl rfl (by decide) (Nat.le_of_ble_eq_true rfl) kd_48 dX7_count_53 (bsX7_countImages _  m) (fun z2 m1 => ?_)
        exact T_iret rfl dX7_count_56
      · refine T_ite (fun hc => ?_) (fun hn2 => ?_)
        · refine T_tsIn (2 : Int32) 57 hc dX7_count_1 (by decide) (by decide) rfl (by decide) ?_
          refine T_aload_n 0 rfl rfl dX7_count_57 ?_
          refine gRX7_10 rfl kd_48 49 rfl dX7_count_58 ?_
          refine gIX7_81 rfl kd_49 dX7_count_61 ?_
          exact T_iret rfl dX7_count_64
        · refine T_ite (fun hc => ?_) (fun hn3 => ?_)
          · refine T_tsIn (3 : Int32) 65 hc dX7_count_1 (by decide) (by decide) rfl (by decide) ?_
            refine T_aload_n 0 rfl rfl dX7_count_65 ?_
            refine gRX7_64 rfl kd_48 80 rfl dX7_count_66 ?_
            refine T_iconst (0 : Int32) (by decide) dX7_count_69 ?_
            refine T_aaldS kd_80 dX7_count_70 (fun hv4 => ?_)
            refine T_cVI (c := 5) [] [] mkX5_isNothing lmX7_275 rfl rfl (by decide) (Nat.le_of_ble_eq_true rfl) (kdA80 hv4) dX7_count_71 (bsX5_isNothing _ (rf 80 ((0 : Int32)).toNatClampNeg) m (kdA80 hv4)) (fun z6 m5 => ?_)
            refine T_if_eq 82 dX7_count_74 (by decide) (fun _ => ?_) (fun _ => ?_)
            · refine T_aload_n 0 rfl rfl dX7_count_82 ?_
              refine gRX7_64 rfl kd_48 80 rfl dX7_count_83 ?_
              refine T_iconst (0 : Int32) (by decide) dX7_count_86 ?_
              refine T_aaldS kd_80 dX7_count_87 (fun hv8 => ?_)
              refine gIX7_279 rfl (kdA80 hv8) dX7_count_88 ?_
              exact T_iret rfl dX7_count_91
            · refine T_bipush (-4 : Int32) (by decide) dX7_count_77 ?_
              refine T_goto 91 dX7_count_79 (by decide) ?_
              exact T_iret rfl dX7_count_91
          · refine T_ite (fun hc => ?_) (fun hn4 => ?_)
            · refine T_tsIn (4 : Int32) 92 hc dX7_count_1 (by decide) (by decide) rfl (by decide) ?_
              refine T_aload_n 0 rfl rfl dX7_count_92 ?_
              refine gRX7_19 rfl kd_48 0 rfl dX7_count_93 ?_
              refine T_cVI (c := 4) [] [] mkX4_brokenBits lmX7_207 rfl rfl (by decide) (Nat.le_of_ble_eq_true rfl) kd_0 dX7_count_96 (bsX4_brokenBits _ 0 m kd_0) (fun z10 m9 => ?_)
              refine T_cSI [.int z10] [] mkJ6_bitCount_0f7a4 lmX7_175 rfl (by decide) (Nat.le_of_ble_eq_true rfl) dX7_count_99 (bsJ6_bitCount_0f7a4 _ z10 m9) (fun z13 m12 => ?_)
              exact T_iret rfl dX7_count_102
            · refine T_ite (fun hc => ?_) (fun hn5 => ?_)
              · refine T_tsIn (5 : Int32) 103 hc dX7_count_1 (by decide) (by decide) rfl (by decide) ?_
                refine T_aload_n 0 rfl rfl dX7_count_103 ?_
                refine gRX7_19 rfl kd_48 0 rfl dX7_count_104 ?_
                refine T_cVI (c := 4) [] [] mkX4_allWear lmX7_282 rfl rfl (by decide) (Nat.le_of_ble_eq_true rfl) kd_0 dX7_count_107 (bsX4_allWear _ 0 m kd_0) (fun z16 m15 => ?_)
                exact T_iret rfl dX7_count_110
              · refine T_ite (fun hc => ?_) (fun hn6 => ?_)
                · refine T_tsIn (6 : Int32) 111 hc dX7_count_1 (by decide) (by decide) rfl (by decide) ?_
                  refine T_aload_n 0 rfl rfl dX7_count_111 ?_
                  refine gRX7_19 rfl kd_48 0 rfl dX7_count_112 ?_
                  refine T_cVI (c := 4) [] [] mkX4_homeBits lmX7_196 rfl rfl (by decide) (Nat.le_of_ble_eq_true rfl) kd_0 dX7_count_115 (bsX4_homeBits _ 0 m kd_0) (fun z19 m18 => ?_)
                  refine T_cSI [.int z19] [] mkJ6_bitCount_0f7a4 lmX7_175 rfl (by decide) (Nat.le_of_ble_eq_true rfl) dX7_count_118 (bsJ6_bitCount_0f7a4 _ z19 m18) (fun z22 m21 => ?_)
                  exact T_iret rfl dX7_count_121
                · refine T_tsOut 122 (by have e0 := neT (k := 0) hn0 (by decide); have e1 := neT (k := 1) hn1 (by decide); have e2 := neT (k := 2) hn2 (by decide); have e3 := neT (k := 3) hn3 (by decide); have e4 := neT (k := 4) hn4 (by decide); have e5 := neT (k := 5) hn5 (by decide); have e6 := neT (k := 6) hn6 (by decide); omega) dX7_count_1 (by decide) ?_
                  refine T_iconst (-1 : Int32) (by decide) dX7_count_122 ?_
                  exact T_iret rfl dX7_count_123)
theorem lmX7_204 : Cond.methodLink RX7 204 yX1_goDays ∈ gdL := gd_mem 668 (by decide +kernel) (by decide +kernel)
def fX7_day (x1 : Int32) (m : mMem) : mR := bI (fX7_within x1 (0 : Int32) (60 : Int32) m) (fun z2 m1 => if z2 = (0 : Int32) then some (some (.int (-1 : Int32)), m1) else if ((m1.1 0 4) + x1) < (1000 : Int32) then bI (fX1_goDays 0 x1 m1) (fun z5 m4 => some (some (.int z5), m4)) else some (some (.int (-3 : Int32)), m1))
set_option maxRecDepth 100000 in
theorem bsX7_day (l : Launch) (x1 : Int32) (m : mMem)  : BS l qX7_day [.ref 48, .int x1] m (fX7_day x1 m) := BS_of (by decide) (Nat.le_of_ble_eq_true rfl) (fun X _ => by
    show T qX7_day X (fX7_day x1 m) 0 [(0, .ref 48), (1, .int x1)] [] m
    unfold fX7_day
    refine T_iload_n 1 rfl rfl dX7_day_0 ?_
    refine T_iconst (0 : Int32) (by decide) dX7_day_1 ?_
    refine T_bipush (60 : Int32) (by decide) dX7_day_2 ?_
    refine T_cSI [.int x1, .int (0 : Int32), .int (60 : Int32)] [] mkX7_within lmX7_73 rfl (by decide) (Nat.le_of_ble_eq_true rfl) dX7_day_4 (bsX7_within _ x1 (0 : Int32) (60 : Int32) m) (fun z2 m1 => ?_)
    refine T_if_ne 12 dX7_day_7 (by decide) (fun _ => ?_) (fun _ => ?_)
    · refine T_iconst (-1 : Int32) (by decide) dX7_day_10 ?_
      exact T_iret rfl dX7_day_11
    · refine T_aload_n 0 rfl rfl dX7_day_12 ?_
      refine gRX7_19 rfl kd_48 0 rfl dX7_day_13 ?_
      refine gIX7_113 rfl kd_0 dX7_day_16 ?_
      refine T_iload_n 1 rfl rfl dX7_day_19 ?_
      refine T_iadd dX7_day_20 ?_
      refine T_sipush (1000 : Int32) (by decide) dX7_day_21 ?_
      refine T_icmp_lt 30 dX7_day_24 (by decide) (fun _ => ?_) (fun _ => ?_)
      · refine T_aload_n 0 rfl rfl dX7_day_30 ?_
        refine gRX7_37 rfl kd_48 54 rfl dX7_day_31 ?_
        refine T_aload_n 0 rfl rfl dX7_day_34 ?_
        refine gRX7_19 rfl kd_48 0 rfl dX7_day_35 ?_
        refine T_iload_n 1 rfl rfl dX7_day_38 ?_
        refine T_cVI (c := 1) [.ref 0, .int x1] [] mkX1_goDays lmX7_204 rfl rfl (by decide) (Nat.le_of_ble_eq_true rfl) kd_54 dX7_day_39 (bsX1_goDays _ 0 x1 m1 kd_0) (fun z5 m4 => ?_)
        exact T_iret rfl dX7_day_42
      · refine T_bipush (-3 : Int32) (by decide) dX7_day_27 ?_
        exact T_iret rfl dX7_day_29)
def jX7_ahead_34 (x1 : Int32) (x2 : Int32) (x3 : Int32) (m : mMem) : mR := bV (fX4_copyFrom 8 0 m) (fun m11 => bI (fX1_goDays 8 x1 m11) (fun z13 m12 => if x2 = (0 : Int32) then some (some (.int z13), m12) else if x2 = (1 : Int32) then bI (fX4_brokenBits 8 m12) (fun z16 m15 => some (some (.int z16), m15)) else ga x3 10 (some (some (.int (m12.1 11 (x3).toNatClampNeg)), m12))))
set_option maxRecDepth 100000 in
theorem uX7_ahead_34 (X : mCx) (x1 : Int32) (x2 : Int32) (x3 : Int32) (m : mMem)  : T qX7_ahead X (jX7_ahead_34 x1 x2 x3 m) 34 [(0, .ref 48), (1, .int x1), (2, .int x2), (3, .int x3)] [] m := by
  unfold jX7_ahead_34
  refine T_aload_n 0 rfl rfl dX7_ahead_34 ?_
  refine gRX7_23 rfl kd_48 8 rfl dX7_ahead_35 ?_
  refine T_aload_n 0 rfl rfl dX7_ahead_38 ?_
  refine gRX7_19 rfl kd_48 0 rfl dX7_ahead_39 ?_
  refine T_cVV (c := 4) [.ref 0] [] mkX4_copyFrom lmX7_91 rfl rfl (by decide) (Nat.le_of_ble_eq_true rfl) kd_8 dX7_ahead_42 (bsX4_copyFrom _ 8 0 m kd_8 kd_0) (fun m11 => ?_)
  refine T_aload_n 0 rfl rfl dX7_ahead_45 ?_
  refine gRX7_37 rfl kd_48 54 rfl dX7_ahead_46 ?_
  refine T_aload_n 0 rfl rfl dX7_ahead_49 ?_
  refine gRX7_23 rfl kd_48 8 rfl dX7_ahead_50 ?_
  refine T_iload_n 1 rfl rfl dX7_ahead_53 ?_
  refine T_cVI (c := 1) [.ref 8, .int x1] [] mkX1_goDays lmX7_204 rfl rfl (by decide) (Nat.le_of_ble_eq_true rfl) kd_54 dX7_ahead_54 (bsX1_goDays _ 8 x1 m11 kd_8) (fun z13 m12 => ?_)
  refine T_istore (lv' := [(4, .int z13), (0, .ref 48), (1, .int x1), (2, .int x2), (3, .int x3)]) (Nat.le_of_ble_eq_true rfl) rfl dX7_ahead_57 ?_
  refine T_iload_n 3 rfl rfl dX7_ahead_59 ?_
  refine T_if_ne 66 dX7_ahead_60 (by decide) (fun _ => ?_) (fun _ => ?_)
  · refine T_iload 0 rfl dX7_ahead_63 ?_
    exact T_iret rfl dX7_ahead_65
  · refine T_iload_n 3 rfl rfl dX7_ahead_66 ?_
    refine T_iconst (1 : Int32) (by decide) dX7_ahead_67 ?_
    refine T_icmp_ne 81 dX7_ahead_68 (by decide) (fun _ => ?_) (fun _ => ?_)
    · refine T_aload_n 1 rfl rfl dX7_ahead_71 ?_
      refine gRX7_23 rfl kd_48 8 rfl dX7_ahead_72 ?_
      refine T_cVI (c := 4) [] [] mkX4_brokenBits lmX7_207 rfl rfl (by decide) (Nat.le_of_ble_eq_true rfl) kd_8 dX7_ahead_75 (bsX4_brokenBits _ 8 m12 kd_8) (fun z16 m15 => ?_)
      refine T_goto 90 dX7_ahead_78 (by decide) ?_
      exact T_iret rfl dX7_ahead_90
    · refine T_aload_n 1 rfl rfl dX7_ahead_81 ?_
      refine gRX7_23 rfl kd_48 8 rfl dX7_ahead_82 ?_
      refine gRX7_127 rfl kd_8 11 rfl dX7_ahead_85 ?_
      refine T_iload_n 4 rfl rfl dX7_ahead_88 ?_
      refine T_iald kd_11 dX7_ahead_89 ?_
      exact T_iret rfl dX7_ahead_90
def fX7_ahead (x1 : Int32) (x2 : Int32) (m : mMem) : mR := li (x2 - (10 : Int32)) (fun y1 => bI (fX7_within x1 (0 : Int32) (60 : Int32) m) (fun z3 m2 => if z3 = (0 : Int32) then some (some (.int (-1 : Int32)), m2) else bI (fX7_within x2 (0 : Int32) (1 : Int32) m2) (fun z6 m5 => if z6 = (0 : Int32) then bI (fX7_isStep y1 m5) (fun z9 m8 => if z9 = (0 : Int32) then some (some (.int (-1 : Int32)), m8) else jX7_ahead_34 x1 x2 y1 m8) else jX7_ahead_34 x1 x2 y1 m5)))
set_option maxRecDepth 100000 in
theorem bsX7_ahead (l : Launch) (x1 : Int32) (x2 : Int32) (m : mMem)  : BS l qX7_ahead [.ref 48, .int x1, .int x2] m (fX7_ahead x1 x2 m) := BS_of (by decide) (Nat.le_of_ble_eq_true rfl) (fun X _ => by
    show T qX7_ahead X (fX7_ahead x1 x2 m) 0 [(0, .ref 48), (1, .int x1), (2, .int x2)] [] m
    unfold fX7_ahead
    refine T_iload_n 2 rfl rfl dX7_ahead_0 ?_
    refine T_bipush (10 : Int32) (by decide) dX7_ahead_1 ?_
    refine T_isub dX7_ahead_3 ?_
    refine T_istore_n (lv' := [(3, .int (x2 - (10 : Int32))), (0, .ref 48), (1, .int x1), (2, .int x2)]) rfl (Nat.le_of_ble_eq_true rfl) rfl dX7_ahead_4 ?_
    refine T_li (fun y1 => ?_)
    refine T_iload_n 2 rfl rfl dX7_ahead_5 ?_
    refine T_iconst (0 : Int32) (by decide) dX7_ahead_6 ?_
    refine T_bipush (60 : Int32) (by decide) dX7_ahead_7 ?_
    refine T_cSI [.int x1, .int (0 : Int32), .int (60 : Int32)] [] mkX7_within lmX7_73 rfl (by decide) (Nat.le_of_ble_eq_true rfl) dX7_ahead_9 (bsX7_within _ x1 (0 : Int32) (60 : Int32) m) (fun z3 m2 => ?_)
    refine T_if_eq 32 dX7_ahead_12 (by decide) (fun _ => ?_) (fun _ => ?_)
    · refine T_iconst (-1 : Int32) (by decide) dX7_ahead_32 ?_
      exact T_iret rfl dX7_ahead_33
    · refine T_iload_n 3 rfl rfl dX7_ahead_15 ?_
      refine T_iconst (0 : Int32) (by decide) dX7_ahead_16 ?_
      refine T_iconst (1 : Int32) (by decide) dX7_ahead_17 ?_
      refine T_cSI [.int x2, .int (0 : Int32), .int (1 : Int32)] [] mkX7_within lmX7_73 rfl (by decide) (Nat.le_of_ble_eq_true rfl) dX7_ahead_18 (bsX7_within _ x2 (0 : Int32) (1 : Int32) m2) (fun z6 m5 => ?_)
      refine T_if_ne 34 dX7_ahead_21 (by decide) (fun _ => ?_) (fun _ => ?_)
      · refine T_aload_n 1 rfl rfl dX7_ahead_24 ?_
        refine T_iload_n 0 rfl rfl dX7_ahead_25 ?_
        refine T_cVI (c := 7) [.int y1] [] mkX7_isStep lmX7_116 rfl rfl (by decide) (Nat.le_of_ble_eq_true rfl) kd_48 dX7_ahead_26 (bsX7_isStep _ y1 m5) (fun z9 m8 => ?_)
        refine T_if_ne 34 dX7_ahead_29 (by decide) (fun _ => ?_) (fun _ => ?_)
        · refine T_iconst (-1 : Int32) (by decide) dX7_ahead_32 ?_
          exact T_iret rfl dX7_ahead_33
        · exact T_sub [1, 2, 3, 0] rfl (uX7_ahead_34 X x1 x2 y1 m8 )
      · exact T_sub [1, 2, 3, 0] rfl (uX7_ahead_34 X x1 x2 y1 m5 ))
def bX7_breaks_34 (x1 : Int32) (x2 : Int32) (k34 : Int32 × mMem → mR) (s : Int32 × mMem) : mR := match s with
  | (x3, m) => if (60 : Int32) < x3 then some (some (.int (-4 : Int32)), m) else bI (fX1_goDays 8 (1 : Int32) m) (fun z10 m9 => bI (fX4_brokenBits 8 m9) (fun z13 m12 => li (z13 &&& x2) (fun y15 => if y15 = (0 : Int32) then li (x3 + (1 : Int32)) (fun y16 => k34 (y16, m12)) else if x1 = (0 : Int32) then some (some (.int x3), m12) else bI (fJ6_numberOfTrailingZeros_0f7a4 y15 m12) (fun z18 m17 => some (some (.int z18), m17)))))
set_option maxRecDepth 100000 in
theorem tX7_breaks_34 (X : mCx) (x1 : Int32) (x2 : Int32)  : ∀ (n : Nat) (s : Int32 × mMem), T qX7_breaks X (lp (bX7_breaks_34 x1 x2) n s) 34 [(0, .ref 48), (1, .int x1), (2, .int x2), (3, .int s.1)] [] s.2 :=
  T_lp (body := bX7_breaks_34 x1 x2) (lv := fun s => [(0, .ref 48), (1, .int x1), (2, .int x2), (3, .int s.1)]) (st := fun _ => []) (μ := fun s : Int32 × mMem => s.2) (fun k34 hk34 s => by
    obtain ⟨x3, m⟩ := s
    show T qX7_breaks X (bX7_breaks_34 x1 x2 k34 (x3, m)) 34 [(0, .ref 48), (1, .int x1), (2, .int x2), (3, .int x3)] [] m
    unfold bX7_breaks_34
    dsimp only
    refine T_iload_n 3 rfl rfl dX7_breaks_34 ?_
    refine T_bipush (60 : Int32) (by decide) dX7_breaks_35 ?_
    refine T_icmp_gt 89 dX7_breaks_37 (by decide) (fun _ => ?_) (fun _ => ?_)
    · refine T_bipush (-4 : Int32) (by decide) dX7_breaks_89 ?_
      exact T_iret rfl dX7_breaks_91
    · refine T_aload_n 0 rfl rfl dX7_breaks_40 ?_
      refine gRX7_37 rfl kd_48 54 rfl dX7_breaks_41 ?_
      refine T_aload_n 0 rfl rfl dX7_breaks_44 ?_
      refine gRX7_23 rfl kd_48 8 rfl dX7_breaks_45 ?_
      refine T_iconst (1 : Int32) (by decide) dX7_breaks_48 ?_
      refine T_cVI (c := 1) [.ref 8, .int (1 : Int32)] [] mkX1_goDays lmX7_204 rfl rfl (by decide) (Nat.le_of_ble_eq_true rfl) kd_54 dX7_breaks_49 (bsX1_goDays _ 8 (1 : Int32) m kd_8) (fun z10 m9 => ?_)
      refine T_pop rfl dX7_breaks_52 ?_
      refine T_aload_n 0 rfl rfl dX7_breaks_53 ?_
      refine gRX7_23 rfl kd_48 8 rfl dX7_breaks_54 ?_
      refine T_cVI (c := 4) [] [] mkX4_brokenBits lmX7_207 rfl rfl (by decide) (Nat.le_of_ble_eq_true rfl) kd_8 dX7_breaks_57 (bsX4_brokenBits _ 8 m9 kd_8) (fun z13 m12 => ?_)
      refine T_iload_n 2 rfl rfl dX7_breaks_60 ?_
      refine T_iand dX7_breaks_61 ?_
      refine T_istore (lv' := [(4, .int (z13 &&& x2)), (0, .ref 48), (1, .int x1), (2, .int x2), (3, .int x3)]) (Nat.le_of_ble_eq_true rfl) rfl dX7_breaks_62 ?_
      refine T_li (fun y15 => ?_)
      refine T_iload 0 rfl dX7_breaks_64 ?_
      refine T_if_eq 83 dX7_breaks_66 (by decide) (fun _ => ?_) (fun _ => ?_)
      · refine T_iinc (lv' := [(3, .int (x3 + (1 : Int32))), (4, .int y15), (0, .ref 48), (1, .int x1), (2, .int x2)]) 4 (1 : Int32) rfl (by decide) (Nat.le_of_ble_eq_true rfl) rfl dX7_breaks_83 ?_
        refine T_li (fun y16 => ?_)
        refine T_goto 34 dX7_breaks_86 (by decide) ?_
        exact T_sub [2, 3, 4, 0] rfl (hk34 (y16, m12))
      · refine T_iload_n 2 rfl rfl dX7_breaks_69 ?_
        refine T_if_ne 77 dX7_breaks_70 (by decide) (fun _ => ?_) (fun _ => ?_)
        · refine T_iload_n 4 rfl rfl dX7_breaks_73 ?_
          refine T_goto 82 dX7_breaks_74 (by decide) ?_
          exact T_iret rfl dX7_breaks_82
        · refine T_iload 0 rfl dX7_breaks_77 ?_
          refine T_cSI [.int y15] [] mkJ6_numberOfTrailingZeros_0f7a4 lmX7_210 rfl (by decide) (Nat.le_of_ble_eq_true rfl) dX7_breaks_79 (bsJ6_numberOfTrailingZeros_0f7a4 _ y15 m12) (fun z18 m17 => ?_)
          exact T_iret rfl dX7_breaks_82)
def fX7_breaks (x1 : Int32) (m : mMem) : mR := bI (fX7_within x1 (0 : Int32) (1 : Int32) m) (fun z2 m1 => if z2 = (0 : Int32) then some (some (.int (-1 : Int32)), m1) else bI (fX4_brokenBits 0 m1) (fun z5 m4 => li (z5 ^^^ (-1 : Int32)) (fun y7 => bV (fX4_copyFrom 8 0 m4) (fun m8 => lp (bX7_breaks_34 x1 y7) FU ((1 : Int32), m8)))))
set_option maxRecDepth 100000 in
theorem bsX7_breaks (l : Launch) (x1 : Int32) (m : mMem)  : BS l qX7_breaks [.ref 48, .int x1] m (fX7_breaks x1 m) := BS_of (by decide) (Nat.le_of_ble_eq_true rfl) (fun X _ => by
    show T qX7_breaks X (fX7_breaks x1 m) 0 [(0, .ref 48), (1, .int x1)] [] m
    unfold fX7_breaks
    refine T_iload_n 1 rfl rfl dX7_breaks_0 ?_
    refine T_iconst (0 : Int32) (by decide) dX7_breaks_1 ?_
    refine T_iconst (1 : Int32) (by decide) dX7_breaks_2 ?_
    refine T_cSI [.int x1, .int (0 : Int32), .int (1 : Int32)] [] mkX7_within lmX7_73 rfl (by decide) (Nat.le_of_ble_eq_true rfl) dX7_breaks_3 (bsX7_within _ x1 (0 : Int32) (1 : Int32) m) (fun z2 m1 => ?_)
    refine T_if_ne 11 dX7_breaks_6 (by decide) (fun _ => ?_) (fun _ => ?_)
    · refine T_iconst (-1 : Int32) (by decide) dX7_breaks_9 ?_
      exact T_iret rfl dX7_breaks_10
    · refine T_aload_n 0 rfl rfl dX7_breaks_11 ?_
      refine gRX7_19 rfl kd_48 0 rfl dX7_breaks_12 ?_
      refine T_cVI (c := 4) [] [] mkX4_brokenBits lmX7_207 rfl rfl (by decide) (Nat.le_of_ble_eq_true rfl) kd_0 dX7_breaks_15 (bsX4_brokenBits _ 0 m1 kd_0) (fun z5 m4 => ?_)
      refine T_iconst (-1 : Int32) (by decide) dX7_breaks_18 ?_
      refine T_ixor dX7_breaks_19 ?_
      refine T_istore_n (lv' := [(2, .int (z5 ^^^ (-1 : Int32))), (0, .ref 48), (1, .int x1)]) rfl (Nat.le_of_ble_eq_true rfl) rfl dX7_breaks_20 ?_
      refine T_li (fun y7 => ?_)
      refine T_aload_n 1 rfl rfl dX7_breaks_21 ?_
      refine gRX7_23 rfl kd_48 8 rfl dX7_breaks_22 ?_
      refine T_aload_n 1 rfl rfl dX7_breaks_25 ?_
      refine gRX7_19 rfl kd_48 0 rfl dX7_breaks_26 ?_
      refine T_cVV (c := 4) [.ref 0] [] mkX4_copyFrom lmX7_91 rfl rfl (by decide) (Nat.le_of_ble_eq_true rfl) kd_8 dX7_breaks_29 (bsX4_copyFrom _ 8 0 m4 kd_8 kd_0) (fun m8 => ?_)
      refine T_iconst (1 : Int32) (by decide) dX7_breaks_32 ?_
      refine T_istore_n (lv' := [(3, .int (1 : Int32)), (2, .int y7), (0, .ref 48), (1, .int x1)]) rfl (Nat.le_of_ble_eq_true rfl) rfl dX7_breaks_33 ?_
      exact T_sub [2, 3, 1, 0] rfl (tX7_breaks_34 X x1 y7  FU ((1 : Int32), m8)))
def bX7_stuck_23 (x1 : Int32) (k23 : Int32 × mMem → mR) (s : Int32 × mMem) : mR := match s with
  | (x2, m) => if (60 : Int32) < x2 then some (some (.int (-4 : Int32)), m) else bI (fX4_getsHome 8 x1 m) (fun z6 m5 => if z6 = (0 : Int32) then some (some (.int x2), m5) else bI (fX1_goDays 8 (1 : Int32) m5) (fun z9 m8 => li (x2 + (1 : Int32)) (fun y11 => k23 (y11, m8))))
set_option maxRecDepth 100000 in
theorem tX7_stuck_23 (X : mCx) (x1 : Int32)  : ∀ (n : Nat) (s : Int32 × mMem), T qX7_stuck X (lp (bX7_stuck_23 x1) n s) 23 [(0, .ref 48), (1, .int x1), (2, .int s.1)] [] s.2 :=
  T_lp (body := bX7_stuck_23 x1) (lv := fun s => [(0, .ref 48), (1, .int x1), (2, .int s.1)]) (st := fun _ => []) (μ := fun s : Int32 × mMem => s.2) (fun k23 hk23 s => by
    obtain ⟨x2, m⟩ := s
    show T qX7_stuck X (bX7_stuck_23 x1 k23 (x2, m)) 23 [(0, .ref 48), (1, .int x1), (2, .int x2)] [] m
    unfold bX7_stuck_23
    dsimp only
    refine T_iload_n 2 rfl rfl dX7_stuck_23 ?_
    refine T_bipush (60 : Int32) (by decide) dX7_stuck_24 ?_
    refine T_icmp_gt 61 dX7_stuck_26 (by decide) (fun _ => ?_) (fun _ => ?_)
    · refine T_bipush (-4 : Int32) (by decide) dX7_stuck_61 ?_
      exact T_iret rfl dX7_stuck_63
    · refine T_aload_n 0 rfl rfl dX7_stuck_29 ?_
      refine gRX7_23 rfl kd_48 8 rfl dX7_stuck_30 ?_
      refine T_iload_n 1 rfl rfl dX7_stuck_33 ?_
      refine T_cVI (c := 4) [.int x1] [] mkX4_getsHome lmX7_186 rfl rfl (by decide) (Nat.le_of_ble_eq_true rfl) kd_8 dX7_stuck_34 (bsX4_getsHome _ 8 x1 m kd_8) (fun z6 m5 => ?_)
      refine T_if_ne 42 dX7_stuck_37 (by decide) (fun _ => ?_) (fun _ => ?_)
      · refine T_iload_n 2 rfl rfl dX7_stuck_40 ?_
        exact T_iret rfl dX7_stuck_41
      · refine T_aload_n 0 rfl rfl dX7_stuck_42 ?_
        refine gRX7_37 rfl kd_48 54 rfl dX7_stuck_43 ?_
        refine T_aload_n 0 rfl rfl dX7_stuck_46 ?_
        refine gRX7_23 rfl kd_48 8 rfl dX7_stuck_47 ?_
        refine T_iconst (1 : Int32) (by decide) dX7_stuck_50 ?_
        refine T_cVI (c := 1) [.ref 8, .int (1 : Int32)] [] mkX1_goDays lmX7_204 rfl rfl (by decide) (Nat.le_of_ble_eq_true rfl) kd_54 dX7_stuck_51 (bsX1_goDays _ 8 (1 : Int32) m5 kd_8) (fun z9 m8 => ?_)
        refine T_pop rfl dX7_stuck_54 ?_
        refine T_iinc (lv' := [(2, .int (x2 + (1 : Int32))), (0, .ref 48), (1, .int x1)]) 2 (1 : Int32) rfl (by decide) (Nat.le_of_ble_eq_true rfl) rfl dX7_stuck_55 ?_
        refine T_li (fun y11 => ?_)
        refine T_goto 23 dX7_stuck_58 (by decide) ?_
        exact T_sub [1, 2, 0] rfl (hk23 (y11, m8)))
def fX7_stuck (x1 : Int32) (m : mMem) : mR := bI (fX7_isLodger x1 m) (fun z2 m1 => if z2 = (0 : Int32) then some (some (.int (-1 : Int32)), m1) else bV (fX4_copyFrom 8 0 m1) (fun m4 => lp (bX7_stuck_23 x1) FU ((0 : Int32), m4)))
set_option maxRecDepth 100000 in
theorem bsX7_stuck (l : Launch) (x1 : Int32) (m : mMem)  : BS l qX7_stuck [.ref 48, .int x1] m (fX7_stuck x1 m) := BS_of (by decide) (Nat.le_of_ble_eq_true rfl) (fun X _ => by
    show T qX7_stuck X (fX7_stuck x1 m) 0 [(0, .ref 48), (1, .int x1)] [] m
    unfold fX7_stuck
    refine T_aload_n 0 rfl rfl dX7_stuck_0 ?_
    refine T_iload_n 1 rfl rfl dX7_stuck_1 ?_
    refine T_cVI (c := 7) [.int x1] [] mkX7_isLodger lmX7_136 rfl rfl (by decide) (Nat.le_of_ble_eq_true rfl) kd_48 dX7_stuck_2 (bsX7_isLodger _ x1 m) (fun z2 m1 => ?_)
    refine T_if_ne 10 dX7_stuck_5 (by decide) (fun _ => ?_) (fun _ => ?_)
    · refine T_iconst (-1 : Int32) (by decide) dX7_stuck_8 ?_
      exact T_iret rfl dX7_stuck_9
    · refine T_aload_n 0 rfl rfl dX7_stuck_10 ?_
      refine gRX7_23 rfl kd_48 8 rfl dX7_stuck_11 ?_
      refine T_aload_n 0 rfl rfl dX7_stuck_14 ?_
      refine gRX7_19 rfl kd_48 0 rfl dX7_stuck_15 ?_
      refine T_cVV (c := 4) [.ref 0] [] mkX4_copyFrom lmX7_91 rfl rfl (by decide) (Nat.le_of_ble_eq_true rfl) kd_8 dX7_stuck_18 (bsX4_copyFrom _ 8 0 m1 kd_8 kd_0) (fun m4 => ?_)
      refine T_iconst (0 : Int32) (by decide) dX7_stuck_21 ?_
      refine T_istore_n (lv' := [(2, .int (0 : Int32)), (0, .ref 48), (1, .int x1)]) rfl (Nat.le_of_ble_eq_true rfl) rfl dX7_stuck_22 ?_
      exact T_sub [1, 2, 0] rfl (tX7_stuck_23 X x1  FU ((0 : Int32), m4)))
theorem lmX7_213 : Cond.methodLink RX7 213 yX4_mostWear ∈ gdL := gd_mem 709 (by decide +kernel) (by decide +kernel)
def fX7_hold (x1 : Int32) (m : mMem) : mR := bI (fX7_within x1 (0 : Int32) (60 : Int32) m) (fun z2 m1 => if z2 = (0 : Int32) then some (some (.int (-1 : Int32)), m1) else bV (fX4_copyFrom 8 0 m1) (fun m4 => lt (si m4 8 3 (100 : Int32)) (fun m5 => bI (fX1_goDays 8 x1 m5) (fun z7 m6 => bI (fX4_mostWear 8 m6) (fun z10 m9 => li (z10 + (1 : Int32)) (fun y12 => if (99 : Int32) < y12 then some (some (.int (-4 : Int32)), m9) else some (some (.int y12), m9)))))))
set_option maxRecDepth 100000 in
theorem bsX7_hold (l : Launch) (x1 : Int32) (m : mMem)  : BS l qX7_hold [.ref 48, .int x1] m (fX7_hold x1 m) := BS_of (by decide) (Nat.le_of_ble_eq_true rfl) (fun X _ => by
    show T qX7_hold X (fX7_hold x1 m) 0 [(0, .ref 48), (1, .int x1)] [] m
    unfold fX7_hold
    refine T_iload_n 1 rfl rfl dX7_hold_0 ?_
    refine T_iconst (0 : Int32) (by decide) dX7_hold_1 ?_
    refine T_bipush (60 : Int32) (by decide) dX7_hold_2 ?_
    refine T_cSI [.int x1, .int (0 : Int32), .int (60 : Int32)] [] mkX7_within lmX7_73 rfl (by decide) (Nat.le_of_ble_eq_true rfl) dX7_hold_4 (bsX7_within _ x1 (0 : Int32) (60 : Int32) m) (fun z2 m1 => ?_)
    refine T_if_ne 12 dX7_hold_7 (by decide) (fun _ => ?_) (fun _ => ?_)
    · refine T_iconst (-1 : Int32) (by decide) dX7_hold_10 ?_
      exact T_iret rfl dX7_hold_11
    · refine T_aload_n 0 rfl rfl dX7_hold_12 ?_
      refine gRX7_23 rfl kd_48 8 rfl dX7_hold_13 ?_
      refine T_aload_n 0 rfl rfl dX7_hold_16 ?_
      refine gRX7_19 rfl kd_48 0 rfl dX7_hold_17 ?_
      refine T_cVV (c := 4) [.ref 0] [] mkX4_copyFrom lmX7_91 rfl rfl (by decide) (Nat.le_of_ble_eq_true rfl) kd_8 dX7_hold_20 (bsX4_copyFrom _ 8 0 m1 kd_8 kd_0) (fun m4 => ?_)
      refine T_aload_n 0 rfl rfl dX7_hold_23 ?_
      refine gRX7_23 rfl kd_48 8 rfl dX7_hold_24 ?_
      refine T_bipush (100 : Int32) (by decide) dX7_hold_27 ?_
      refine pIX7_110 rfl rfl rfl kd_8 dX7_hold_29 ?_
      refine T_lt (fun m5 => ?_)
      refine T_aload_n 0 rfl rfl dX7_hold_32 ?_
      refine gRX7_37 rfl kd_48 54 rfl dX7_hold_33 ?_
      refine T_aload_n 0 rfl rfl dX7_hold_36 ?_
      refine gRX7_23 rfl kd_48 8 rfl dX7_hold_37 ?_
      refine T_iload_n 1 rfl rfl dX7_hold_40 ?_
      refine T_cVI (c := 1) [.ref 8, .int x1] [] mkX1_goDays lmX7_204 rfl rfl (by decide) (Nat.le_of_ble_eq_true rfl) kd_54 dX7_hold_41 (bsX1_goDays _ 8 x1 m5 kd_8) (fun z7 m6 => ?_)
      refine T_pop rfl dX7_hold_44 ?_
      refine T_aload_n 0 rfl rfl dX7_hold_45 ?_
      refine gRX7_23 rfl kd_48 8 rfl dX7_hold_46 ?_
      refine T_cVI (c := 4) [] [] mkX4_mostWear lmX7_213 rfl rfl (by decide) (Nat.le_of_ble_eq_true rfl) kd_8 dX7_hold_49 (bsX4_mostWear _ 8 m6 kd_8) (fun z10 m9 => ?_)
      refine T_iconst (1 : Int32) (by decide) dX7_hold_52 ?_
      refine T_iadd dX7_hold_53 ?_
      refine T_istore_n (lv' := [(2, .int (z10 + (1 : Int32))), (0, .ref 48), (1, .int x1)]) rfl (Nat.le_of_ble_eq_true rfl) rfl dX7_hold_54 ?_
      refine T_li (fun y12 => ?_)
      refine T_iload_n 0 rfl rfl dX7_hold_55 ?_
      refine T_bipush (99 : Int32) (by decide) dX7_hold_56 ?_
      refine T_icmp_gt 65 dX7_hold_58 (by decide) (fun _ => ?_) (fun _ => ?_)
      · refine T_bipush (-4 : Int32) (by decide) dX7_hold_65 ?_
        exact T_iret rfl dX7_hold_67
      · refine T_iload_n 0 rfl rfl dX7_hold_61 ?_
        refine T_goto 67 dX7_hold_62 (by decide) ?_
        exact T_iret rfl dX7_hold_67)
theorem lmX7_84 : Cond.methodLink RX7 84 yX6_tell ∈ gdL := gd_mem 353 (by decide +kernel) (by decide +kernel)
theorem lmX7_98 : Cond.methodLink RX7 98 yX7_forgetImages ∈ gdL := gd_mem 482 (by decide +kernel) (by decide +kernel)
def fX7_text  (m : mMem) : mR := bI (fX6_tell 8 m) (fun z2 m1 => if (m1.1 49 1) = (0 : Int32) then bV (fX4_copyFrom 0 8 m1) (fun m4 => lt (si m4 65 0 (0 : Int32)) (fun m5 => bV (fX7_forgetImages m5) (fun m6 => some (some (.int z2), m6)))) else some (some (.int z2), m1))
set_option maxRecDepth 100000 in
theorem bsX7_text (l : Launch)  (m : mMem)  : BS l qX7_text [.ref 48] m (fX7_text  m) := BS_of (by decide) (Nat.le_of_ble_eq_true rfl) (fun X _ => by
    show T qX7_text X (fX7_text  m) 0 [(0, .ref 48)] [] m
    unfold fX7_text
    refine T_aload_n 0 rfl rfl dX7_text_0 ?_
    refine gRX7_10 rfl kd_48 49 rfl dX7_text_1 ?_
    refine T_aload_n 0 rfl rfl dX7_text_4 ?_
    refine gRX7_23 rfl kd_48 8 rfl dX7_text_5 ?_
    refine T_cVI (c := 6) [.ref 8] [] mkX6_tell lmX7_84 rfl rfl (by decide) (Nat.le_of_ble_eq_true rfl) kd_49 dX7_text_8 (bsX6_tell _ 8 m kd_8) (fun z2 m1 => ?_)
    refine T_istore_n (lv' := [(1, .int z2), (0, .ref 48)]) rfl (Nat.le_of_ble_eq_true rfl) rfl dX7_text_11 ?_
    refine T_aload_n 1 rfl rfl dX7_text_12 ?_
    refine gRX7_10 rfl kd_48 49 rfl dX7_text_13 ?_
    refine gIX7_88 rfl kd_49 dX7_text_16 ?_
    refine T_if_ne 45 dX7_text_19 (by decide) (fun _ => ?_) (fun _ => ?_)
    · refine T_aload_n 1 rfl rfl dX7_text_22 ?_
      refine gRX7_19 rfl kd_48 0 rfl dX7_text_23 ?_
      refine T_aload_n 1 rfl rfl dX7_text_26 ?_
      refine gRX7_23 rfl kd_48 8 rfl dX7_text_27 ?_
      refine T_cVV (c := 4) [.ref 8] [] mkX4_copyFrom lmX7_91 rfl rfl (by decide) (Nat.le_of_ble_eq_true rfl) kd_0 dX7_text_30 (bsX4_copyFrom _ 0 8 m1 kd_0 kd_8) (fun m4 => ?_)
      refine T_aload_n 1 rfl rfl dX7_text_33 ?_
      refine gRX7_58 rfl kd_48 65 rfl dX7_text_34 ?_
      refine T_iconst (0 : Int32) (by decide) dX7_text_37 ?_
      refine pIX7_95 rfl rfl rfl kd_65 dX7_text_38 ?_
      refine T_lt (fun m5 => ?_)
      refine T_aload_n 1 rfl rfl dX7_text_41 ?_
      refine T_cVV (c := 7) [] [] mkX7_forgetImages lmX7_98 rfl rfl (by decide) (Nat.le_of_ble_eq_true rfl) kd_48 dX7_text_42 (bsX7_forgetImages _  m5) (fun m6 => ?_)
      refine T_iload_n 0 rfl rfl dX7_text_45 ?_
      exact T_iret rfl dX7_text_46
    · refine T_iload_n 0 rfl rfl dX7_text_45 ?_
      exact T_iret rfl dX7_text_46)
theorem lmX7_216 : Cond.methodLink RX7 216 yX3_arrange ∈ gdL := gd_mem 721 (by decide +kernel) (by decide +kernel)
theorem lfX7_44 : Cond.fieldLink RX7 44 "RankStairs" "exchange" "LRankStairs$Exchange;" ∈ gdL := gd_mem 306 (by decide +kernel) (by decide +kernel)
theorem gRX7_44 {q : mMI} {X : mCx} {tgt : mR} {pc : Nat} {lv : List (Nat × Value)} {st : List Value} {μ : mMem} {b : Nat} (hq : q.1.cls = RX7) (hb : kd b = (7, 0)) (z : Nat) (hz : rf b 6 = z) (hd : decode q.2.1 pc = .ok (.getfield 44, 3)) (h : T q X tgt (pc + 3) lv (.ref z :: st) μ) : T q X tgt pc lv (.ref b :: st) μ := T_getR (c := 7) rfl (by decide) rfl (by decide) (by rw [hq]; exact lfX7_44) hb z hz hd h
theorem lfX7_219 : Cond.fieldLink RX7 219 "RankStairs$Exchange" "bestHave" "I" ∈ gdL := gd_mem 212 (by decide +kernel) (by decide +kernel)
theorem gIX7_219 {q : mMI} {X : mCx} {tgt : mR} {pc : Nat} {lv : List (Nat × Value)} {st : List Value} {μ : mMem} {b : Nat} (hq : q.1.cls = RX7) (hb : kd b = (3, 0)) (hd : decode q.2.1 pc = .ok (.getfield 219, 3)) (h : T q X tgt (pc + 3) lv (.int (μ.1 b 0) :: st) μ) : T q X tgt pc lv (.ref b :: st) μ := T_getI (c := 3) rfl (by decide) rfl (by decide) (by rw [hq]; exact lfX7_219) hb hd h
theorem pIX7_219 {q : mMI} {X : mCx} {tgt : mR} {pc : Nat} {lv : List (Nat × Value)} {st : List Value} {μ : mMem} {b : Nat} {x : Int32} (hq : q.1.cls = RX7) (hn : narrow .int (.int x) = .int x) (hfit : fits .int (.int x) = true) (hb : kd b = (3, 0)) (hd : decode q.2.1 pc = .ok (.putfield 219, 3)) (h : T q X tgt (pc + 3) lv st (si μ b 0 x)) : T q X tgt pc lv (.int x :: .ref b :: st) μ := T_put (c := 3) rfl (by decide) rfl (by decide) (by rw [hq]; exact lfX7_219) (by decide) hn hfit hb hd h
theorem lfX7_222 : Cond.fieldLink RX7 222 "RankStairs$Exchange" "bestSteps" "I" ∈ gdL := gd_mem 214 (by decide +kernel) (by decide +kernel)
theorem gIX7_222 {q : mMI} {X : mCx} {tgt : mR} {pc : Nat} {lv : List (Nat × Value)} {st : List Value} {μ : mMem} {b : Nat} (hq : q.1.cls = RX7) (hb : kd b = (3, 0)) (hd : decode q.2.1 pc = .ok (.getfield 222, 3)) (h : T q X tgt (pc + 3) lv (.int (μ.1 b 1) :: st) μ) : T q X tgt pc lv (.ref b :: st) μ := T_getI (c := 3) rfl (by decide) rfl (by decide) (by rw [hq]; exact lfX7_222) hb hd h
theorem pIX7_222 {q : mMI} {X : mCx} {tgt : mR} {pc : Nat} {lv : List (Nat × Value)} {st : List Value} {μ : mMem} {b : Nat} {x : Int32} (hq : q.1.cls = RX7) (hn : narrow .int (.int x) = .int x) (hfit : fits .int (.int x) = true) (hb : kd b = (3, 0)) (hd : decode q.2.1 pc = .ok (.putfield 222, 3)) (h : T q X tgt (pc + 3) lv st (si μ b 1 x)) : T q X tgt pc lv (.int x :: .ref b :: st) μ := T_put (c := 3) rfl (by decide) rfl (by decide) (by rw [hq]; exact lfX7_222) (by decide) hn hfit hb hd h
theorem lfX7_225 : Cond.fieldLink RX7 225 "RankStairs$Exchange" "bestTakes" "[I" ∈ gdL := gd_mem 216 (by decide +kernel) (by decide +kernel)
theorem gRX7_225 {q : mMI} {X : mCx} {tgt : mR} {pc : Nat} {lv : List (Nat × Value)} {st : List Value} {μ : mMem} {b : Nat} (hq : q.1.cls = RX7) (hb : kd b = (3, 0)) (z : Nat) (hz : rf b 2 = z) (hd : decode q.2.1 pc = .ok (.getfield 225, 3)) (h : T q X tgt (pc + 3) lv (.ref z :: st) μ) : T q X tgt pc lv (.ref b :: st) μ := T_getR (c := 3) rfl (by decide) rfl (by decide) (by rw [hq]; exact lfX7_225) hb z hz hd h
def jX7_lodge_24 (x1 : Int32) (x2 : Int32) (m : mMem) : mR := bV (fX3_arrange 0 m) (fun m8 => if x1 = (0 : Int32) then some (some (.int (m8.1 57 0)), m8) else if x1 = (1 : Int32) then some (some (.int (m8.1 57 1)), m8) else ga x2 4 (ga (m8.1 58 (x2).toNatClampNeg) 4 (some (some (.int (m8.1 7 ((m8.1 58 (x2).toNatClampNeg)).toNatClampNeg)), m8))))
set_option maxRecDepth 100000 in
theorem uX7_lodge_24 (X : mCx) (x1 : Int32) (x2 : Int32) (m : mMem)  : T qX7_lodge X (jX7_lodge_24 x1 x2 m) 24 [(0, .ref 48), (1, .int x1), (2, .int x2)] [] m := by
  unfold jX7_lodge_24
  refine T_aload_n 0 rfl rfl dX7_lodge_24 ?_
  refine gRX7_44 rfl kd_48 57 rfl dX7_lodge_25 ?_
  refine T_aload_n 0 rfl rfl dX7_lodge_28 ?_
  refine gRX7_19 rfl kd_48 0 rfl dX7_lodge_29 ?_
  refine T_cVV (c := 3) [.ref 0] [] mkX3_arrange lmX7_216 rfl rfl (by decide) (Nat.le_of_ble_eq_true rfl) kd_57 dX7_lodge_32 (bsX3_arrange _ 0 m kd_0) (fun m8 => ?_)
  refine T_iload_n 1 rfl rfl dX7_lodge_35 ?_
  refine T_if_ne 47 dX7_lodge_36 (by decide) (fun _ => ?_) (fun _ => ?_)
  · refine T_aload_n 0 rfl rfl dX7_lodge_39 ?_
    refine gRX7_44 rfl kd_48 57 rfl dX7_lodge_40 ?_
    refine gIX7_219 rfl kd_57 dX7_lodge_43 ?_
    exact T_iret rfl dX7_lodge_46
  · refine T_iload_n 1 rfl rfl dX7_lodge_47 ?_
    refine T_iconst (1 : Int32) (by decide) dX7_lodge_48 ?_
    refine T_icmp_ne 62 dX7_lodge_49 (by decide) (fun _ => ?_) (fun _ => ?_)
    · refine T_aload_n 0 rfl rfl dX7_lodge_52 ?_
      refine gRX7_44 rfl kd_48 57 rfl dX7_lodge_53 ?_
      refine gIX7_222 rfl kd_57 dX7_lodge_56 ?_
      refine T_goto 79 dX7_lodge_59 (by decide) ?_
      exact T_iret rfl dX7_lodge_79
    · refine T_aload_n 0 rfl rfl dX7_lodge_62 ?_
      refine gRX7_19 rfl kd_48 0 rfl dX7_lodge_63 ?_
      refine gRX7_148 rfl kd_0 7 rfl dX7_lodge_66 ?_
      refine T_aload_n 0 rfl rfl dX7_lodge_69 ?_
      refine gRX7_44 rfl kd_48 57 rfl dX7_lodge_70 ?_
      refine gRX7_225 rfl kd_57 58 rfl dX7_lodge_73 ?_
      refine T_iload_n 2 rfl rfl dX7_lodge_76 ?_
      refine T_iald kd_58 dX7_lodge_77 ?_
      refine T_iald kd_7 dX7_lodge_78 ?_
      exact T_iret rfl dX7_lodge_79
def fX7_lodge (x1 : Int32) (m : mMem) : mR := li (x1 - (10 : Int32)) (fun y1 => bI (fX7_within x1 (0 : Int32) (1 : Int32) m) (fun z3 m2 => if z3 = (0 : Int32) then bI (fX7_isLodger y1 m2) (fun z6 m5 => if z6 = (0 : Int32) then some (some (.int (-1 : Int32)), m5) else jX7_lodge_24 x1 y1 m5) else jX7_lodge_24 x1 y1 m2))
set_option maxRecDepth 100000 in
theorem bsX7_lodge (l : Launch) (x1 : Int32) (m : mMem)  : BS l qX7_lodge [.ref 48, .int x1] m (fX7_lodge x1 m) := BS_of (by decide) (Nat.le_of_ble_eq_true rfl) (fun X _ => by
    show T qX7_lodge X (fX7_lodge x1 m) 0 [(0, .ref 48), (1, .int x1)] [] m
    unfold fX7_lodge
    refine T_iload_n 1 rfl rfl dX7_lodge_0 ?_
    refine T_bipush (10 : Int32) (by decide) dX7_lodge_1 ?_
    refine T_isub dX7_lodge_3 ?_
    refine T_istore_n (lv' := [(2, .int (x1 - (10 : Int32))), (0, .ref 48), (1, .int x1)]) rfl (Nat.le_of_ble_eq_true rfl) rfl dX7_lodge_4 ?_
    refine T_li (fun y1 => ?_)
    refine T_iload_n 2 rfl rfl dX7_lodge_5 ?_
    refine T_iconst (0 : Int32) (by decide) dX7_lodge_6 ?_
    refine T_iconst (1 : Int32) (by decide) dX7_lodge_7 ?_
    refine T_cSI [.int x1, .int (0 : Int32), .int (1 : Int32)] [] mkX7_within lmX7_73 rfl (by decide) (Nat.le_of_ble_eq_true rfl) dX7_lodge_8 (bsX7_within _ x1 (0 : Int32) (1 : Int32) m) (fun z3 m2 => ?_)
    refine T_if_ne 24 dX7_lodge_11 (by decide) (fun _ => ?_) (fun _ => ?_)
    · refine T_aload_n 1 rfl rfl dX7_lodge_14 ?_
      refine T_iload_n 0 rfl rfl dX7_lodge_15 ?_
      refine T_cVI (c := 7) [.int y1] [] mkX7_isLodger lmX7_136 rfl rfl (by decide) (Nat.le_of_ble_eq_true rfl) kd_48 dX7_lodge_16 (bsX7_isLodger _ y1 m2) (fun z6 m5 => ?_)
      refine T_if_ne 24 dX7_lodge_19 (by decide) (fun _ => ?_) (fun _ => ?_)
      · refine T_iconst (-1 : Int32) (by decide) dX7_lodge_22 ?_
        exact T_iret rfl dX7_lodge_23
      · exact T_sub [1, 2, 0] rfl (uX7_lodge_24 X x1 y1 m5 )
    · exact T_sub [1, 2, 0] rfl (uX7_lodge_24 X x1 y1 m2 ))
theorem lmX7_241 : Cond.methodLink RX7 241 yX2_search ∈ gdL := gd_mem 778 (by decide +kernel) (by decide +kernel)
def fX7_fits  (m : mMem) : mR := bI (fX2_search 0 m) (fun z2 m1 => some (some (.int z2), m1))
set_option maxRecDepth 100000 in
theorem bsX7_fits (l : Launch)  (m : mMem)  : BS l qX7_fits [.ref 48] m (fX7_fits  m) := BS_of (by decide) (Nat.le_of_ble_eq_true rfl) (fun X _ => by
    show T qX7_fits X (fX7_fits  m) 0 [(0, .ref 48)] [] m
    unfold fX7_fits
    refine T_aload_n 0 rfl rfl dX7_fits_0 ?_
    refine gRX7_58 rfl kd_48 65 rfl dX7_fits_1 ?_
    refine T_aload_n 0 rfl rfl dX7_fits_4 ?_
    refine gRX7_19 rfl kd_48 0 rfl dX7_fits_5 ?_
    refine T_cVI (c := 2) [.ref 0] [] mkX2_search lmX7_241 rfl rfl (by decide) (Nat.le_of_ble_eq_true rfl) kd_65 dX7_fits_8 (bsX2_search _ 0 m kd_0) (fun z2 m1 => ?_)
    exact T_iret rfl dX7_fits_11)
theorem lfX7_244 : Cond.fieldLink RX7 244 "RankStairs$Dust" "floorBits" "[I" ∈ gdL := gd_mem 260 (by decide +kernel) (by decide +kernel)
theorem gRX7_244 {q : mMI} {X : mCx} {tgt : mR} {pc : Nat} {lv : List (Nat × Value)} {st : List Value} {μ : mMem} {b : Nat} (hq : q.1.cls = RX7) (hb : kd b = (2, 0)) (z : Nat) (hz : rf b 1 = z) (hd : decode q.2.1 pc = .ok (.getfield 244, 3)) (h : T q X tgt (pc + 3) lv (.ref z :: st) μ) : T q X tgt pc lv (.ref b :: st) μ := T_getR (c := 2) rfl (by decide) rfl (by decide) (by rw [hq]; exact lfX7_244) hb z hz hd h
def fX7_floors (x1 : Int32) (m : mMem) : mR := bI (fX7_isLodger x1 m) (fun z2 m1 => if z2 = (0 : Int32) then some (some (.int (-1 : Int32)), m1) else bI (fX2_search 0 m1) (fun z5 m4 => ga x1 4 (some (some (.int (m4.1 66 (x1).toNatClampNeg)), m4))))
set_option maxRecDepth 100000 in
theorem bsX7_floors (l : Launch) (x1 : Int32) (m : mMem)  : BS l qX7_floors [.ref 48, .int x1] m (fX7_floors x1 m) := BS_of (by decide) (Nat.le_of_ble_eq_true rfl) (fun X _ => by
    show T qX7_floors X (fX7_floors x1 m) 0 [(0, .ref 48), (1, .int x1)] [] m
    unfold fX7_floors
    refine T_aload_n 0 rfl rfl dX7_floors_0 ?_
    refine T_iload_n 1 rfl rfl dX7_floors_1 ?_
    refine T_cVI (c := 7) [.int x1] [] mkX7_isLodger lmX7_136 rfl rfl (by decide) (Nat.le_of_ble_eq_true rfl) kd_48 dX7_floors_2 (bsX7_isLodger _ x1 m) (fun z2 m1 => ?_)
    refine T_if_ne 10 dX7_floors_5 (by decide) (fun _ => ?_) (fun _ => ?_)
    · refine T_iconst (-1 : Int32) (by decide) dX7_floors_8 ?_
      exact T_iret rfl dX7_floors_9
    · refine T_aload_n 0 rfl rfl dX7_floors_10 ?_
      refine gRX7_58 rfl kd_48 65 rfl dX7_floors_11 ?_
      refine T_aload_n 0 rfl rfl dX7_floors_14 ?_
      refine gRX7_19 rfl kd_48 0 rfl dX7_floors_15 ?_
      refine T_cVI (c := 2) [.ref 0] [] mkX2_search lmX7_241 rfl rfl (by decide) (Nat.le_of_ble_eq_true rfl) kd_65 dX7_floors_18 (bsX2_search _ 0 m1 kd_0) (fun z5 m4 => ?_)
      refine T_pop rfl dX7_floors_21 ?_
      refine T_aload_n 0 rfl rfl dX7_floors_22 ?_
      refine gRX7_58 rfl kd_48 65 rfl dX7_floors_23 ?_
      refine gRX7_244 rfl kd_65 66 rfl dX7_floors_26 ?_
      refine T_iload_n 1 rfl rfl dX7_floors_29 ?_
      refine T_iald kd_66 dX7_floors_30 ?_
      exact T_iret rfl dX7_floors_31)
